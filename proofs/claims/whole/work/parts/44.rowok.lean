/-! rows stay good -/
section
variable {P : Nat → Nat → Int32} {r : Nat → Int32} {t p n : Nat} {x : Int32}
theorem m_val_ne {k : Nat} (hi : m_i r t = 16 * t + p) (hok : p_ok P (16 * t + p) n) (ht : t < 4) (h1 : 16 ≤ k) (h2 : k < 16 + 6 * t ∨ 16 + 6 * t + 4 ≤ k) (h3 : k < 40 ∨ 44 ≤ k) (h4 : k < 48 ∨ 51 ≤ k) : m_val P r t x k = r k := by
  obtain ⟨o, ho, eo, q1, q2, q3, q4, q5, q6⟩ := hok
  unfold m_val
  simp (disch := omega) only [Nat.reduceEqDiff, reduceIte, nI_mulI, nI_add, nI_clamp, nI_ltI, nI_leI, nI_eq, nI_e0, nI_n0, vt, forall_eq, true_and, and_true, true_implies, forall_const, not_true_eq_false, not_false_eq_true, false_implies, implies_true, hi, eo]
  by_cases c0 : o = 0
  · have b := vb (q2 (by omega) (by omega) (by omega)); rw [if_pos c0, upd_ne (by omega)]
  rw [if_neg c0]
  by_cases c1 : o = 1
  · have b := vb (q2 (by omega) (by omega) (by omega)); rw [if_pos c1, upd_ne (by omega)]
  rw [if_neg c1]
  by_cases c2 : o = 2
  · have b := vb (q1 c2); rw [if_pos c2, upd_ne (by omega)]
  rw [if_neg c2]
  by_cases c3 : o = 3
  · have b := vb (q2 (by omega) (by omega) (by omega)); rw [if_pos c3, upd_ne (by omega)]
  rw [if_neg c3]
  by_cases c4 : o = 4
  · have b := vb (q2 (by omega) (by omega) (by omega)); rw [if_pos c4, upd_ne (by omega)]
  rw [if_neg c4]
  by_cases c5 : o = 5
  · have b := vb (q2 (by omega) (by omega) (by omega)); rw [if_pos c5, upd_ne (by omega)]
  rw [if_neg c5]
  by_cases c6 : o = 6
  · have b := vb (q2 (by omega) (by omega) (by omega)); have b' := vb (q5 c6); rw [if_pos c6, upd_ne (by omega), upd_ne (by omega)]
  rw [if_neg c6]
  by_cases c7 : o = 7
  · have b := vb (q2 (by omega) (by omega) (by omega)); rw [if_pos c7, upd_ne (by omega)]
  rw [if_neg c7]
  by_cases c8 : o = 8
  · have b := vb (q2 (by omega) (by omega) (by omega)); rw [if_pos c8, upd_ne (by omega)]
  rw [if_neg c8]
theorem m_val_lk {k : Nat} (hi : m_i r t = 16 * t + p) (hok : p_ok P (16 * t + p) n) (ht : t < 4) (hk : 40 ≤ k) (hk' : k < 44) : m_val P r t x k = r k ∨ m_val P r t x k = nI t ∨ m_val P r t x k = -1 := by
  obtain ⟨o, ho, eo, q1, q2, q3, q4, q5, q6⟩ := hok
  unfold m_val
  simp (disch := omega) only [Nat.reduceEqDiff, reduceIte, nI_mulI, nI_add, nI_clamp, nI_ltI, nI_leI, nI_eq, nI_e0, nI_n0, vt, forall_eq, true_and, and_true, true_implies, forall_const, not_true_eq_false, not_false_eq_true, false_implies, implies_true, hi, eo]
  by_cases c0 : o = 0
  · have b := vb (q2 (by omega) (by omega) (by omega)); rw [if_pos c0, upd_ne (by omega)]; exact Or.inl rfl
  rw [if_neg c0]
  by_cases c1 : o = 1
  · have b := vb (q2 (by omega) (by omega) (by omega)); rw [if_pos c1, upd_ne (by omega)]; exact Or.inl rfl
  rw [if_neg c1]
  by_cases c2 : o = 2
  · have b := vb (q1 c2); rw [if_pos c2, upd_ne (by omega)]; exact Or.inl rfl
  rw [if_neg c2]
  by_cases c3 : o = 3
  · have b := vb (q2 (by omega) (by omega) (by omega)); rw [if_pos c3, upd_ne (by omega)]; exact Or.inl rfl
  rw [if_neg c3]
  by_cases c4 : o = 4
  · have b := vb (q2 (by omega) (by omega) (by omega)); rw [if_pos c4, upd_ne (by omega)]; exact Or.inl rfl
  rw [if_neg c4]
  by_cases c5 : o = 5
  · have b := vb (q2 (by omega) (by omega) (by omega)); rw [if_pos c5, upd_ne (by omega)]; exact Or.inl rfl
  rw [if_neg c5]
  by_cases c6 : o = 6
  · have b := vb (q2 (by omega) (by omega) (by omega)); have b' := vb (q5 c6); rw [if_pos c6, upd_ne (by omega), upd_ne (by omega)]; exact Or.inl rfl
  rw [if_neg c6]
  by_cases c7 : o = 7
  · rw [if_pos c7]
    by_cases e : k = 40 + (P 107 (16 * t + p)).toNatClampNeg
    · rw [e, upd_eq]; exact Or.inr (Or.inl rfl)
    · rw [upd_ne e]; exact Or.inl rfl
  rw [if_neg c7]
  by_cases c8 : o = 8
  · rw [if_pos c8]
    by_cases e : k = 40 + (P 107 (16 * t + p)).toNatClampNeg
    · rw [e, upd_eq]
      by_cases e2 : r (40 + (P 107 (16 * t + p)).toNatClampNeg) = nI t
      · rw [if_pos e2]; exact Or.inr (Or.inr rfl)
      · rw [if_neg e2]; exact Or.inl rfl
    · rw [upd_ne e]; exact Or.inl rfl
  rw [if_neg c8]
  exact Or.inl rfl
theorem m_val_rd {k : Nat} (hi : m_i r t = 16 * t + p) (hok : p_ok P (16 * t + p) n) (ht : t < 4) (hk : 48 ≤ k) (hk' : k < 51) : m_val P r t x k = (if P 106 (16 * t + p) = nI 6 ∧ k = 48 + (P 108 (16 * t + p)).toNatClampNeg then r k + nI 1 else r k) := by
  obtain ⟨o, ho, eo, q1, q2, q3, q4, q5, q6⟩ := hok
  unfold m_val
  simp (disch := omega) only [Nat.reduceEqDiff, reduceIte, nI_mulI, nI_add, nI_clamp, nI_ltI, nI_leI, nI_eq, nI_e0, nI_n0, vt, forall_eq, true_and, and_true, true_implies, forall_const, not_true_eq_false, not_false_eq_true, false_implies, implies_true, hi, eo]
  by_cases c0 : o = 0
  · have b := vb (q2 (by omega) (by omega) (by omega)); rw [if_pos c0, upd_ne (by omega), if_neg (by omega)]
  rw [if_neg c0]
  by_cases c1 : o = 1
  · have b := vb (q2 (by omega) (by omega) (by omega)); rw [if_pos c1, upd_ne (by omega), if_neg (by omega)]
  rw [if_neg c1]
  by_cases c2 : o = 2
  · have b := vb (q1 c2); rw [if_pos c2, upd_ne (by omega), if_neg (by omega)]
  rw [if_neg c2]
  by_cases c3 : o = 3
  · have b := vb (q2 (by omega) (by omega) (by omega)); rw [if_pos c3, upd_ne (by omega), if_neg (by omega)]
  rw [if_neg c3]
  by_cases c4 : o = 4
  · have b := vb (q2 (by omega) (by omega) (by omega)); rw [if_pos c4, upd_ne (by omega), if_neg (by omega)]
  rw [if_neg c4]
  by_cases c5 : o = 5
  · have b := vb (q2 (by omega) (by omega) (by omega)); rw [if_pos c5, upd_ne (by omega), if_neg (by omega)]
  rw [if_neg c5]
  by_cases c6 : o = 6
  · have b := vb (q2 (by omega) (by omega) (by omega))
    rw [if_pos c6]
    by_cases e : k = 48 + (P 108 (16 * t + p)).toNatClampNeg
    · rw [e, upd_eq, if_pos ⟨c6, rfl⟩]
    · rw [upd_ne e, upd_ne (by omega), if_neg (by omega)]
  rw [if_neg c6]
  by_cases c7 : o = 7
  · have b := vb (q2 (by omega) (by omega) (by omega)); rw [if_pos c7, upd_ne (by omega), if_neg (by omega)]
  rw [if_neg c7]
  by_cases c8 : o = 8
  · have b := vb (q2 (by omega) (by omega) (by omega)); rw [if_pos c8, upd_ne (by omega), if_neg (by omega)]
  rw [if_neg c8, if_neg (by omega)]
theorem m_to_in (hi : m_i r t = 16 * t + p) (ep : r (16 + 6 * t + 4) = nI p) (hpn : p < n) (hn : n ≤ 16) (hok : p_ok P (16 * t + p) n) : vp_in (m_to P r t) (n + 1) := by
  obtain ⟨o, ho, eo, q1, q2, q3, q4, q5, q6⟩ := hok
  have hN : vp_in (r (16 + 6 * t + 4) + nI 1) (n + 1) := by rw [ep, nI_add]; exact vp_in_nI (by omega) (by omega)
  unfold m_to
  simp (disch := omega) only [hi, eo, nI_eq]
  by_cases c9 : o = 9
  · rw [if_pos c9]; exact vl (q6 (by omega)) (by omega)
  rw [if_neg c9]
  by_cases c10 : o = 10
  · rw [if_pos c10]
    split
    · exact vl (q6 (by omega)) (by omega)
    · exact hN
  rw [if_neg c10]
  by_cases c11 : o = 11
  · rw [if_pos c11]
    split
    · exact vl (q6 (by omega)) (by omega)
    · exact hN
  rw [if_neg c11]
  exact hN
end
/-- an instruction leaves a good row -/
theorem m_do_ok {P : Nat → Nat → Int32} {r : Nat → Int32} {t : Nat} {x : Int32} (hp : p_in P) (hr : r_ok P r) (ht : t < (P 103 4).toNatClampNeg) (hs : r (16 + 6 * t + 4) < P 105 t) (hrd : P 106 (m_i r t) = nI 6 → (r (48 + (P 108 (m_i r t)).toNatClampNeg)).toNatClampNeg < 30) : r_ok P (m_do P r t x) := by
  obtain ⟨p, n, ep, en, hpn, hn, hi, ht4, hok⟩ := r_at hp hr ht
  rw [ep, en, nI_ltI (by omega) (by omega)] at hs
  have hok := hok hs
  have hm := vb hp.1
  obtain ⟨a, b, c, d⟩ := hr
  unfold m_do
  refine ⟨fun t' ht' => ?_, fun l hl => ?_, ?_, fun q hq => ?_⟩
  · by_cases e : t' = t
    · subst e
      rw [upd_eq, en, nI_clamp (by omega)]
      exact m_to_in hi ep hs hn hok
    · rw [upd_ne (by omega), upd_ne (by omega), m_val_ne hi hok ht4 (by omega) (by omega) (by omega) (by omega)]
      exact a t' ht'
  · rw [upd_ne (by omega), upd_ne (by omega)]
    rcases m_val_lk (x := x) hi hok ht4 (by omega) (show 40 + l < 44 by omega) with e | e | e
    · rw [e]; exact b l hl
    · rw [e]; exact Or.inr (vp_in_nI ht (by omega))
    · exact Or.inl e
  · rw [upd_ne (by omega), upd_ne (by omega), m_val_ne hi hok ht4 (by omega) (by omega) (by omega) (by omega)]
    exact c
  · rw [upd_ne (by omega), upd_ne (by omega), m_val_rd hi hok ht4 (by omega) (by omega)]
    rw [hi] at hrd
    split
    · rename_i e
      have h30 := hrd e.1
      rw [← e.2] at h30
      rw [vc (d q hq), nI_add]
      exact vp_in_nI (by omega) (by omega)
    · exact d q hq
