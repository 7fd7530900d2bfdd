/-! rows, one behind another, by the record -/
section
variable {P : Nat → Nat → Int32} {r s : Nat → Int32} {t p n : Nat} {x : Int32}
theorem m_val_if {o : Nat} (hi : m_i r t = 16 * t + p) (ho : o < 13) (eo : P 106 (16 * t + p) = nI o) : m_val P r t x = (if o = 0 then upd r (16 + 6 * t + (P 107 (16 * t + p)).toNatClampNeg) (P 108 (16 * t + p)) else if o = 1 then upd r (16 + 6 * t + (P 107 (16 * t + p)).toNatClampNeg) (r (P 108 (16 * t + p)).toNatClampNeg) else if o = 2 then upd r (P 107 (16 * t + p)).toNatClampNeg (r (16 + 6 * t + (P 108 (16 * t + p)).toNatClampNeg)) else if o = 3 then upd r (16 + 6 * t + (P 107 (16 * t + p)).toNatClampNeg) (r (16 + 6 * t + (P 107 (16 * t + p)).toNatClampNeg) + r (16 + 6 * t + (P 108 (16 * t + p)).toNatClampNeg)) else if o = 4 then upd r (16 + 6 * t + (P 107 (16 * t + p)).toNatClampNeg) (r (16 + 6 * t + (P 107 (16 * t + p)).toNatClampNeg) - r (16 + 6 * t + (P 108 (16 * t + p)).toNatClampNeg)) else if o = 5 then upd r (16 + 6 * t + (P 107 (16 * t + p)).toNatClampNeg) (r (16 + 6 * t + (P 107 (16 * t + p)).toNatClampNeg) * r (16 + 6 * t + (P 108 (16 * t + p)).toNatClampNeg)) else if o = 6 then upd (upd r (16 + 6 * t + (P 107 (16 * t + p)).toNatClampNeg) x) (48 + (P 108 (16 * t + p)).toNatClampNeg) (r (48 + (P 108 (16 * t + p)).toNatClampNeg) + nI 1) else if o = 7 then upd r (40 + (P 107 (16 * t + p)).toNatClampNeg) (nI t) else if o = 8 then upd r (40 + (P 107 (16 * t + p)).toNatClampNeg) (if r (40 + (P 107 (16 * t + p)).toNatClampNeg) = nI t then -1 else r (40 + (P 107 (16 * t + p)).toNatClampNeg)) else r) := by
  unfold m_val
  simp (disch := omega) only [hi, eo, nI_eq]
theorem m_val_c (hi : m_i r t = 16 * t + p) (hi' : m_i s t = 16 * t + p) (hok : p_ok P (16 * t + p) n) (ht : t < 4) (hc : c_eq r s) : c_eq (m_val P r t x) (m_val P s t x) := by
  obtain ⟨o, ho, eo, q1, q2, q3, q4, q5, q6⟩ := hok
  have cu : ∀ {f g : Nat → Int32} {k : Nat} {y z : Int32}, c_eq f g → y = z → c_eq (upd f k y) (upd g k z) := by
    intro f g k y z h e j hj
    by_cases c : j = k
    · rw [c, upd_eq, upd_eq, e]
    · rw [upd_ne c, upd_ne c]; exact h j hj
  rw [m_val_if hi ho eo, m_val_if hi' ho eo]
  by_cases c0 : o = 0
  · rw [if_pos c0, if_pos c0]; exact cu hc rfl
  rw [if_neg c0, if_neg c0]
  by_cases c1 : o = 1
  · have b := vb (q3 c1); rw [if_pos c1, if_pos c1]; exact cu hc (hc _ (by omega))
  rw [if_neg c1, if_neg c1]
  by_cases c2 : o = 2
  · have b := vb (q4 (by omega)); rw [if_pos c2, if_pos c2]; exact cu hc (hc _ (by omega))
  rw [if_neg c2, if_neg c2]
  by_cases c3 : o = 3
  · have b := vb (q4 (by omega)); have b' := vb (q2 (by omega) (by omega) (by omega)); rw [if_pos c3, if_pos c3]; exact cu hc (by rw [hc (16 + 6 * t + (P 107 (16 * t + p)).toNatClampNeg) (by omega), hc (16 + 6 * t + (P 108 (16 * t + p)).toNatClampNeg) (by omega)])
  rw [if_neg c3, if_neg c3]
  by_cases c4 : o = 4
  · have b := vb (q4 (by omega)); have b' := vb (q2 (by omega) (by omega) (by omega)); rw [if_pos c4, if_pos c4]; exact cu hc (by rw [hc (16 + 6 * t + (P 107 (16 * t + p)).toNatClampNeg) (by omega), hc (16 + 6 * t + (P 108 (16 * t + p)).toNatClampNeg) (by omega)])
  rw [if_neg c4, if_neg c4]
  by_cases c5 : o = 5
  · have b := vb (q4 (by omega)); have b' := vb (q2 (by omega) (by omega) (by omega)); rw [if_pos c5, if_pos c5]; exact cu hc (by rw [hc (16 + 6 * t + (P 107 (16 * t + p)).toNatClampNeg) (by omega), hc (16 + 6 * t + (P 108 (16 * t + p)).toNatClampNeg) (by omega)])
  rw [if_neg c5, if_neg c5]
  by_cases c6 : o = 6
  · have b := vb (q5 c6); rw [if_pos c6, if_pos c6]; exact cu (cu hc rfl) (by rw [hc (48 + (P 108 (16 * t + p)).toNatClampNeg) (by omega)])
  rw [if_neg c6, if_neg c6]
  by_cases c7 : o = 7
  · rw [if_pos c7, if_pos c7]; exact cu hc rfl
  rw [if_neg c7, if_neg c7]
  by_cases c8 : o = 8
  · have b := vb (q2 (by omega) (by omega) (by omega)); rw [if_pos c8, if_pos c8]; exact cu hc (by rw [hc (40 + (P 107 (16 * t + p)).toNatClampNeg) (by omega)])
  rw [if_neg c8, if_neg c8]
  exact hc
theorem m_to_c (hi : m_i r t = 16 * t + p) (hi' : m_i s t = 16 * t + p) (hok : p_ok P (16 * t + p) n) (ht : t < 4) (hc : c_eq r s) : m_to P r t = m_to P s t := by
  obtain ⟨o, ho, eo, q1, q2, q3, q4, q5, q6⟩ := hok
  unfold m_to
  simp (disch := omega) only [Nat.reduceEqDiff, reduceIte, nI_mulI, nI_add, nI_clamp, nI_ltI, nI_leI, nI_eq, nI_e0, nI_n0, vt, forall_eq, true_and, and_true, true_implies, forall_const, not_true_eq_false, not_false_eq_true, false_implies, implies_true, hi, hi', eo]
  rw [hc (16 + 6 * t + 4) (by omega)]
  by_cases c9 : o = 9
  · rw [if_pos c9, if_pos c9]
  rw [if_neg c9, if_neg c9]
  by_cases c10 : o = 10
  · have b' := vb (q2 (by omega) (by omega) (by omega)); rw [if_pos c10, if_pos c10, hc (16 + 6 * t + (P 107 (16 * t + p)).toNatClampNeg) (by omega)]
  rw [if_neg c10, if_neg c10]
  by_cases c11 : o = 11
  · have b := vb (q4 (by omega)); have b' := vb (q2 (by omega) (by omega) (by omega)); rw [if_pos c11, if_pos c11, hc (16 + 6 * t + (P 107 (16 * t + p)).toNatClampNeg) (by omega), hc (16 + 6 * t + (P 108 (16 * t + p)).toNatClampNeg) (by omega)]
  rw [if_neg c11, if_neg c11]
end
theorem m_i_c {r s : Nat → Int32} {t : Nat} (ht : t < 4) (hc : c_eq r s) : m_i s t = m_i r t := by
  unfold m_i
  rw [hc _ (by omega)]
theorem m_do_c {P : Nat → Nat → Int32} {r s : Nat → Int32} {t : Nat} {x : Int32} (hp : p_in P) (hr : r_ok P r) (ht : t < (P 103 4).toNatClampNeg) (hs : r (16 + 6 * t + 4) < P 105 t) (hc : c_eq r s) : c_eq (m_do P r t x) (m_do P s t x) := by
  obtain ⟨p, n, ep, en, hpn, hn, hi, ht4, hok⟩ := r_at hp hr ht
  rw [ep, en, nI_ltI (by omega) (by omega)] at hs
  have hi' : m_i s t = 16 * t + p := (m_i_c ht4 hc).trans hi
  have hv := m_val_c (x := x) hi hi' (hok hs) ht4 hc
  unfold m_do
  rw [m_to_c hi hi' (hok hs) ht4 hc, hi, hi', hc (16 + 6 * t + 5) (by omega)]
  intro j hj
  by_cases c : j = 16 + 6 * t + 4
  · rw [c, upd_eq, upd_eq]
  · rw [upd_ne c, upd_ne c]
    by_cases c2 : j = 16 + 6 * t + 5
    · rw [c2, upd_eq, upd_eq]
    · rw [upd_ne c2, upd_ne c2]; exact hv j hj
theorem c_eq_sym {r s : Nat → Int32} (h : c_eq r s) : c_eq s r := fun k hk => (h k hk).symm
theorem c_eq_tr {r s u : Nat → Int32} (h : c_eq r s) (h' : c_eq s u) : c_eq r u := fun k hk => (h k hk).trans (h' k hk)
/-- who goes is C, and it can: the row behind -/
def go (P : Nat → Nat → Int32) (L : Nat → Int32) (s r2 : Nat → Int32) (C : Nat) : Prop := s 44 = nI C ∧ C < (P 103 4).toNatClampNeg ∧ m_can P L s C = true ∧ c_eq (m_do P s C (m_ri P (-1) 0 0 s C)) r2 ∧ r2 47 = s 47
/-- a row and the next one -/
def cs (I : Nat → Nat → Int32) (n : Nat) (L : Nat → Int32) (r r2 : Nat → Int32) : Prop := ∃ s C, m_tk I n (-1) 0 0 r s ∧ go I L s r2 C
theorem m_ri_c {P : Nat → Nat → Int32} {how wh ins : Int32} {r s : Nat → Int32} {t : Nat} (hp : p_in P) (hr : r_ok P r) (ht : t < (P 103 4).toNatClampNeg) (hs : r (16 + 6 * t + 4) < P 105 t) (hc : c_eq r s) : m_ri P how wh ins r t = m_ri P how wh ins s t := by
  obtain ⟨p, n, ep, en, hpn, hn, hi, ht4, hok⟩ := r_at hp hr ht
  rw [ep, en, nI_ltI (by omega) (by omega)] at hs
  have hi' : m_i s t = 16 * t + p := (m_i_c ht4 hc).trans hi
  obtain ⟨o, ho, eo, q1, q2, q3, q4, q5, q6⟩ := hok hs
  unfold m_ri
  rw [hi, hi', eo]
  simp (disch := omega) only [nI_eq]
  by_cases c6 : o = 6
  · have b := vb (q5 c6)
    rw [if_pos c6, if_pos c6, hc (48 + (P 108 (16 * t + p)).toNatClampNeg) (by omega)]
  · rw [if_neg c6, if_neg c6]
theorem m_inp_ri {P : Nat → Nat → Int32} {r : Nat → Int32} {t : Nat} (hp : p_in P) (hr : r_ok P r) (ht : t < (P 103 4).toNatClampNeg) (hs : r (16 + 6 * t + 4) < P 105 t) : m_ri P (-1) 0 0 r t = m_inp P (P 123) r t := by
  obtain ⟨p, n, ep, en, hpn, hn, hi, ht4, hok⟩ := r_at hp hr ht
  rw [ep, en, nI_ltI (by omega) (by omega)] at hs
  obtain ⟨o, ho, eo, q1, q2, q3, q4, q5, q6⟩ := hok hs
  unfold m_ri m_inp
  rw [hi, eo]
  simp (disch := omega) only [nI_eq]
  by_cases c6 : o = 6
  · obtain ⟨z, hz, ez⟩ := vn (q5 c6)
    rw [if_pos c6, if_pos c6, ez, nI_add, if_neg]
    intro q
    exact nI_nm (show 2 + z < 2 ^ 31 by omega) q.symm
  · rw [if_neg c6, if_neg c6]
/-- what is read at a step: reads grow -/
theorem go_rd {P : Nat → Nat → Int32} {L s r2 : Nat → Int32} {C : Nat} (hp : p_in P) (hr : r_ok P s) (h : go P L s r2 C) : ∀ z, z < 3 → r2 (48 + z) = (if P 106 (m_i s C) = nI 6 ∧ 48 + z = 48 + (P 108 (m_i s C)).toNatClampNeg then s (48 + z) + nI 1 else s (48 + z)) := by
  obtain ⟨h1, h2, h3, h4, h5⟩ := h
  obtain ⟨p, n, ep, en, hpn, hn, hi, ht4, hok⟩ := r_at hp hr h2
  have g := (m_can_t h3).1
  rw [ep, en, nI_ltI (by omega) (by omega)] at g
  intro z hz
  rw [← h4 (48 + z) (by omega)]
  unfold m_do
  rw [upd_ne (by omega), upd_ne (by omega), m_val_rd hi (hok g) ht4 (by omega) (by omega), hi]
