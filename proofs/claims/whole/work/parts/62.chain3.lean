/-! the record may grow and shrink -/
theorem go_mv {P P' : Nat → Nat → Int32} {L L' s r2 : Nat → Int32} {C : Nat} (hp : p_in P) (hr : r_ok P s) (hpe : p_eq P P') (e123 : P' 123 = P 123) (hL : ∀ z, z < 3 → r2 (48 + z) ≤ L' z) (h : go P L s r2 C) : go P' L' s r2 C := by
  have hrd := go_rd hp hr h
  obtain ⟨h44, hC, hcan, hc, h47⟩ := h
  obtain ⟨p, n, ep, en, hpn, hn, hi, ht4, hok⟩ := r_at hp hr hC
  have g1 := (m_can_t hcan).1
  rw [ep, en, nI_ltI (by omega) (by omega)] at g1
  refine ⟨h44, by rw [hpe 103 (by omega) (by omega)]; exact hC, ?_, by rw [m_do_e hpe, m_ri_e hpe e123]; exact hc, h47⟩
  rw [m_can_e hpe]
  refine m_can_L hcan (fun c6 => ?_)
  obtain ⟨o, ho, eo, q1, q2, q3, q4, q5, q6⟩ := hok g1
  rw [hi] at c6 hrd ⊢
  have o6 : o = 6 := by rw [eo, nI_eq (by omega) (by omega)] at c6; exact c6
  have bz := vb (q5 o6)
  have h1 := hrd _ bz
  rw [if_pos ⟨c6, rfl⟩] at h1
  have h2 := hL _ bz
  rw [h1] at h2
  have b31 := hr.2.2.2 _ bz
  have b31' := vb b31
  refine Int32.lt_of_lt_of_le ?_ h2
  rw [vc b31]
  exact nI_lts (by omega)
/-- what a step by the record does to 44 and 47 -/
theorem tk_cases {I : Nat → Nat → Int32} {n k : Nat} {r s : Nat → Int32} (hk : r 47 = nI k) (hk4 : k ≤ 400) (hn : n ≤ 400) (h : m_tk I n (-1) 0 0 r s) : (s = r ∧ (k < n → ¬ m_due I k r)) ∨ (k < n ∧ m_due I k r ∧ s = upd (upd r 47 (nI (k + 1))) 44 (I 122 k)) := by
  have e : m_ix (-1) 0 (r 47) = nI k := by rw [hk]; exact m_ix_n
  unfold m_tk at h
  rw [e, nI_ltI (by omega) (by omega), nI_clamp (by omega)] at h
  by_cases c : k < n
  · by_cases d : m_due I k r
    · refine Or.inr ⟨c, d, ?_⟩
      have h3 := h.2.2 c d
      rw [hk, nI_add] at h3
      rw [h3]
      unfold m_nx
      rw [if_neg (fun q => nI_nm (show 0 < 2 ^ 31 by omega) q.symm), nI_clamp (by omega)]
    · exact Or.inl ⟨h.2.1 c d, fun _ => d⟩
  · exact Or.inl ⟨h.1 c, fun q => absurd q c⟩
theorem tk_mk {I : Nat → Nat → Int32} {n k : Nat} {r s : Nat → Int32} (hk : r 47 = nI k) (hk4 : k ≤ 400) (hn : n ≤ 400) (h : (s = r ∧ (k < n → ¬ m_due I k r)) ∨ (k < n ∧ m_due I k r ∧ s = upd (upd r 47 (nI (k + 1))) 44 (I 122 k))) : m_tk I n (-1) 0 0 r s := by
  have e : m_ix (-1) 0 (r 47) = nI k := by rw [hk]; exact m_ix_n
  unfold m_tk
  rw [e, nI_ltI (by omega) (by omega), nI_clamp (by omega)]
  rcases h with ⟨h1, h2⟩ | ⟨h1, h2, h3⟩
  · exact ⟨fun _ => h1, fun _ _ => h1, fun q1 q2 => absurd q2 (h2 q1)⟩
  · refine ⟨fun q => absurd h1 q, fun _ q => absurd h2 q, fun _ _ => ?_⟩
    rw [h3, hk, nI_add]
    unfold m_nx
    rw [if_neg (fun q => nI_nm (show 0 < 2 ^ 31 by omega) q.symm), nI_clamp (by omega)]
theorem nI_inj {a b : Nat} (ha : a < 2 ^ 31) (hb : b < 2 ^ 31) (h : nI a = nI b) : a = b := (nI_eq ha hb).mp h
/-- the record is another one: longer, or cut off behind the row -/
theorem cs_mv {I I' : Nat → Nat → Int32} {n n' k k2 : Nat} {L L' r r2 : Nat → Int32} (hp : p_in I) (hr : r_ok I r) (hk : r 47 = nI k) (hk2 : r2 47 = nI k2) (hk4 : k ≤ 400) (hk24 : k2 ≤ 400) (hn : n ≤ 400) (hn' : n' ≤ 400) (hv : ∀ i, i < n → vp_in (I 122 i) (I 103 4).toNatClampNeg) (hpe : p_eq I I') (e123 : I' 123 = I 123) (ha : k < n → k < n' → I' 120 k = I 120 k ∧ I' 121 k = I 121 k ∧ I' 122 k = I 122 k) (h2 : k2 ≤ n') (hnd : n ≤ k → k < n' → ¬ m_due I' k r) (hL : ∀ z, z < 3 → r2 (48 + z) ≤ L' z) (h : cs I n L r r2) : cs I' n' L' r r2 := by
  obtain ⟨s, C, ht, hg⟩ := h
  have hd : k < n → k < n' → (m_due I' k r ↔ m_due I k r) := by
    intro c1 c2
    obtain ⟨a1, a2, a3⟩ := ha c1 c2
    unfold m_due
    rw [a1, a2]
  have hrs := (m_tk_ok (I := I) (wh := 0) hp hr hk hk4 ⟨hn, hv, fun q => absurd q.symm (nI_nm (by omega))⟩ ht).1
  refine ⟨s, C, tk_mk hk hk4 hn' ?_, go_mv hp hrs hpe e123 hL hg⟩
  rcases tk_cases hk hk4 hn ht with ⟨h1, h3⟩ | ⟨h1, h3, h4⟩
  · refine Or.inl ⟨h1, fun c => ?_⟩
    by_cases c2 : k < n
    · rw [hd c2 c]; exact h3 c2
    · exact hnd (by omega) c
  · have e47 : s 47 = nI (k + 1) := by rw [h4, upd_ne (by omega), upd_eq]
    have : k2 = k + 1 := by
      have := hg.2.2.2.2
      rw [hk2, e47] at this
      exact nI_inj (by omega) (by omega) this
    have c : k < n' := by omega
    exact Or.inr ⟨c, (hd h1 c).mpr h3, by rw [h4, (ha h1 c).2.2]⟩
/-- a step goes on: in branches, or in places -/
theorem go_lx {P : Nat → Nat → Int32} {L s r2 : Nat → Int32} {C b : Nat} (hp : p_in P) (hr : r_ok P s) (hb : s (16 + 6 * C + 5) = nI b) (hb4 : b ≤ 400) (h : go P L s r2 C) : r2 44 = nI C ∧ ∃ p b' p', s (16 + 6 * C + 4) = nI p ∧ r2 (16 + 6 * C + 5) = nI b' ∧ r2 (16 + 6 * C + 4) = nI p' ∧ (b < b' ∨ b = b' ∧ p < p') ∧ b' ≤ b + 1 ∧ p ≤ 16 ∧ p' ≤ 16 := by
  obtain ⟨h44, hC, hcan, hc, h47⟩ := h
  obtain ⟨p, n, ep, en, hpn, hn, hi, ht4, hok⟩ := r_at hp hr hC
  have g0 := (m_can_t hcan).1
  have g1 := g0
  rw [ep, en, nI_ltI (by omega) (by omega)] at g1
  refine ⟨by rw [← hc 44 (by omega), m_do_k hp hr hC g0 (by omega) (by omega)]; exact h44, ?_⟩
  have hto := m_to_in hi ep g1 hn (hok g1)
  obtain ⟨p', hp', ep'⟩ := vn hto
  have e4 : r2 (16 + 6 * C + 4) = nI p' := by
    rw [← hc _ (by omega)]
    unfold m_do
    rw [upd_eq, ep']
  have e5 : r2 (16 + 6 * C + 5) = nI b + bI (m_isB P (16 * C + p)) := by
    rw [← hc _ (by omega)]
    unfold m_do
    rw [upd_ne (by omega), upd_eq, hi, hb]
  cases hB : m_isB P (16 * C + p) with
  | true =>
    rw [hB, show bI true = nI 1 from rfl, nI_add] at e5
    exact ⟨p, b + 1, p', ep, e5, e4, Or.inl (by omega), by omega, by omega, by omega⟩
  | false =>
    rw [hB, show bI false = nI 0 from rfl, nI_add] at e5
    refine ⟨p, b, p', ep, e5, e4, Or.inr ⟨rfl, ?_⟩, by omega, by omega, by omega⟩
    have ht : m_to P s C = nI (p + 1) := by
      unfold m_isB at hB
      simp only [Bool.or_eq_false_iff, decide_eq_false_iff_not] at hB
      unfold m_to
      rw [hi, if_neg hB.1.1, if_neg hB.1.2, if_neg hB.2, ep, nI_add]
    rw [ht] at ep'
    have := nI_inj (by omega) (by omega) ep'
    omega
/-- the others' branches stay -/
theorem go_br {P : Nat → Nat → Int32} {L s r2 : Nat → Int32} {C c : Nat} (hp : p_in P) (hr : r_ok P s) (hc4 : c < 4) (hne : c ≠ C) (h : go P L s r2 C) : r2 (16 + 6 * c + 5) = s (16 + 6 * c + 5) := by
  obtain ⟨h44, hC, hcan, hc, h47⟩ := h
  obtain ⟨p, n, ep, en, hpn, hn, hi, ht4, hok⟩ := r_at hp hr hC
  have g1 := (m_can_t hcan).1
  rw [ep, en, nI_ltI (by omega) (by omega)] at g1
  rw [← hc _ (by omega)]
  unfold m_do
  rw [upd_ne (by omega), upd_ne (by omega), m_val_ne hi (hok g1) ht4 (by omega) (by omega) (by omega) (by omega)]
