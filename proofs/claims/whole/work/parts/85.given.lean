/-! more is given: the rows stay -/
def g_eq (I I' : Nat → Nat → Int32) (L : Nat → Int32) : Prop := ∀ z, z < 3 → ∀ y, y < (L z).toNatClampNeg → I' 123 (30 * z + y) = I 123 (30 * z + y)
theorem go_g {P P' : Nat → Nat → Int32} {L s r2 : Nat → Int32} {C : Nat} (hp : p_in P) (hr : r_ok P s) (hpe : p_eq P P') (hL : ∀ z, z < 3 → vp_in (L z) 31) (hg : g_eq P P' L) (h : go P L s r2 C) : go P' L s r2 C := by
  obtain ⟨h44, hC, hcan, hc, h47⟩ := h
  obtain ⟨p, n, ep, en, hpn, hn, hi, ht4, hok⟩ := r_at hp hr hC
  obtain ⟨g1, g2, g3⟩ := m_can_t hcan
  rw [ep, en, nI_ltI (by omega) (by omega)] at g1
  obtain ⟨o, ho, eo, q1, q2, q3, q4, q5, q6⟩ := hok g1
  have er : m_ri P' (-1) 0 0 s C = m_ri P (-1) 0 0 s C := by
    unfold m_ri
    rw [hpe 106 (by omega) (by omega), hpe 108 (by omega) (by omega), hi, eo]
    simp (disch := omega) only [nI_eq]
    by_cases c6 : o = 6
    · obtain ⟨z, hz, ez⟩ := vn (q5 c6)
      have g2' := g2 (by rw [hi, eo, c6])
      rw [hi, ez, nI_clamp (by omega)] at g2'
      have v1 := hr.2.2.2 z hz
      have v1' := vb v1
      have v2 := hL z hz
      have v2' := vb v2
      rw [vc v1, vc v2, nI_ltI (by omega) (by omega)] at g2'
      rw [if_pos c6, if_pos c6, ez, nI_clamp (by omega), hg z hz _ g2']
    · rw [if_neg c6, if_neg c6]
  refine ⟨h44, by rw [hpe 103 (by omega) (by omega)]; exact hC, by rw [m_can_e hpe]; exact hcan, ?_, h47⟩
  rw [m_do_e hpe, er]
  exact hc
theorem RW_g {I I' : Nat → Nat → Int32} {T n : Nat} (hp : p_in I) (hpe : p_eq I I') (e117 : I' 117 = I 117) (e120 : I' 120 = I 120) (e121 : I' 121 = I 121) (e122 : I' 122 = I 122) (hg : g_eq I I' (lm I T)) (hr : RW I T n) : RW I' T n := by
  obtain ⟨h1, h2, h3, h4, h5, h6⟩ := hr
  have er := rt_e e117
  have el : lm I' T = lm I T := by funext z; unfold lm; rw [er]
  have hl : ∀ z, z < 3 → vp_in (lm I T z) 31 := fun z hz => (h2 T (Nat.le_refl _)).1.2.2.2 z hz
  refine ⟨h1, fun t ht => ?_, ?_, by rw [er]; exact h4, fun t ht => ?_, fun i hi => ?_⟩
  · rw [er]
    obtain ⟨a, b, c⟩ := h2 t ht
    exact ⟨(r_ok_e hpe).mpr a, b, c⟩
  · rw [er, hpe 103 (by omega) (by omega)]
    intro k hk
    rw [← h3 k hk]
    unfold m_first
    rw [hpe 104 (by omega) (by omega)]
  · rw [er, el]
    obtain ⟨ro, ⟨k, k1, k2⟩, _⟩ := h2 t (by omega)
    obtain ⟨s, C, a, b⟩ := h5 t ht
    have hs : r_ok I s := (m_tk_ok (wh := 0) hp ro k2 (by omega) ⟨by omega, h6, fun q => absurd q (m1_0 (by omega))⟩ a).1
    refine ⟨s, C, ?_, go_g hp hs hpe hl hg b⟩
    unfold m_tk m_due m_nx at a ⊢
    rw [e120, e121, e122]
    exact a
  · rw [e122, hpe 103 (by omega) (by omega)]
    exact h6 i hi
