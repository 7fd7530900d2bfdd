/-! the class's machines: an instruction -/
theorem c38_20 {E : am_Ev} {I : Nat → Nat → Int32} {J : Nat → Nat → Int64} {S : Nat → Nat → Option Nat} {Q : am_Qt} {t p n : Nat} {r : Nat → Int32} {x : Int32} (hi : m_i r t = 16 * t + p) (hok : p_ok I (16 * t + p) n) (hop : p_op I (16 * t + p)) (hm : rm I 20 r) (ht4 : t < 4) (hp16 : p < 16) (h44 : r 44 = nI t) (hb : ¬ I 106 (16 * t + p) = nI 9 ∧ ¬ I 106 (16 * t + p) = nI 10 ∧ ¬ I 106 (16 * t + p) = nI 11) (h : ∀ I', rm I' 20 (m_val I r t x) → fb I I' 21 26 → Q (.inl none) E I' J S) : am_cl 38 [.ref 20, .ref 12, .int (nI (16 * t + p)), .int x] E I J S Q := by
  show am_ww 38 0 [.ref 20, .ref 12, .int (nI (16 * t + p)), .int x, am_U, am_U, am_U] [] E I J S Q
  have e44 : I 20 6 = nI t := hm.2.2.2.2.2.1.trans h44
  obtain ⟨o, h1, h2, h3, h4, h5, h6, h7, h8⟩ := hop
  obtain ⟨o', h1', h2', q1, q2, q3, q4, q5, q6⟩ := hok
  have e : o' = o := by rw [h2, nI_eq (by omega) (by omega)] at h2'; exact h2'.symm
  subst e
  rw [h2] at hb
  simp (disch := omega) only [nI_eq] at hb
  apply g38_0_20
  simp (disch := omega) only [Nat.reduceEqDiff, reduceIte, nI_mulI, nI_add, nI_clamp, nI_ltI, nI_leI, nI_eq, nI_e0, nI_n0, vt, forall_eq, true_and, and_true, true_implies, forall_const, not_true_eq_false, not_false_eq_true, false_implies, implies_true, h3, e44]
  refine ⟨fun c => ?_, fun c => ?_, fun c => ?_, fun c => ?_, fun c => ?_, fun c => ?_, fun c => ?_, fun c => ?_, fun c => ?_, ?_⟩
  · have c' : o' = 0 := by omega
    subst c'
    obtain ⟨a, ha, ea⟩ := vn (q2 (by omega) (by omega) (by omega))
    have ev : m_val I r t x = upd r (16 + 6 * t + a) (I 108 (16 * t + p)) := by
      unfold m_val
      simp (disch := omega) only [Nat.reduceEqDiff, reduceIte, nI_mulI, nI_add, nI_clamp, nI_ltI, nI_leI, nI_eq, nI_e0, nI_n0, vt, forall_eq, true_and, and_true, true_implies, forall_const, not_true_eq_false, not_false_eq_true, false_implies, implies_true, hi, h2, ea]
    have k4 := h4 (by omega) (by omega)
    have k5 := h5 (by omega)
    simp (disch := omega) only [Nat.reduceEqDiff, reduceIte, nI_mulI, nI_add, nI_clamp, nI_ltI, nI_leI, nI_eq, nI_e0, nI_n0, vt, forall_eq, true_and, and_true, true_implies, forall_const, not_true_eq_false, not_false_eq_true, false_implies, implies_true, k4, k5, ea]
    exact h _ (by rw [ev]; exact rm_reg hm ht4 ha) (fb_u fb_id (by omega) (by omega))
  · have c' : o' = 1 := by omega
    subst c'
    obtain ⟨a, ha, ea⟩ := vn (q2 (by omega) (by omega) (by omega))
    obtain ⟨d, hd, ed⟩ := vn (q3 (by omega))
    have ev : m_val I r t x = upd r (16 + 6 * t + a) (r d) := by
      unfold m_val
      simp (disch := omega) only [Nat.reduceEqDiff, reduceIte, nI_mulI, nI_add, nI_clamp, nI_ltI, nI_leI, nI_eq, nI_e0, nI_n0, vt, forall_eq, true_and, and_true, true_implies, forall_const, not_true_eq_false, not_false_eq_true, false_implies, implies_true, hi, h2, ea, ed]
    have k4 := h4 (by omega) (by omega)
    have k5 := h5 (by omega)
    simp (disch := omega) only [Nat.reduceEqDiff, reduceIte, nI_mulI, nI_add, nI_clamp, nI_ltI, nI_leI, nI_eq, nI_e0, nI_n0, vt, forall_eq, true_and, and_true, true_implies, forall_const, not_true_eq_false, not_false_eq_true, false_implies, implies_true, k4, k5, ea, ed]
    rw [hm.1 d hd]
    exact h _ (by rw [ev]; exact rm_reg hm ht4 ha) (fb_u fb_id (by omega) (by omega))
  · have c' : o' = 2 := by omega
    subst c'
    obtain ⟨a, ha, ea⟩ := vn (q1 (by omega))
    obtain ⟨d, hd, ed⟩ := vn (q4 (by omega))
    have ev : m_val I r t x = upd r a (r (16 + 6 * t + d)) := by
      unfold m_val
      simp (disch := omega) only [Nat.reduceEqDiff, reduceIte, nI_mulI, nI_add, nI_clamp, nI_ltI, nI_leI, nI_eq, nI_e0, nI_n0, vt, forall_eq, true_and, and_true, true_implies, forall_const, not_true_eq_false, not_false_eq_true, false_implies, implies_true, hi, h2, ea, ed]
    have k4 := h4 (by omega) (by omega)
    have k5 := h5 (by omega)
    simp (disch := omega) only [Nat.reduceEqDiff, reduceIte, nI_mulI, nI_add, nI_clamp, nI_ltI, nI_leI, nI_eq, nI_e0, nI_n0, vt, forall_eq, true_and, and_true, true_implies, forall_const, not_true_eq_false, not_false_eq_true, false_implies, implies_true, k4, k5, ea, ed]
    rw [hm.2.1 t d ht4 hd]
    exact h _ (by rw [ev]; exact rm_cell hm ha) (fb_u fb_id (by omega) (by omega))
  · have c' : o' = 3 := by omega
    subst c'
    obtain ⟨a, ha, ea⟩ := vn (q2 (by omega) (by omega) (by omega))
    obtain ⟨d, hd, ed⟩ := vn (q4 (by omega))
    have ev : m_val I r t x = upd r (16 + 6 * t + a) (r (16 + 6 * t + a) + r (16 + 6 * t + d)) := by
      unfold m_val
      simp (disch := omega) only [Nat.reduceEqDiff, reduceIte, nI_mulI, nI_add, nI_clamp, nI_ltI, nI_leI, nI_eq, nI_e0, nI_n0, vt, forall_eq, true_and, and_true, true_implies, forall_const, not_true_eq_false, not_false_eq_true, false_implies, implies_true, hi, h2, ea, ed]
    have k4 := h4 (by omega) (by omega)
    have k5 := h5 (by omega)
    simp (disch := omega) only [Nat.reduceEqDiff, reduceIte, nI_mulI, nI_add, nI_clamp, nI_ltI, nI_leI, nI_eq, nI_e0, nI_n0, vt, forall_eq, true_and, and_true, true_implies, forall_const, not_true_eq_false, not_false_eq_true, false_implies, implies_true, k4, k5, ea, ed]
    rw [hm.2.1 t d ht4 hd, hm.2.1 t a ht4 ha]
    exact h _ (by rw [ev]; exact rm_reg hm ht4 ha) (fb_u fb_id (by omega) (by omega))
  · have c' : o' = 4 := by omega
    subst c'
    obtain ⟨a, ha, ea⟩ := vn (q2 (by omega) (by omega) (by omega))
    obtain ⟨d, hd, ed⟩ := vn (q4 (by omega))
    have ev : m_val I r t x = upd r (16 + 6 * t + a) (r (16 + 6 * t + a) - r (16 + 6 * t + d)) := by
      unfold m_val
      simp (disch := omega) only [Nat.reduceEqDiff, reduceIte, nI_mulI, nI_add, nI_clamp, nI_ltI, nI_leI, nI_eq, nI_e0, nI_n0, vt, forall_eq, true_and, and_true, true_implies, forall_const, not_true_eq_false, not_false_eq_true, false_implies, implies_true, hi, h2, ea, ed]
    have k4 := h4 (by omega) (by omega)
    have k5 := h5 (by omega)
    simp (disch := omega) only [Nat.reduceEqDiff, reduceIte, nI_mulI, nI_add, nI_clamp, nI_ltI, nI_leI, nI_eq, nI_e0, nI_n0, vt, forall_eq, true_and, and_true, true_implies, forall_const, not_true_eq_false, not_false_eq_true, false_implies, implies_true, k4, k5, ea, ed]
    rw [hm.2.1 t d ht4 hd, hm.2.1 t a ht4 ha]
    exact h _ (by rw [ev]; exact rm_reg hm ht4 ha) (fb_u fb_id (by omega) (by omega))
  · have c' : o' = 5 := by omega
    subst c'
    obtain ⟨a, ha, ea⟩ := vn (q2 (by omega) (by omega) (by omega))
    obtain ⟨d, hd, ed⟩ := vn (q4 (by omega))
    have ev : m_val I r t x = upd r (16 + 6 * t + a) (r (16 + 6 * t + a) * r (16 + 6 * t + d)) := by
      unfold m_val
      simp (disch := omega) only [Nat.reduceEqDiff, reduceIte, nI_mulI, nI_add, nI_clamp, nI_ltI, nI_leI, nI_eq, nI_e0, nI_n0, vt, forall_eq, true_and, and_true, true_implies, forall_const, not_true_eq_false, not_false_eq_true, false_implies, implies_true, hi, h2, ea, ed]
    have k4 := h4 (by omega) (by omega)
    have k5 := h5 (by omega)
    simp (disch := omega) only [Nat.reduceEqDiff, reduceIte, nI_mulI, nI_add, nI_clamp, nI_ltI, nI_leI, nI_eq, nI_e0, nI_n0, vt, forall_eq, true_and, and_true, true_implies, forall_const, not_true_eq_false, not_false_eq_true, false_implies, implies_true, k4, k5, ea, ed]
    rw [hm.2.1 t d ht4 hd, hm.2.1 t a ht4 ha]
    exact h _ (by rw [ev]; exact rm_reg hm ht4 ha) (fb_u fb_id (by omega) (by omega))
  · have c' : o' = 6 := by omega
    subst c'
    obtain ⟨a, ha, ea⟩ := vn (q2 (by omega) (by omega) (by omega))
    obtain ⟨d, hd, ed⟩ := vn (q5 (by omega))
    have ev : m_val I r t x = upd (upd r (16 + 6 * t + a) x) (48 + d) (r (48 + d) + nI 1) := by
      unfold m_val
      simp (disch := omega) only [Nat.reduceEqDiff, reduceIte, nI_mulI, nI_add, nI_clamp, nI_ltI, nI_leI, nI_eq, nI_e0, nI_n0, vt, forall_eq, true_and, and_true, true_implies, forall_const, not_true_eq_false, not_false_eq_true, false_implies, implies_true, hi, h2, ea, ed]
    have k4 := h4 (by omega) (by omega)
    have k5 := h5 (by omega)
    simp (disch := omega) only [Nat.reduceEqDiff, reduceIte, nI_mulI, nI_add, nI_clamp, nI_ltI, nI_leI, nI_eq, nI_e0, nI_n0, vt, forall_eq, true_and, and_true, true_implies, forall_const, not_true_eq_false, not_false_eq_true, false_implies, implies_true, k4, k5, ea, ed]
    rw [hm.2.2.2.2.2.2 d hd]
    exact h _ (by rw [ev]; exact rm_rd (rm_reg hm ht4 ha) hd) (fb_u (fb_u fb_id (by omega) (by omega)) (by omega) (by omega))
  · have c' : o' = 7 := by omega
    subst c'
    obtain ⟨a, ha, ea⟩ := vn (q2 (by omega) (by omega) (by omega))
    have ev : m_val I r t x = upd r (40 + a) (nI t) := by
      unfold m_val
      simp (disch := omega) only [Nat.reduceEqDiff, reduceIte, nI_mulI, nI_add, nI_clamp, nI_ltI, nI_leI, nI_eq, nI_e0, nI_n0, vt, forall_eq, true_and, and_true, true_implies, forall_const, not_true_eq_false, not_false_eq_true, false_implies, implies_true, hi, h2, ea]
    have k4 := h4 (by omega) (by omega)
    simp (disch := omega) only [Nat.reduceEqDiff, reduceIte, nI_mulI, nI_add, nI_clamp, nI_ltI, nI_leI, nI_eq, nI_e0, nI_n0, vt, forall_eq, true_and, and_true, true_implies, forall_const, not_true_eq_false, not_false_eq_true, false_implies, implies_true, k4, ea]
    exact h _ (by rw [ev]; exact rm_own hm ha) (fb_u fb_id (by omega) (by omega))
  · have c' : o' = 8 := by omega
    subst c'
    obtain ⟨a, ha, ea⟩ := vn (q2 (by omega) (by omega) (by omega))
    have ev : m_val I r t x = upd r (40 + a) (if r (40 + a) = nI t then -1 else r (40 + a)) := by
      unfold m_val
      simp (disch := omega) only [Nat.reduceEqDiff, reduceIte, nI_mulI, nI_add, nI_clamp, nI_ltI, nI_leI, nI_eq, nI_e0, nI_n0, vt, forall_eq, true_and, and_true, true_implies, forall_const, not_true_eq_false, not_false_eq_true, false_implies, implies_true, hi, h2, ea]
    have k4 := h4 (by omega) (by omega)
    simp (disch := omega) only [Nat.reduceEqDiff, reduceIte, nI_mulI, nI_add, nI_clamp, nI_ltI, nI_leI, nI_eq, nI_e0, nI_n0, vt, forall_eq, true_and, and_true, true_implies, forall_const, not_true_eq_false, not_false_eq_true, false_implies, implies_true, k4, ea]
    rw [hm.2.2.2.2.1 a ha]
    exact h _ (by rw [ev]; exact rm_own hm ha) (fb_u fb_id (by omega) (by omega))
  · intro c0 c1 c2 c3 c4 c5 c6 c7 c8
    refine h _ ?_ fb_id
    unfold m_val
    simp (disch := omega) only [hi, h2, nI_eq]
    rw [if_neg (by omega), if_neg (by omega), if_neg (by omega), if_neg (by omega), if_neg (by omega), if_neg (by omega), if_neg (by omega), if_neg (by omega), if_neg (by omega)]
    exact hm
theorem c37_69_20 {E : am_Ev} {I : Nat → Nat → Int32} {J : Nat → Nat → Int64} {S : Nat → Nat → Option Nat} {Q : am_Qt} {t i o : Nat} {r : Nat → Int32} {d2 d3 d4 d5 d7 : Value} {y x : Int32} (hd2 : am_isL d2 = false) (hd3 : am_isL d3 = false) (hd4 : am_isL d4 = false) (hd5 : am_isL d5 = false) (hd7 : am_isL d7 = false) (hi : m_i r t = i) (eo : I 106 i = nI o) (ho : 9 ≤ o ∧ o ≤ 11) (hm : rm I 20 r) (ht4 : t < 4) (h44 : r 44 = nI t) (hy : y = m_to I r t) (h : ∀ I', rm I' 20 (m_do I r t x) → fb I I' 21 26 → Q (.inl none) E I' J S) : am_ww 37 69 [.ref 20, .ref 12, d2, d3, d4, d5, .int y, d7] [] E I J S Q := by
  have e44 : I 20 6 = nI t := hm.2.2.2.2.2.1.trans h44
  apply g37_69_20 rfl hd2 hd3 hd4 hd5 hd7
  simp (disch := omega) only [Nat.reduceEqDiff, reduceIte, nI_mulI, nI_add, nI_clamp, nI_ltI, nI_leI, nI_eq, nI_e0, nI_n0, vt, forall_eq, true_and, and_true, true_implies, forall_const, not_true_eq_false, not_false_eq_true, false_implies, implies_true, e44]
  refine h _ ?_ (fb_u (fb_u fb_id (by omega) (by omega)) (by omega) (by omega))
  have ev : m_val I r t x = r := by
    unfold m_val
    simp (disch := omega) only [hi, eo, nI_eq]
    rw [if_neg (by omega), if_neg (by omega), if_neg (by omega), if_neg (by omega), if_neg (by omega), if_neg (by omega), if_neg (by omega), if_neg (by omega), if_neg (by omega)]
  have eb : bI (m_isB I i) = nI 1 := by
    unfold m_isB
    rw [eo]
    simp (disch := omega) only [nI_eq]
    rcases (by omega : o = 9 ∨ o = 10 ∨ o = 11) with c | c | c <;> subst c <;> rfl
  unfold m_do
  rw [ev, hi, eb, ← hy, upd_comm (by omega), hm.2.2.2.1 t ht4]
  exact rm_br (rm_pl hm ht4) ht4
theorem c37_20 {E : am_Ev} {I : Nat → Nat → Int32} {J : Nat → Nat → Int64} {S : Nat → Nat → Option Nat} {Q : am_Qt} {t p n : Nat} {r : Nat → Int32} {x : Int32} (hi : m_i r t = 16 * t + p) (ep : r (16 + 6 * t + 4) = nI p) (hok : p_ok I (16 * t + p) n) (hop : p_op I (16 * t + p)) (hm : rm I 20 r) (ht4 : t < 4) (hp16 : p < 16) (h44 : r 44 = nI t) (hb : I 106 (16 * t + p) = nI 9 ∨ I 106 (16 * t + p) = nI 10 ∨ I 106 (16 * t + p) = nI 11) (h : ∀ I', rm I' 20 (m_do I r t x) → fb I I' 21 26 → Q (.inl none) E I' J S) : am_cl 37 [.ref 20, .ref 12, .int (nI (16 * t + p))] E I J S Q := by
  show am_ww 37 0 [.ref 20, .ref 12, .int (nI (16 * t + p)), am_U, am_U, am_U, am_U, am_U] [] E I J S Q
  have e44 : I 20 6 = nI t := hm.2.2.2.2.2.1.trans h44
  obtain ⟨o, h1, h2, h3, h4, h5, h6, h7, h8⟩ := hop
  obtain ⟨o', h1', h2', q1, q2, q3, q4, q5, q6⟩ := hok
  have e : o' = o := by rw [h2, nI_eq (by omega) (by omega)] at h2'; exact h2'.symm
  subst e
  rw [h2] at hb
  simp (disch := omega) only [nI_eq] at hb
  have e3 : I 23 t = nI p := (hm.2.2.1 t ht4).trans ep
  apply g37_0_20
  simp (disch := omega) only [Nat.reduceEqDiff, reduceIte, nI_mulI, nI_add, nI_clamp, nI_ltI, nI_leI, nI_eq, nI_e0, nI_n0, vt, forall_eq, true_and, and_true, true_implies, forall_const, not_true_eq_false, not_false_eq_true, false_implies, implies_true, h3, e44, e3]
  refine ⟨fun c => ?_, fun c => ?_, fun c c2 => ?_⟩
  · refine c37_69_20 (x := x) rfl rfl rfl rfl rfl hi h2 (by omega) hm ht4 h44 ?_ h
    unfold m_to
    simp (disch := omega) only [Nat.reduceEqDiff, reduceIte, nI_mulI, nI_add, nI_clamp, nI_ltI, nI_leI, nI_eq, nI_e0, nI_n0, vt, forall_eq, true_and, and_true, true_implies, forall_const, not_true_eq_false, not_false_eq_true, false_implies, implies_true, hi, h2]
    rw [if_pos (by omega), h6 (by omega)]
  · obtain ⟨a, ha, ea⟩ := vn (q2 (by omega) (by omega) (by omega))
    have k4 := h4 (by omega) (by omega)
    have k7 := h7 (by omega)
    simp (disch := omega) only [Nat.reduceEqDiff, reduceIte, nI_mulI, nI_add, nI_clamp, nI_ltI, nI_leI, nI_eq, nI_e0, nI_n0, vt, forall_eq, true_and, and_true, true_implies, forall_const, not_true_eq_false, not_false_eq_true, false_implies, implies_true, k4, k7, ea]
    have eto : m_to I r t = (if r (16 + 6 * t + a) = 0 then I 109 (16 * t + p) else nI (p + 1)) := by
      unfold m_to
      simp (disch := omega) only [Nat.reduceEqDiff, reduceIte, nI_mulI, nI_add, nI_clamp, nI_ltI, nI_leI, nI_eq, nI_e0, nI_n0, vt, forall_eq, true_and, and_true, true_implies, forall_const, not_true_eq_false, not_false_eq_true, false_implies, implies_true, hi, h2, ea, ep]
      rw [if_neg (by omega), if_pos (by omega)]
    exact c37_69_20 (x := x) rfl rfl rfl rfl rfl hi h2 (by omega) hm ht4 h44 (by rw [eto, hm.2.1 t a ht4 ha]) h
  · obtain ⟨a, ha, ea⟩ := vn (q2 (by omega) (by omega) (by omega))
    obtain ⟨d, hd, ed⟩ := vn (q4 (by omega))
    have k4 := h4 (by omega) (by omega)
    have k5 := h5 (by omega)
    have k8 := h8 (by omega)
    simp (disch := omega) only [Nat.reduceEqDiff, reduceIte, nI_mulI, nI_add, nI_clamp, nI_ltI, nI_leI, nI_eq, nI_e0, nI_n0, vt, forall_eq, true_and, and_true, true_implies, forall_const, not_true_eq_false, not_false_eq_true, false_implies, implies_true, k4, k5, k8, ea, ed]
    rw [hm.2.1 t a ht4 ha, hm.2.1 t d ht4 hd]
    have eto : m_to I r t = (if r (16 + 6 * t + a) < r (16 + 6 * t + d) then I 109 (16 * t + p) else nI (p + 1)) := by
      unfold m_to
      simp (disch := omega) only [Nat.reduceEqDiff, reduceIte, nI_mulI, nI_add, nI_clamp, nI_ltI, nI_leI, nI_eq, nI_e0, nI_n0, vt, forall_eq, true_and, and_true, true_implies, forall_const, not_true_eq_false, not_false_eq_true, false_implies, implies_true, hi, h2, ea, ed, ep]
      rw [if_neg (by omega), if_neg (by omega), if_pos (by omega)]
    by_cases c3 : r (16 + 6 * t + d) ≤ r (16 + 6 * t + a)
    · rw [if_neg (Int32.not_lt.mpr c3)] at eto
      rw [if_pos c3]
      refine ⟨fun _ => ?_, fun q => absurd nI_0 q⟩
      exact c37_69_20 (x := x) rfl rfl rfl rfl rfl hi h2 (by omega) hm ht4 h44 eto.symm h
    · rw [if_pos (Int32.not_le.mp c3)] at eto
      rw [if_neg c3]
      refine ⟨fun q => absurd q (by decide), fun _ => ?_⟩
      exact c37_69_20 (x := x) rfl rfl rfl rfl rfl hi h2 (by omega) hm ht4 h44 eto.symm h
theorem c36_20 {E : am_Ev} {I : Nat → Nat → Int32} {J : Nat → Nat → Int64} {S : Nat → Nat → Option Nat} {Q : am_Qt} {t : Nat} {r : Nat → Int32} {x : Int32} (hp : p_in I) (hc : p_cl I) (hr : r_ok I r) (hm : rm I 20 r) (ht : t < (I 103 4).toNatClampNeg) (h44 : r 44 = nI t) (hs : r (16 + 6 * t + 4) < I 105 t) (h : ∀ I', rm I' 20 (m_do I r t x) → fb I I' 21 26 → Q (.inl none) E I' J S) : am_cl 36 [.ref 20, .ref 12, .int x] E I J S Q := by
  show am_ww 36 0 [.ref 20, .ref 12, .int x, am_U, am_U] [] E I J S Q
  obtain ⟨p, n, ep, en, hpn, hn, hi, ht4, hok⟩ := r_at hp hr ht
  have e44 : I 20 6 = nI t := hm.2.2.2.2.2.1.trans h44
  apply g36_0_20
  rw [e44]
  refine c24_20 hp hc hr hm ht (fun c => q_mkI ?_) (fun c => absurd hs c)
  rw [ep, en, nI_ltI (by omega) (by omega)] at hs
  obtain ⟨hok', hop⟩ := p_at hp hc ht en hn hs
  obtain ⟨o, h1, h2, h3, h4, h5, h6, h7, h8⟩ := id hop
  rw [hi]
  simp (disch := omega) only [Nat.reduceEqDiff, reduceIte, nI_mulI, nI_add, nI_clamp, nI_ltI, nI_leI, nI_eq, nI_e0, nI_n0, vt, forall_eq, true_and, and_true, true_implies, forall_const, not_true_eq_false, not_false_eq_true, false_implies, implies_true, h3]
  have br : o = 9 ∨ o = 10 ∨ o = 11 → am_cl 37 [.ref 20, .ref 12, .int (nI (16 * t + p))] E I J S (q_V fun E3 I3 J3 S3 => Q (.inl none) E3 I3 J3 S3) := by
    intro c
    refine c37_20 (x := x) hi ep hok' hop hm ht4 (by omega) h44 ?_ (fun I' a b => q_mkV (h I' a b))
    rw [h2]
    simp (disch := omega) only [nI_eq]
    exact c
  refine ⟨fun q => absurd q (nI_nm (by omega)), fun _ => ⟨fun c => br (by omega), fun c => ⟨fun c => br (by omega), fun c => ⟨fun c => br (by omega), fun c => ?_⟩⟩⟩⟩
  refine c38_20 hi hok' hop hm ht4 (by omega) h44 ?_ (fun I' a b => q_mkV ?_)
  · rw [h2]
    simp (disch := omega) only [nI_eq]
    omega
  · have eb : bI (m_isB I (16 * t + p)) = nI 0 := by
      unfold m_isB
      rw [h2]
      simp (disch := omega) only [nI_eq]
      rw [decide_eq_false (by omega), decide_eq_false (by omega), decide_eq_false (by omega)]
      rfl
    have e6 : I' 20 6 = nI t := by rw [b 20 (by omega)]; exact e44
    have e7 : m_val I r t x (16 + 6 * t + 4) = nI p := by rw [m_val_ne hi hok' ht4 (by omega) (by omega) (by omega) (by omega)]; exact ep
    have e8 : I' 23 t = nI p := (a.2.2.1 t ht4).trans e7
    have e9 : m_val I r t x (16 + 6 * t + 5) = r (16 + 6 * t + 5) := m_val_ne hi hok' ht4 (by omega) (by omega) (by omega) (by omega)
    simp (disch := omega) only [Nat.reduceEqDiff, reduceIte, nI_mulI, nI_add, nI_clamp, nI_ltI, nI_leI, nI_eq, nI_e0, nI_n0, vt, forall_eq, true_and, and_true, true_implies, forall_const, not_true_eq_false, not_false_eq_true, false_implies, implies_true, e6, e8]
    refine h _ ?_ (fb_u b (by omega) (by omega))
    have et : m_to I r t = nI (p + 1) := by
      unfold m_to
      simp (disch := omega) only [Nat.reduceEqDiff, reduceIte, nI_mulI, nI_add, nI_clamp, nI_ltI, nI_leI, nI_eq, nI_e0, nI_n0, vt, forall_eq, true_and, and_true, true_implies, forall_const, not_true_eq_false, not_false_eq_true, false_implies, implies_true, hi, h2, ep]
      rw [if_neg (by omega), if_neg (by omega), if_neg (by omega)]
    unfold m_do
    rw [hi, eb, i32_a0, upd_id e9, et]
    exact rm_pl a ht4
theorem c38_61 {E : am_Ev} {I : Nat → Nat → Int32} {J : Nat → Nat → Int64} {S : Nat → Nat → Option Nat} {Q : am_Qt} {t p n : Nat} {r : Nat → Int32} {x : Int32} (hi : m_i r t = 16 * t + p) (hok : p_ok I (16 * t + p) n) (hop : p_op I (16 * t + p)) (hm : rm I 61 r) (ht4 : t < 4) (hp16 : p < 16) (h44 : r 44 = nI t) (hb : ¬ I 106 (16 * t + p) = nI 9 ∧ ¬ I 106 (16 * t + p) = nI 10 ∧ ¬ I 106 (16 * t + p) = nI 11) (h : ∀ I', rm I' 61 (m_val I r t x) → fb I I' 62 67 → Q (.inl none) E I' J S) : am_cl 38 [.ref 61, .ref 12, .int (nI (16 * t + p)), .int x] E I J S Q := by
  show am_ww 38 0 [.ref 61, .ref 12, .int (nI (16 * t + p)), .int x, am_U, am_U, am_U] [] E I J S Q
  have e44 : I 61 6 = nI t := hm.2.2.2.2.2.1.trans h44
  obtain ⟨o, h1, h2, h3, h4, h5, h6, h7, h8⟩ := hop
  obtain ⟨o', h1', h2', q1, q2, q3, q4, q5, q6⟩ := hok
  have e : o' = o := by rw [h2, nI_eq (by omega) (by omega)] at h2'; exact h2'.symm
  subst e
  rw [h2] at hb
  simp (disch := omega) only [nI_eq] at hb
  apply g38_0_61
  simp (disch := omega) only [Nat.reduceEqDiff, reduceIte, nI_mulI, nI_add, nI_clamp, nI_ltI, nI_leI, nI_eq, nI_e0, nI_n0, vt, forall_eq, true_and, and_true, true_implies, forall_const, not_true_eq_false, not_false_eq_true, false_implies, implies_true, h3, e44]
  refine ⟨fun c => ?_, fun c => ?_, fun c => ?_, fun c => ?_, fun c => ?_, fun c => ?_, fun c => ?_, fun c => ?_, fun c => ?_, ?_⟩
  · have c' : o' = 0 := by omega
    subst c'
    obtain ⟨a, ha, ea⟩ := vn (q2 (by omega) (by omega) (by omega))
    have ev : m_val I r t x = upd r (16 + 6 * t + a) (I 108 (16 * t + p)) := by
      unfold m_val
      simp (disch := omega) only [Nat.reduceEqDiff, reduceIte, nI_mulI, nI_add, nI_clamp, nI_ltI, nI_leI, nI_eq, nI_e0, nI_n0, vt, forall_eq, true_and, and_true, true_implies, forall_const, not_true_eq_false, not_false_eq_true, false_implies, implies_true, hi, h2, ea]
    have k4 := h4 (by omega) (by omega)
    have k5 := h5 (by omega)
    simp (disch := omega) only [Nat.reduceEqDiff, reduceIte, nI_mulI, nI_add, nI_clamp, nI_ltI, nI_leI, nI_eq, nI_e0, nI_n0, vt, forall_eq, true_and, and_true, true_implies, forall_const, not_true_eq_false, not_false_eq_true, false_implies, implies_true, k4, k5, ea]
    exact h _ (by rw [ev]; exact rm_reg hm ht4 ha) (fb_u fb_id (by omega) (by omega))
  · have c' : o' = 1 := by omega
    subst c'
    obtain ⟨a, ha, ea⟩ := vn (q2 (by omega) (by omega) (by omega))
    obtain ⟨d, hd, ed⟩ := vn (q3 (by omega))
    have ev : m_val I r t x = upd r (16 + 6 * t + a) (r d) := by
      unfold m_val
      simp (disch := omega) only [Nat.reduceEqDiff, reduceIte, nI_mulI, nI_add, nI_clamp, nI_ltI, nI_leI, nI_eq, nI_e0, nI_n0, vt, forall_eq, true_and, and_true, true_implies, forall_const, not_true_eq_false, not_false_eq_true, false_implies, implies_true, hi, h2, ea, ed]
    have k4 := h4 (by omega) (by omega)
    have k5 := h5 (by omega)
    simp (disch := omega) only [Nat.reduceEqDiff, reduceIte, nI_mulI, nI_add, nI_clamp, nI_ltI, nI_leI, nI_eq, nI_e0, nI_n0, vt, forall_eq, true_and, and_true, true_implies, forall_const, not_true_eq_false, not_false_eq_true, false_implies, implies_true, k4, k5, ea, ed]
    rw [hm.1 d hd]
    exact h _ (by rw [ev]; exact rm_reg hm ht4 ha) (fb_u fb_id (by omega) (by omega))
  · have c' : o' = 2 := by omega
    subst c'
    obtain ⟨a, ha, ea⟩ := vn (q1 (by omega))
    obtain ⟨d, hd, ed⟩ := vn (q4 (by omega))
    have ev : m_val I r t x = upd r a (r (16 + 6 * t + d)) := by
      unfold m_val
      simp (disch := omega) only [Nat.reduceEqDiff, reduceIte, nI_mulI, nI_add, nI_clamp, nI_ltI, nI_leI, nI_eq, nI_e0, nI_n0, vt, forall_eq, true_and, and_true, true_implies, forall_const, not_true_eq_false, not_false_eq_true, false_implies, implies_true, hi, h2, ea, ed]
    have k4 := h4 (by omega) (by omega)
    have k5 := h5 (by omega)
    simp (disch := omega) only [Nat.reduceEqDiff, reduceIte, nI_mulI, nI_add, nI_clamp, nI_ltI, nI_leI, nI_eq, nI_e0, nI_n0, vt, forall_eq, true_and, and_true, true_implies, forall_const, not_true_eq_false, not_false_eq_true, false_implies, implies_true, k4, k5, ea, ed]
    rw [hm.2.1 t d ht4 hd]
    exact h _ (by rw [ev]; exact rm_cell hm ha) (fb_u fb_id (by omega) (by omega))
  · have c' : o' = 3 := by omega
    subst c'
    obtain ⟨a, ha, ea⟩ := vn (q2 (by omega) (by omega) (by omega))
    obtain ⟨d, hd, ed⟩ := vn (q4 (by omega))
    have ev : m_val I r t x = upd r (16 + 6 * t + a) (r (16 + 6 * t + a) + r (16 + 6 * t + d)) := by
      unfold m_val
      simp (disch := omega) only [Nat.reduceEqDiff, reduceIte, nI_mulI, nI_add, nI_clamp, nI_ltI, nI_leI, nI_eq, nI_e0, nI_n0, vt, forall_eq, true_and, and_true, true_implies, forall_const, not_true_eq_false, not_false_eq_true, false_implies, implies_true, hi, h2, ea, ed]
    have k4 := h4 (by omega) (by omega)
    have k5 := h5 (by omega)
    simp (disch := omega) only [Nat.reduceEqDiff, reduceIte, nI_mulI, nI_add, nI_clamp, nI_ltI, nI_leI, nI_eq, nI_e0, nI_n0, vt, forall_eq, true_and, and_true, true_implies, forall_const, not_true_eq_false, not_false_eq_true, false_implies, implies_true, k4, k5, ea, ed]
    rw [hm.2.1 t d ht4 hd, hm.2.1 t a ht4 ha]
    exact h _ (by rw [ev]; exact rm_reg hm ht4 ha) (fb_u fb_id (by omega) (by omega))
  · have c' : o' = 4 := by omega
    subst c'
    obtain ⟨a, ha, ea⟩ := vn (q2 (by omega) (by omega) (by omega))
    obtain ⟨d, hd, ed⟩ := vn (q4 (by omega))
    have ev : m_val I r t x = upd r (16 + 6 * t + a) (r (16 + 6 * t + a) - r (16 + 6 * t + d)) := by
      unfold m_val
      simp (disch := omega) only [Nat.reduceEqDiff, reduceIte, nI_mulI, nI_add, nI_clamp, nI_ltI, nI_leI, nI_eq, nI_e0, nI_n0, vt, forall_eq, true_and, and_true, true_implies, forall_const, not_true_eq_false, not_false_eq_true, false_implies, implies_true, hi, h2, ea, ed]
    have k4 := h4 (by omega) (by omega)
    have k5 := h5 (by omega)
    simp (disch := omega) only [Nat.reduceEqDiff, reduceIte, nI_mulI, nI_add, nI_clamp, nI_ltI, nI_leI, nI_eq, nI_e0, nI_n0, vt, forall_eq, true_and, and_true, true_implies, forall_const, not_true_eq_false, not_false_eq_true, false_implies, implies_true, k4, k5, ea, ed]
    rw [hm.2.1 t d ht4 hd, hm.2.1 t a ht4 ha]
    exact h _ (by rw [ev]; exact rm_reg hm ht4 ha) (fb_u fb_id (by omega) (by omega))
  · have c' : o' = 5 := by omega
    subst c'
    obtain ⟨a, ha, ea⟩ := vn (q2 (by omega) (by omega) (by omega))
    obtain ⟨d, hd, ed⟩ := vn (q4 (by omega))
    have ev : m_val I r t x = upd r (16 + 6 * t + a) (r (16 + 6 * t + a) * r (16 + 6 * t + d)) := by
      unfold m_val
      simp (disch := omega) only [Nat.reduceEqDiff, reduceIte, nI_mulI, nI_add, nI_clamp, nI_ltI, nI_leI, nI_eq, nI_e0, nI_n0, vt, forall_eq, true_and, and_true, true_implies, forall_const, not_true_eq_false, not_false_eq_true, false_implies, implies_true, hi, h2, ea, ed]
    have k4 := h4 (by omega) (by omega)
    have k5 := h5 (by omega)
    simp (disch := omega) only [Nat.reduceEqDiff, reduceIte, nI_mulI, nI_add, nI_clamp, nI_ltI, nI_leI, nI_eq, nI_e0, nI_n0, vt, forall_eq, true_and, and_true, true_implies, forall_const, not_true_eq_false, not_false_eq_true, false_implies, implies_true, k4, k5, ea, ed]
    rw [hm.2.1 t d ht4 hd, hm.2.1 t a ht4 ha]
    exact h _ (by rw [ev]; exact rm_reg hm ht4 ha) (fb_u fb_id (by omega) (by omega))
  · have c' : o' = 6 := by omega
    subst c'
    obtain ⟨a, ha, ea⟩ := vn (q2 (by omega) (by omega) (by omega))
    obtain ⟨d, hd, ed⟩ := vn (q5 (by omega))
    have ev : m_val I r t x = upd (upd r (16 + 6 * t + a) x) (48 + d) (r (48 + d) + nI 1) := by
      unfold m_val
      simp (disch := omega) only [Nat.reduceEqDiff, reduceIte, nI_mulI, nI_add, nI_clamp, nI_ltI, nI_leI, nI_eq, nI_e0, nI_n0, vt, forall_eq, true_and, and_true, true_implies, forall_const, not_true_eq_false, not_false_eq_true, false_implies, implies_true, hi, h2, ea, ed]
    have k4 := h4 (by omega) (by omega)
    have k5 := h5 (by omega)
    simp (disch := omega) only [Nat.reduceEqDiff, reduceIte, nI_mulI, nI_add, nI_clamp, nI_ltI, nI_leI, nI_eq, nI_e0, nI_n0, vt, forall_eq, true_and, and_true, true_implies, forall_const, not_true_eq_false, not_false_eq_true, false_implies, implies_true, k4, k5, ea, ed]
    rw [hm.2.2.2.2.2.2 d hd]
    exact h _ (by rw [ev]; exact rm_rd (rm_reg hm ht4 ha) hd) (fb_u (fb_u fb_id (by omega) (by omega)) (by omega) (by omega))
  · have c' : o' = 7 := by omega
    subst c'
    obtain ⟨a, ha, ea⟩ := vn (q2 (by omega) (by omega) (by omega))
    have ev : m_val I r t x = upd r (40 + a) (nI t) := by
      unfold m_val
      simp (disch := omega) only [Nat.reduceEqDiff, reduceIte, nI_mulI, nI_add, nI_clamp, nI_ltI, nI_leI, nI_eq, nI_e0, nI_n0, vt, forall_eq, true_and, and_true, true_implies, forall_const, not_true_eq_false, not_false_eq_true, false_implies, implies_true, hi, h2, ea]
    have k4 := h4 (by omega) (by omega)
    simp (disch := omega) only [Nat.reduceEqDiff, reduceIte, nI_mulI, nI_add, nI_clamp, nI_ltI, nI_leI, nI_eq, nI_e0, nI_n0, vt, forall_eq, true_and, and_true, true_implies, forall_const, not_true_eq_false, not_false_eq_true, false_implies, implies_true, k4, ea]
    exact h _ (by rw [ev]; exact rm_own hm ha) (fb_u fb_id (by omega) (by omega))
  · have c' : o' = 8 := by omega
    subst c'
    obtain ⟨a, ha, ea⟩ := vn (q2 (by omega) (by omega) (by omega))
    have ev : m_val I r t x = upd r (40 + a) (if r (40 + a) = nI t then -1 else r (40 + a)) := by
      unfold m_val
      simp (disch := omega) only [Nat.reduceEqDiff, reduceIte, nI_mulI, nI_add, nI_clamp, nI_ltI, nI_leI, nI_eq, nI_e0, nI_n0, vt, forall_eq, true_and, and_true, true_implies, forall_const, not_true_eq_false, not_false_eq_true, false_implies, implies_true, hi, h2, ea]
    have k4 := h4 (by omega) (by omega)
    simp (disch := omega) only [Nat.reduceEqDiff, reduceIte, nI_mulI, nI_add, nI_clamp, nI_ltI, nI_leI, nI_eq, nI_e0, nI_n0, vt, forall_eq, true_and, and_true, true_implies, forall_const, not_true_eq_false, not_false_eq_true, false_implies, implies_true, k4, ea]
    rw [hm.2.2.2.2.1 a ha]
    exact h _ (by rw [ev]; exact rm_own hm ha) (fb_u fb_id (by omega) (by omega))
  · intro c0 c1 c2 c3 c4 c5 c6 c7 c8
    refine h _ ?_ fb_id
    unfold m_val
    simp (disch := omega) only [hi, h2, nI_eq]
    rw [if_neg (by omega), if_neg (by omega), if_neg (by omega), if_neg (by omega), if_neg (by omega), if_neg (by omega), if_neg (by omega), if_neg (by omega), if_neg (by omega)]
    exact hm
theorem c37_69_61 {E : am_Ev} {I : Nat → Nat → Int32} {J : Nat → Nat → Int64} {S : Nat → Nat → Option Nat} {Q : am_Qt} {t i o : Nat} {r : Nat → Int32} {d2 d3 d4 d5 d7 : Value} {y x : Int32} (hd2 : am_isL d2 = false) (hd3 : am_isL d3 = false) (hd4 : am_isL d4 = false) (hd5 : am_isL d5 = false) (hd7 : am_isL d7 = false) (hi : m_i r t = i) (eo : I 106 i = nI o) (ho : 9 ≤ o ∧ o ≤ 11) (hm : rm I 61 r) (ht4 : t < 4) (h44 : r 44 = nI t) (hy : y = m_to I r t) (h : ∀ I', rm I' 61 (m_do I r t x) → fb I I' 62 67 → Q (.inl none) E I' J S) : am_ww 37 69 [.ref 61, .ref 12, d2, d3, d4, d5, .int y, d7] [] E I J S Q := by
  have e44 : I 61 6 = nI t := hm.2.2.2.2.2.1.trans h44
  apply g37_69_61 rfl hd2 hd3 hd4 hd5 hd7
  simp (disch := omega) only [Nat.reduceEqDiff, reduceIte, nI_mulI, nI_add, nI_clamp, nI_ltI, nI_leI, nI_eq, nI_e0, nI_n0, vt, forall_eq, true_and, and_true, true_implies, forall_const, not_true_eq_false, not_false_eq_true, false_implies, implies_true, e44]
  refine h _ ?_ (fb_u (fb_u fb_id (by omega) (by omega)) (by omega) (by omega))
  have ev : m_val I r t x = r := by
    unfold m_val
    simp (disch := omega) only [hi, eo, nI_eq]
    rw [if_neg (by omega), if_neg (by omega), if_neg (by omega), if_neg (by omega), if_neg (by omega), if_neg (by omega), if_neg (by omega), if_neg (by omega), if_neg (by omega)]
  have eb : bI (m_isB I i) = nI 1 := by
    unfold m_isB
    rw [eo]
    simp (disch := omega) only [nI_eq]
    rcases (by omega : o = 9 ∨ o = 10 ∨ o = 11) with c | c | c <;> subst c <;> rfl
  unfold m_do
  rw [ev, hi, eb, ← hy, upd_comm (by omega), hm.2.2.2.1 t ht4]
  exact rm_br (rm_pl hm ht4) ht4
theorem c37_61 {E : am_Ev} {I : Nat → Nat → Int32} {J : Nat → Nat → Int64} {S : Nat → Nat → Option Nat} {Q : am_Qt} {t p n : Nat} {r : Nat → Int32} {x : Int32} (hi : m_i r t = 16 * t + p) (ep : r (16 + 6 * t + 4) = nI p) (hok : p_ok I (16 * t + p) n) (hop : p_op I (16 * t + p)) (hm : rm I 61 r) (ht4 : t < 4) (hp16 : p < 16) (h44 : r 44 = nI t) (hb : I 106 (16 * t + p) = nI 9 ∨ I 106 (16 * t + p) = nI 10 ∨ I 106 (16 * t + p) = nI 11) (h : ∀ I', rm I' 61 (m_do I r t x) → fb I I' 62 67 → Q (.inl none) E I' J S) : am_cl 37 [.ref 61, .ref 12, .int (nI (16 * t + p))] E I J S Q := by
  show am_ww 37 0 [.ref 61, .ref 12, .int (nI (16 * t + p)), am_U, am_U, am_U, am_U, am_U] [] E I J S Q
  have e44 : I 61 6 = nI t := hm.2.2.2.2.2.1.trans h44
  obtain ⟨o, h1, h2, h3, h4, h5, h6, h7, h8⟩ := hop
  obtain ⟨o', h1', h2', q1, q2, q3, q4, q5, q6⟩ := hok
  have e : o' = o := by rw [h2, nI_eq (by omega) (by omega)] at h2'; exact h2'.symm
  subst e
  rw [h2] at hb
  simp (disch := omega) only [nI_eq] at hb
  have e3 : I 64 t = nI p := (hm.2.2.1 t ht4).trans ep
  apply g37_0_61
  simp (disch := omega) only [Nat.reduceEqDiff, reduceIte, nI_mulI, nI_add, nI_clamp, nI_ltI, nI_leI, nI_eq, nI_e0, nI_n0, vt, forall_eq, true_and, and_true, true_implies, forall_const, not_true_eq_false, not_false_eq_true, false_implies, implies_true, h3, e44, e3]
  refine ⟨fun c => ?_, fun c => ?_, fun c c2 => ?_⟩
  · refine c37_69_61 (x := x) rfl rfl rfl rfl rfl hi h2 (by omega) hm ht4 h44 ?_ h
    unfold m_to
    simp (disch := omega) only [Nat.reduceEqDiff, reduceIte, nI_mulI, nI_add, nI_clamp, nI_ltI, nI_leI, nI_eq, nI_e0, nI_n0, vt, forall_eq, true_and, and_true, true_implies, forall_const, not_true_eq_false, not_false_eq_true, false_implies, implies_true, hi, h2]
    rw [if_pos (by omega), h6 (by omega)]
  · obtain ⟨a, ha, ea⟩ := vn (q2 (by omega) (by omega) (by omega))
    have k4 := h4 (by omega) (by omega)
    have k7 := h7 (by omega)
    simp (disch := omega) only [Nat.reduceEqDiff, reduceIte, nI_mulI, nI_add, nI_clamp, nI_ltI, nI_leI, nI_eq, nI_e0, nI_n0, vt, forall_eq, true_and, and_true, true_implies, forall_const, not_true_eq_false, not_false_eq_true, false_implies, implies_true, k4, k7, ea]
    have eto : m_to I r t = (if r (16 + 6 * t + a) = 0 then I 109 (16 * t + p) else nI (p + 1)) := by
      unfold m_to
      simp (disch := omega) only [Nat.reduceEqDiff, reduceIte, nI_mulI, nI_add, nI_clamp, nI_ltI, nI_leI, nI_eq, nI_e0, nI_n0, vt, forall_eq, true_and, and_true, true_implies, forall_const, not_true_eq_false, not_false_eq_true, false_implies, implies_true, hi, h2, ea, ep]
      rw [if_neg (by omega), if_pos (by omega)]
    exact c37_69_61 (x := x) rfl rfl rfl rfl rfl hi h2 (by omega) hm ht4 h44 (by rw [eto, hm.2.1 t a ht4 ha]) h
  · obtain ⟨a, ha, ea⟩ := vn (q2 (by omega) (by omega) (by omega))
    obtain ⟨d, hd, ed⟩ := vn (q4 (by omega))
    have k4 := h4 (by omega) (by omega)
    have k5 := h5 (by omega)
    have k8 := h8 (by omega)
    simp (disch := omega) only [Nat.reduceEqDiff, reduceIte, nI_mulI, nI_add, nI_clamp, nI_ltI, nI_leI, nI_eq, nI_e0, nI_n0, vt, forall_eq, true_and, and_true, true_implies, forall_const, not_true_eq_false, not_false_eq_true, false_implies, implies_true, k4, k5, k8, ea, ed]
    rw [hm.2.1 t a ht4 ha, hm.2.1 t d ht4 hd]
    have eto : m_to I r t = (if r (16 + 6 * t + a) < r (16 + 6 * t + d) then I 109 (16 * t + p) else nI (p + 1)) := by
      unfold m_to
      simp (disch := omega) only [Nat.reduceEqDiff, reduceIte, nI_mulI, nI_add, nI_clamp, nI_ltI, nI_leI, nI_eq, nI_e0, nI_n0, vt, forall_eq, true_and, and_true, true_implies, forall_const, not_true_eq_false, not_false_eq_true, false_implies, implies_true, hi, h2, ea, ed, ep]
      rw [if_neg (by omega), if_neg (by omega), if_pos (by omega)]
    by_cases c3 : r (16 + 6 * t + d) ≤ r (16 + 6 * t + a)
    · rw [if_neg (Int32.not_lt.mpr c3)] at eto
      rw [if_pos c3]
      refine ⟨fun _ => ?_, fun q => absurd nI_0 q⟩
      exact c37_69_61 (x := x) rfl rfl rfl rfl rfl hi h2 (by omega) hm ht4 h44 eto.symm h
    · rw [if_pos (Int32.not_le.mp c3)] at eto
      rw [if_neg c3]
      refine ⟨fun q => absurd q (by decide), fun _ => ?_⟩
      exact c37_69_61 (x := x) rfl rfl rfl rfl rfl hi h2 (by omega) hm ht4 h44 eto.symm h
theorem c36_61 {E : am_Ev} {I : Nat → Nat → Int32} {J : Nat → Nat → Int64} {S : Nat → Nat → Option Nat} {Q : am_Qt} {t : Nat} {r : Nat → Int32} {x : Int32} (hp : p_in I) (hc : p_cl I) (hr : r_ok I r) (hm : rm I 61 r) (ht : t < (I 103 4).toNatClampNeg) (h44 : r 44 = nI t) (hs : r (16 + 6 * t + 4) < I 105 t) (h : ∀ I', rm I' 61 (m_do I r t x) → fb I I' 62 67 → Q (.inl none) E I' J S) : am_cl 36 [.ref 61, .ref 12, .int x] E I J S Q := by
  show am_ww 36 0 [.ref 61, .ref 12, .int x, am_U, am_U] [] E I J S Q
  obtain ⟨p, n, ep, en, hpn, hn, hi, ht4, hok⟩ := r_at hp hr ht
  have e44 : I 61 6 = nI t := hm.2.2.2.2.2.1.trans h44
  apply g36_0_61
  rw [e44]
  refine c24_61 hp hc hr hm ht (fun c => q_mkI ?_) (fun c => absurd hs c)
  rw [ep, en, nI_ltI (by omega) (by omega)] at hs
  obtain ⟨hok', hop⟩ := p_at hp hc ht en hn hs
  obtain ⟨o, h1, h2, h3, h4, h5, h6, h7, h8⟩ := id hop
  rw [hi]
  simp (disch := omega) only [Nat.reduceEqDiff, reduceIte, nI_mulI, nI_add, nI_clamp, nI_ltI, nI_leI, nI_eq, nI_e0, nI_n0, vt, forall_eq, true_and, and_true, true_implies, forall_const, not_true_eq_false, not_false_eq_true, false_implies, implies_true, h3]
  have br : o = 9 ∨ o = 10 ∨ o = 11 → am_cl 37 [.ref 61, .ref 12, .int (nI (16 * t + p))] E I J S (q_V fun E3 I3 J3 S3 => Q (.inl none) E3 I3 J3 S3) := by
    intro c
    refine c37_61 (x := x) hi ep hok' hop hm ht4 (by omega) h44 ?_ (fun I' a b => q_mkV (h I' a b))
    rw [h2]
    simp (disch := omega) only [nI_eq]
    exact c
  refine ⟨fun q => absurd q (nI_nm (by omega)), fun _ => ⟨fun c => br (by omega), fun c => ⟨fun c => br (by omega), fun c => ⟨fun c => br (by omega), fun c => ?_⟩⟩⟩⟩
  refine c38_61 hi hok' hop hm ht4 (by omega) h44 ?_ (fun I' a b => q_mkV ?_)
  · rw [h2]
    simp (disch := omega) only [nI_eq]
    omega
  · have eb : bI (m_isB I (16 * t + p)) = nI 0 := by
      unfold m_isB
      rw [h2]
      simp (disch := omega) only [nI_eq]
      rw [decide_eq_false (by omega), decide_eq_false (by omega), decide_eq_false (by omega)]
      rfl
    have e6 : I' 61 6 = nI t := by rw [b 61 (by omega)]; exact e44
    have e7 : m_val I r t x (16 + 6 * t + 4) = nI p := by rw [m_val_ne hi hok' ht4 (by omega) (by omega) (by omega) (by omega)]; exact ep
    have e8 : I' 64 t = nI p := (a.2.2.1 t ht4).trans e7
    have e9 : m_val I r t x (16 + 6 * t + 5) = r (16 + 6 * t + 5) := m_val_ne hi hok' ht4 (by omega) (by omega) (by omega) (by omega)
    simp (disch := omega) only [Nat.reduceEqDiff, reduceIte, nI_mulI, nI_add, nI_clamp, nI_ltI, nI_leI, nI_eq, nI_e0, nI_n0, vt, forall_eq, true_and, and_true, true_implies, forall_const, not_true_eq_false, not_false_eq_true, false_implies, implies_true, e6, e8]
    refine h _ ?_ (fb_u b (by omega) (by omega))
    have et : m_to I r t = nI (p + 1) := by
      unfold m_to
      simp (disch := omega) only [Nat.reduceEqDiff, reduceIte, nI_mulI, nI_add, nI_clamp, nI_ltI, nI_leI, nI_eq, nI_e0, nI_n0, vt, forall_eq, true_and, and_true, true_implies, forall_const, not_true_eq_false, not_false_eq_true, false_implies, implies_true, hi, h2, ep]
      rw [if_neg (by omega), if_neg (by omega), if_neg (by omega)]
    unfold m_do
    rw [hi, eb, i32_a0, upd_id e9, et]
    exact rm_pl a ht4
theorem c38_69 {E : am_Ev} {I : Nat → Nat → Int32} {J : Nat → Nat → Int64} {S : Nat → Nat → Option Nat} {Q : am_Qt} {t p n : Nat} {r : Nat → Int32} {x : Int32} (hi : m_i r t = 16 * t + p) (hok : p_ok I (16 * t + p) n) (hop : p_op I (16 * t + p)) (hm : rm I 69 r) (ht4 : t < 4) (hp16 : p < 16) (h44 : r 44 = nI t) (hb : ¬ I 106 (16 * t + p) = nI 9 ∧ ¬ I 106 (16 * t + p) = nI 10 ∧ ¬ I 106 (16 * t + p) = nI 11) (h : ∀ I', rm I' 69 (m_val I r t x) → fb I I' 70 75 → Q (.inl none) E I' J S) : am_cl 38 [.ref 69, .ref 12, .int (nI (16 * t + p)), .int x] E I J S Q := by
  show am_ww 38 0 [.ref 69, .ref 12, .int (nI (16 * t + p)), .int x, am_U, am_U, am_U] [] E I J S Q
  have e44 : I 69 6 = nI t := hm.2.2.2.2.2.1.trans h44
  obtain ⟨o, h1, h2, h3, h4, h5, h6, h7, h8⟩ := hop
  obtain ⟨o', h1', h2', q1, q2, q3, q4, q5, q6⟩ := hok
  have e : o' = o := by rw [h2, nI_eq (by omega) (by omega)] at h2'; exact h2'.symm
  subst e
  rw [h2] at hb
  simp (disch := omega) only [nI_eq] at hb
  apply g38_0_69
  simp (disch := omega) only [Nat.reduceEqDiff, reduceIte, nI_mulI, nI_add, nI_clamp, nI_ltI, nI_leI, nI_eq, nI_e0, nI_n0, vt, forall_eq, true_and, and_true, true_implies, forall_const, not_true_eq_false, not_false_eq_true, false_implies, implies_true, h3, e44]
  refine ⟨fun c => ?_, fun c => ?_, fun c => ?_, fun c => ?_, fun c => ?_, fun c => ?_, fun c => ?_, fun c => ?_, fun c => ?_, ?_⟩
  · have c' : o' = 0 := by omega
    subst c'
    obtain ⟨a, ha, ea⟩ := vn (q2 (by omega) (by omega) (by omega))
    have ev : m_val I r t x = upd r (16 + 6 * t + a) (I 108 (16 * t + p)) := by
      unfold m_val
      simp (disch := omega) only [Nat.reduceEqDiff, reduceIte, nI_mulI, nI_add, nI_clamp, nI_ltI, nI_leI, nI_eq, nI_e0, nI_n0, vt, forall_eq, true_and, and_true, true_implies, forall_const, not_true_eq_false, not_false_eq_true, false_implies, implies_true, hi, h2, ea]
    have k4 := h4 (by omega) (by omega)
    have k5 := h5 (by omega)
    simp (disch := omega) only [Nat.reduceEqDiff, reduceIte, nI_mulI, nI_add, nI_clamp, nI_ltI, nI_leI, nI_eq, nI_e0, nI_n0, vt, forall_eq, true_and, and_true, true_implies, forall_const, not_true_eq_false, not_false_eq_true, false_implies, implies_true, k4, k5, ea]
    exact h _ (by rw [ev]; exact rm_reg hm ht4 ha) (fb_u fb_id (by omega) (by omega))
  · have c' : o' = 1 := by omega
    subst c'
    obtain ⟨a, ha, ea⟩ := vn (q2 (by omega) (by omega) (by omega))
    obtain ⟨d, hd, ed⟩ := vn (q3 (by omega))
    have ev : m_val I r t x = upd r (16 + 6 * t + a) (r d) := by
      unfold m_val
      simp (disch := omega) only [Nat.reduceEqDiff, reduceIte, nI_mulI, nI_add, nI_clamp, nI_ltI, nI_leI, nI_eq, nI_e0, nI_n0, vt, forall_eq, true_and, and_true, true_implies, forall_const, not_true_eq_false, not_false_eq_true, false_implies, implies_true, hi, h2, ea, ed]
    have k4 := h4 (by omega) (by omega)
    have k5 := h5 (by omega)
    simp (disch := omega) only [Nat.reduceEqDiff, reduceIte, nI_mulI, nI_add, nI_clamp, nI_ltI, nI_leI, nI_eq, nI_e0, nI_n0, vt, forall_eq, true_and, and_true, true_implies, forall_const, not_true_eq_false, not_false_eq_true, false_implies, implies_true, k4, k5, ea, ed]
    rw [hm.1 d hd]
    exact h _ (by rw [ev]; exact rm_reg hm ht4 ha) (fb_u fb_id (by omega) (by omega))
  · have c' : o' = 2 := by omega
    subst c'
    obtain ⟨a, ha, ea⟩ := vn (q1 (by omega))
    obtain ⟨d, hd, ed⟩ := vn (q4 (by omega))
    have ev : m_val I r t x = upd r a (r (16 + 6 * t + d)) := by
      unfold m_val
      simp (disch := omega) only [Nat.reduceEqDiff, reduceIte, nI_mulI, nI_add, nI_clamp, nI_ltI, nI_leI, nI_eq, nI_e0, nI_n0, vt, forall_eq, true_and, and_true, true_implies, forall_const, not_true_eq_false, not_false_eq_true, false_implies, implies_true, hi, h2, ea, ed]
    have k4 := h4 (by omega) (by omega)
    have k5 := h5 (by omega)
    simp (disch := omega) only [Nat.reduceEqDiff, reduceIte, nI_mulI, nI_add, nI_clamp, nI_ltI, nI_leI, nI_eq, nI_e0, nI_n0, vt, forall_eq, true_and, and_true, true_implies, forall_const, not_true_eq_false, not_false_eq_true, false_implies, implies_true, k4, k5, ea, ed]
    rw [hm.2.1 t d ht4 hd]
    exact h _ (by rw [ev]; exact rm_cell hm ha) (fb_u fb_id (by omega) (by omega))
  · have c' : o' = 3 := by omega
    subst c'
    obtain ⟨a, ha, ea⟩ := vn (q2 (by omega) (by omega) (by omega))
    obtain ⟨d, hd, ed⟩ := vn (q4 (by omega))
    have ev : m_val I r t x = upd r (16 + 6 * t + a) (r (16 + 6 * t + a) + r (16 + 6 * t + d)) := by
      unfold m_val
      simp (disch := omega) only [Nat.reduceEqDiff, reduceIte, nI_mulI, nI_add, nI_clamp, nI_ltI, nI_leI, nI_eq, nI_e0, nI_n0, vt, forall_eq, true_and, and_true, true_implies, forall_const, not_true_eq_false, not_false_eq_true, false_implies, implies_true, hi, h2, ea, ed]
    have k4 := h4 (by omega) (by omega)
    have k5 := h5 (by omega)
    simp (disch := omega) only [Nat.reduceEqDiff, reduceIte, nI_mulI, nI_add, nI_clamp, nI_ltI, nI_leI, nI_eq, nI_e0, nI_n0, vt, forall_eq, true_and, and_true, true_implies, forall_const, not_true_eq_false, not_false_eq_true, false_implies, implies_true, k4, k5, ea, ed]
    rw [hm.2.1 t d ht4 hd, hm.2.1 t a ht4 ha]
    exact h _ (by rw [ev]; exact rm_reg hm ht4 ha) (fb_u fb_id (by omega) (by omega))
  · have c' : o' = 4 := by omega
    subst c'
    obtain ⟨a, ha, ea⟩ := vn (q2 (by omega) (by omega) (by omega))
    obtain ⟨d, hd, ed⟩ := vn (q4 (by omega))
    have ev : m_val I r t x = upd r (16 + 6 * t + a) (r (16 + 6 * t + a) - r (16 + 6 * t + d)) := by
      unfold m_val
      simp (disch := omega) only [Nat.reduceEqDiff, reduceIte, nI_mulI, nI_add, nI_clamp, nI_ltI, nI_leI, nI_eq, nI_e0, nI_n0, vt, forall_eq, true_and, and_true, true_implies, forall_const, not_true_eq_false, not_false_eq_true, false_implies, implies_true, hi, h2, ea, ed]
    have k4 := h4 (by omega) (by omega)
    have k5 := h5 (by omega)
    simp (disch := omega) only [Nat.reduceEqDiff, reduceIte, nI_mulI, nI_add, nI_clamp, nI_ltI, nI_leI, nI_eq, nI_e0, nI_n0, vt, forall_eq, true_and, and_true, true_implies, forall_const, not_true_eq_false, not_false_eq_true, false_implies, implies_true, k4, k5, ea, ed]
    rw [hm.2.1 t d ht4 hd, hm.2.1 t a ht4 ha]
    exact h _ (by rw [ev]; exact rm_reg hm ht4 ha) (fb_u fb_id (by omega) (by omega))
  · have c' : o' = 5 := by omega
    subst c'
    obtain ⟨a, ha, ea⟩ := vn (q2 (by omega) (by omega) (by omega))
    obtain ⟨d, hd, ed⟩ := vn (q4 (by omega))
    have ev : m_val I r t x = upd r (16 + 6 * t + a) (r (16 + 6 * t + a) * r (16 + 6 * t + d)) := by
      unfold m_val
      simp (disch := omega) only [Nat.reduceEqDiff, reduceIte, nI_mulI, nI_add, nI_clamp, nI_ltI, nI_leI, nI_eq, nI_e0, nI_n0, vt, forall_eq, true_and, and_true, true_implies, forall_const, not_true_eq_false, not_false_eq_true, false_implies, implies_true, hi, h2, ea, ed]
    have k4 := h4 (by omega) (by omega)
    have k5 := h5 (by omega)
    simp (disch := omega) only [Nat.reduceEqDiff, reduceIte, nI_mulI, nI_add, nI_clamp, nI_ltI, nI_leI, nI_eq, nI_e0, nI_n0, vt, forall_eq, true_and, and_true, true_implies, forall_const, not_true_eq_false, not_false_eq_true, false_implies, implies_true, k4, k5, ea, ed]
    rw [hm.2.1 t d ht4 hd, hm.2.1 t a ht4 ha]
    exact h _ (by rw [ev]; exact rm_reg hm ht4 ha) (fb_u fb_id (by omega) (by omega))
  · have c' : o' = 6 := by omega
    subst c'
    obtain ⟨a, ha, ea⟩ := vn (q2 (by omega) (by omega) (by omega))
    obtain ⟨d, hd, ed⟩ := vn (q5 (by omega))
    have ev : m_val I r t x = upd (upd r (16 + 6 * t + a) x) (48 + d) (r (48 + d) + nI 1) := by
      unfold m_val
      simp (disch := omega) only [Nat.reduceEqDiff, reduceIte, nI_mulI, nI_add, nI_clamp, nI_ltI, nI_leI, nI_eq, nI_e0, nI_n0, vt, forall_eq, true_and, and_true, true_implies, forall_const, not_true_eq_false, not_false_eq_true, false_implies, implies_true, hi, h2, ea, ed]
    have k4 := h4 (by omega) (by omega)
    have k5 := h5 (by omega)
    simp (disch := omega) only [Nat.reduceEqDiff, reduceIte, nI_mulI, nI_add, nI_clamp, nI_ltI, nI_leI, nI_eq, nI_e0, nI_n0, vt, forall_eq, true_and, and_true, true_implies, forall_const, not_true_eq_false, not_false_eq_true, false_implies, implies_true, k4, k5, ea, ed]
    rw [hm.2.2.2.2.2.2 d hd]
    exact h _ (by rw [ev]; exact rm_rd (rm_reg hm ht4 ha) hd) (fb_u (fb_u fb_id (by omega) (by omega)) (by omega) (by omega))
  · have c' : o' = 7 := by omega
    subst c'
    obtain ⟨a, ha, ea⟩ := vn (q2 (by omega) (by omega) (by omega))
    have ev : m_val I r t x = upd r (40 + a) (nI t) := by
      unfold m_val
      simp (disch := omega) only [Nat.reduceEqDiff, reduceIte, nI_mulI, nI_add, nI_clamp, nI_ltI, nI_leI, nI_eq, nI_e0, nI_n0, vt, forall_eq, true_and, and_true, true_implies, forall_const, not_true_eq_false, not_false_eq_true, false_implies, implies_true, hi, h2, ea]
    have k4 := h4 (by omega) (by omega)
    simp (disch := omega) only [Nat.reduceEqDiff, reduceIte, nI_mulI, nI_add, nI_clamp, nI_ltI, nI_leI, nI_eq, nI_e0, nI_n0, vt, forall_eq, true_and, and_true, true_implies, forall_const, not_true_eq_false, not_false_eq_true, false_implies, implies_true, k4, ea]
    exact h _ (by rw [ev]; exact rm_own hm ha) (fb_u fb_id (by omega) (by omega))
  · have c' : o' = 8 := by omega
    subst c'
    obtain ⟨a, ha, ea⟩ := vn (q2 (by omega) (by omega) (by omega))
    have ev : m_val I r t x = upd r (40 + a) (if r (40 + a) = nI t then -1 else r (40 + a)) := by
      unfold m_val
      simp (disch := omega) only [Nat.reduceEqDiff, reduceIte, nI_mulI, nI_add, nI_clamp, nI_ltI, nI_leI, nI_eq, nI_e0, nI_n0, vt, forall_eq, true_and, and_true, true_implies, forall_const, not_true_eq_false, not_false_eq_true, false_implies, implies_true, hi, h2, ea]
    have k4 := h4 (by omega) (by omega)
    simp (disch := omega) only [Nat.reduceEqDiff, reduceIte, nI_mulI, nI_add, nI_clamp, nI_ltI, nI_leI, nI_eq, nI_e0, nI_n0, vt, forall_eq, true_and, and_true, true_implies, forall_const, not_true_eq_false, not_false_eq_true, false_implies, implies_true, k4, ea]
    rw [hm.2.2.2.2.1 a ha]
    exact h _ (by rw [ev]; exact rm_own hm ha) (fb_u fb_id (by omega) (by omega))
  · intro c0 c1 c2 c3 c4 c5 c6 c7 c8
    refine h _ ?_ fb_id
    unfold m_val
    simp (disch := omega) only [hi, h2, nI_eq]
    rw [if_neg (by omega), if_neg (by omega), if_neg (by omega), if_neg (by omega), if_neg (by omega), if_neg (by omega), if_neg (by omega), if_neg (by omega), if_neg (by omega)]
    exact hm
theorem c37_69_69 {E : am_Ev} {I : Nat → Nat → Int32} {J : Nat → Nat → Int64} {S : Nat → Nat → Option Nat} {Q : am_Qt} {t i o : Nat} {r : Nat → Int32} {d2 d3 d4 d5 d7 : Value} {y x : Int32} (hd2 : am_isL d2 = false) (hd3 : am_isL d3 = false) (hd4 : am_isL d4 = false) (hd5 : am_isL d5 = false) (hd7 : am_isL d7 = false) (hi : m_i r t = i) (eo : I 106 i = nI o) (ho : 9 ≤ o ∧ o ≤ 11) (hm : rm I 69 r) (ht4 : t < 4) (h44 : r 44 = nI t) (hy : y = m_to I r t) (h : ∀ I', rm I' 69 (m_do I r t x) → fb I I' 70 75 → Q (.inl none) E I' J S) : am_ww 37 69 [.ref 69, .ref 12, d2, d3, d4, d5, .int y, d7] [] E I J S Q := by
  have e44 : I 69 6 = nI t := hm.2.2.2.2.2.1.trans h44
  apply g37_69_69 rfl hd2 hd3 hd4 hd5 hd7
  simp (disch := omega) only [Nat.reduceEqDiff, reduceIte, nI_mulI, nI_add, nI_clamp, nI_ltI, nI_leI, nI_eq, nI_e0, nI_n0, vt, forall_eq, true_and, and_true, true_implies, forall_const, not_true_eq_false, not_false_eq_true, false_implies, implies_true, e44]
  refine h _ ?_ (fb_u (fb_u fb_id (by omega) (by omega)) (by omega) (by omega))
  have ev : m_val I r t x = r := by
    unfold m_val
    simp (disch := omega) only [hi, eo, nI_eq]
    rw [if_neg (by omega), if_neg (by omega), if_neg (by omega), if_neg (by omega), if_neg (by omega), if_neg (by omega), if_neg (by omega), if_neg (by omega), if_neg (by omega)]
  have eb : bI (m_isB I i) = nI 1 := by
    unfold m_isB
    rw [eo]
    simp (disch := omega) only [nI_eq]
    rcases (by omega : o = 9 ∨ o = 10 ∨ o = 11) with c | c | c <;> subst c <;> rfl
  unfold m_do
  rw [ev, hi, eb, ← hy, upd_comm (by omega), hm.2.2.2.1 t ht4]
  exact rm_br (rm_pl hm ht4) ht4
theorem c37_69 {E : am_Ev} {I : Nat → Nat → Int32} {J : Nat → Nat → Int64} {S : Nat → Nat → Option Nat} {Q : am_Qt} {t p n : Nat} {r : Nat → Int32} {x : Int32} (hi : m_i r t = 16 * t + p) (ep : r (16 + 6 * t + 4) = nI p) (hok : p_ok I (16 * t + p) n) (hop : p_op I (16 * t + p)) (hm : rm I 69 r) (ht4 : t < 4) (hp16 : p < 16) (h44 : r 44 = nI t) (hb : I 106 (16 * t + p) = nI 9 ∨ I 106 (16 * t + p) = nI 10 ∨ I 106 (16 * t + p) = nI 11) (h : ∀ I', rm I' 69 (m_do I r t x) → fb I I' 70 75 → Q (.inl none) E I' J S) : am_cl 37 [.ref 69, .ref 12, .int (nI (16 * t + p))] E I J S Q := by
  show am_ww 37 0 [.ref 69, .ref 12, .int (nI (16 * t + p)), am_U, am_U, am_U, am_U, am_U] [] E I J S Q
  have e44 : I 69 6 = nI t := hm.2.2.2.2.2.1.trans h44
  obtain ⟨o, h1, h2, h3, h4, h5, h6, h7, h8⟩ := hop
  obtain ⟨o', h1', h2', q1, q2, q3, q4, q5, q6⟩ := hok
  have e : o' = o := by rw [h2, nI_eq (by omega) (by omega)] at h2'; exact h2'.symm
  subst e
  rw [h2] at hb
  simp (disch := omega) only [nI_eq] at hb
  have e3 : I 72 t = nI p := (hm.2.2.1 t ht4).trans ep
  apply g37_0_69
  simp (disch := omega) only [Nat.reduceEqDiff, reduceIte, nI_mulI, nI_add, nI_clamp, nI_ltI, nI_leI, nI_eq, nI_e0, nI_n0, vt, forall_eq, true_and, and_true, true_implies, forall_const, not_true_eq_false, not_false_eq_true, false_implies, implies_true, h3, e44, e3]
  refine ⟨fun c => ?_, fun c => ?_, fun c c2 => ?_⟩
  · refine c37_69_69 (x := x) rfl rfl rfl rfl rfl hi h2 (by omega) hm ht4 h44 ?_ h
    unfold m_to
    simp (disch := omega) only [Nat.reduceEqDiff, reduceIte, nI_mulI, nI_add, nI_clamp, nI_ltI, nI_leI, nI_eq, nI_e0, nI_n0, vt, forall_eq, true_and, and_true, true_implies, forall_const, not_true_eq_false, not_false_eq_true, false_implies, implies_true, hi, h2]
    rw [if_pos (by omega), h6 (by omega)]
  · obtain ⟨a, ha, ea⟩ := vn (q2 (by omega) (by omega) (by omega))
    have k4 := h4 (by omega) (by omega)
    have k7 := h7 (by omega)
    simp (disch := omega) only [Nat.reduceEqDiff, reduceIte, nI_mulI, nI_add, nI_clamp, nI_ltI, nI_leI, nI_eq, nI_e0, nI_n0, vt, forall_eq, true_and, and_true, true_implies, forall_const, not_true_eq_false, not_false_eq_true, false_implies, implies_true, k4, k7, ea]
    have eto : m_to I r t = (if r (16 + 6 * t + a) = 0 then I 109 (16 * t + p) else nI (p + 1)) := by
      unfold m_to
      simp (disch := omega) only [Nat.reduceEqDiff, reduceIte, nI_mulI, nI_add, nI_clamp, nI_ltI, nI_leI, nI_eq, nI_e0, nI_n0, vt, forall_eq, true_and, and_true, true_implies, forall_const, not_true_eq_false, not_false_eq_true, false_implies, implies_true, hi, h2, ea, ep]
      rw [if_neg (by omega), if_pos (by omega)]
    exact c37_69_69 (x := x) rfl rfl rfl rfl rfl hi h2 (by omega) hm ht4 h44 (by rw [eto, hm.2.1 t a ht4 ha]) h
  · obtain ⟨a, ha, ea⟩ := vn (q2 (by omega) (by omega) (by omega))
    obtain ⟨d, hd, ed⟩ := vn (q4 (by omega))
    have k4 := h4 (by omega) (by omega)
    have k5 := h5 (by omega)
    have k8 := h8 (by omega)
    simp (disch := omega) only [Nat.reduceEqDiff, reduceIte, nI_mulI, nI_add, nI_clamp, nI_ltI, nI_leI, nI_eq, nI_e0, nI_n0, vt, forall_eq, true_and, and_true, true_implies, forall_const, not_true_eq_false, not_false_eq_true, false_implies, implies_true, k4, k5, k8, ea, ed]
    rw [hm.2.1 t a ht4 ha, hm.2.1 t d ht4 hd]
    have eto : m_to I r t = (if r (16 + 6 * t + a) < r (16 + 6 * t + d) then I 109 (16 * t + p) else nI (p + 1)) := by
      unfold m_to
      simp (disch := omega) only [Nat.reduceEqDiff, reduceIte, nI_mulI, nI_add, nI_clamp, nI_ltI, nI_leI, nI_eq, nI_e0, nI_n0, vt, forall_eq, true_and, and_true, true_implies, forall_const, not_true_eq_false, not_false_eq_true, false_implies, implies_true, hi, h2, ea, ed, ep]
      rw [if_neg (by omega), if_neg (by omega), if_pos (by omega)]
    by_cases c3 : r (16 + 6 * t + d) ≤ r (16 + 6 * t + a)
    · rw [if_neg (Int32.not_lt.mpr c3)] at eto
      rw [if_pos c3]
      refine ⟨fun _ => ?_, fun q => absurd nI_0 q⟩
      exact c37_69_69 (x := x) rfl rfl rfl rfl rfl hi h2 (by omega) hm ht4 h44 eto.symm h
    · rw [if_pos (Int32.not_le.mp c3)] at eto
      rw [if_neg c3]
      refine ⟨fun q => absurd q (by decide), fun _ => ?_⟩
      exact c37_69_69 (x := x) rfl rfl rfl rfl rfl hi h2 (by omega) hm ht4 h44 eto.symm h
theorem c36_69 {E : am_Ev} {I : Nat → Nat → Int32} {J : Nat → Nat → Int64} {S : Nat → Nat → Option Nat} {Q : am_Qt} {t : Nat} {r : Nat → Int32} {x : Int32} (hp : p_in I) (hc : p_cl I) (hr : r_ok I r) (hm : rm I 69 r) (ht : t < (I 103 4).toNatClampNeg) (h44 : r 44 = nI t) (hs : r (16 + 6 * t + 4) < I 105 t) (h : ∀ I', rm I' 69 (m_do I r t x) → fb I I' 70 75 → Q (.inl none) E I' J S) : am_cl 36 [.ref 69, .ref 12, .int x] E I J S Q := by
  show am_ww 36 0 [.ref 69, .ref 12, .int x, am_U, am_U] [] E I J S Q
  obtain ⟨p, n, ep, en, hpn, hn, hi, ht4, hok⟩ := r_at hp hr ht
  have e44 : I 69 6 = nI t := hm.2.2.2.2.2.1.trans h44
  apply g36_0_69
  rw [e44]
  refine c24_69 hp hc hr hm ht (fun c => q_mkI ?_) (fun c => absurd hs c)
  rw [ep, en, nI_ltI (by omega) (by omega)] at hs
  obtain ⟨hok', hop⟩ := p_at hp hc ht en hn hs
  obtain ⟨o, h1, h2, h3, h4, h5, h6, h7, h8⟩ := id hop
  rw [hi]
  simp (disch := omega) only [Nat.reduceEqDiff, reduceIte, nI_mulI, nI_add, nI_clamp, nI_ltI, nI_leI, nI_eq, nI_e0, nI_n0, vt, forall_eq, true_and, and_true, true_implies, forall_const, not_true_eq_false, not_false_eq_true, false_implies, implies_true, h3]
  have br : o = 9 ∨ o = 10 ∨ o = 11 → am_cl 37 [.ref 69, .ref 12, .int (nI (16 * t + p))] E I J S (q_V fun E3 I3 J3 S3 => Q (.inl none) E3 I3 J3 S3) := by
    intro c
    refine c37_69 (x := x) hi ep hok' hop hm ht4 (by omega) h44 ?_ (fun I' a b => q_mkV (h I' a b))
    rw [h2]
    simp (disch := omega) only [nI_eq]
    exact c
  refine ⟨fun q => absurd q (nI_nm (by omega)), fun _ => ⟨fun c => br (by omega), fun c => ⟨fun c => br (by omega), fun c => ⟨fun c => br (by omega), fun c => ?_⟩⟩⟩⟩
  refine c38_69 hi hok' hop hm ht4 (by omega) h44 ?_ (fun I' a b => q_mkV ?_)
  · rw [h2]
    simp (disch := omega) only [nI_eq]
    omega
  · have eb : bI (m_isB I (16 * t + p)) = nI 0 := by
      unfold m_isB
      rw [h2]
      simp (disch := omega) only [nI_eq]
      rw [decide_eq_false (by omega), decide_eq_false (by omega), decide_eq_false (by omega)]
      rfl
    have e6 : I' 69 6 = nI t := by rw [b 69 (by omega)]; exact e44
    have e7 : m_val I r t x (16 + 6 * t + 4) = nI p := by rw [m_val_ne hi hok' ht4 (by omega) (by omega) (by omega) (by omega)]; exact ep
    have e8 : I' 72 t = nI p := (a.2.2.1 t ht4).trans e7
    have e9 : m_val I r t x (16 + 6 * t + 5) = r (16 + 6 * t + 5) := m_val_ne hi hok' ht4 (by omega) (by omega) (by omega) (by omega)
    simp (disch := omega) only [Nat.reduceEqDiff, reduceIte, nI_mulI, nI_add, nI_clamp, nI_ltI, nI_leI, nI_eq, nI_e0, nI_n0, vt, forall_eq, true_and, and_true, true_implies, forall_const, not_true_eq_false, not_false_eq_true, false_implies, implies_true, e6, e8]
    refine h _ ?_ (fb_u b (by omega) (by omega))
    have et : m_to I r t = nI (p + 1) := by
      unfold m_to
      simp (disch := omega) only [Nat.reduceEqDiff, reduceIte, nI_mulI, nI_add, nI_clamp, nI_ltI, nI_leI, nI_eq, nI_e0, nI_n0, vt, forall_eq, true_and, and_true, true_implies, forall_const, not_true_eq_false, not_false_eq_true, false_implies, implies_true, hi, h2, ep]
      rw [if_neg (by omega), if_neg (by omega), if_neg (by omega)]
    unfold m_do
    rw [hi, eb, i32_a0, upd_id e9, et]
    exact rm_pl a ht4
theorem c38_77 {E : am_Ev} {I : Nat → Nat → Int32} {J : Nat → Nat → Int64} {S : Nat → Nat → Option Nat} {Q : am_Qt} {t p n : Nat} {r : Nat → Int32} {x : Int32} (hi : m_i r t = 16 * t + p) (hok : p_ok I (16 * t + p) n) (hop : p_op I (16 * t + p)) (hm : rm I 77 r) (ht4 : t < 4) (hp16 : p < 16) (h44 : r 44 = nI t) (hb : ¬ I 106 (16 * t + p) = nI 9 ∧ ¬ I 106 (16 * t + p) = nI 10 ∧ ¬ I 106 (16 * t + p) = nI 11) (h : ∀ I', rm I' 77 (m_val I r t x) → fb I I' 78 83 → Q (.inl none) E I' J S) : am_cl 38 [.ref 77, .ref 12, .int (nI (16 * t + p)), .int x] E I J S Q := by
  show am_ww 38 0 [.ref 77, .ref 12, .int (nI (16 * t + p)), .int x, am_U, am_U, am_U] [] E I J S Q
  have e44 : I 77 6 = nI t := hm.2.2.2.2.2.1.trans h44
  obtain ⟨o, h1, h2, h3, h4, h5, h6, h7, h8⟩ := hop
  obtain ⟨o', h1', h2', q1, q2, q3, q4, q5, q6⟩ := hok
  have e : o' = o := by rw [h2, nI_eq (by omega) (by omega)] at h2'; exact h2'.symm
  subst e
  rw [h2] at hb
  simp (disch := omega) only [nI_eq] at hb
  apply g38_0_77
  simp (disch := omega) only [Nat.reduceEqDiff, reduceIte, nI_mulI, nI_add, nI_clamp, nI_ltI, nI_leI, nI_eq, nI_e0, nI_n0, vt, forall_eq, true_and, and_true, true_implies, forall_const, not_true_eq_false, not_false_eq_true, false_implies, implies_true, h3, e44]
  refine ⟨fun c => ?_, fun c => ?_, fun c => ?_, fun c => ?_, fun c => ?_, fun c => ?_, fun c => ?_, fun c => ?_, fun c => ?_, ?_⟩
  · have c' : o' = 0 := by omega
    subst c'
    obtain ⟨a, ha, ea⟩ := vn (q2 (by omega) (by omega) (by omega))
    have ev : m_val I r t x = upd r (16 + 6 * t + a) (I 108 (16 * t + p)) := by
      unfold m_val
      simp (disch := omega) only [Nat.reduceEqDiff, reduceIte, nI_mulI, nI_add, nI_clamp, nI_ltI, nI_leI, nI_eq, nI_e0, nI_n0, vt, forall_eq, true_and, and_true, true_implies, forall_const, not_true_eq_false, not_false_eq_true, false_implies, implies_true, hi, h2, ea]
    have k4 := h4 (by omega) (by omega)
    have k5 := h5 (by omega)
    simp (disch := omega) only [Nat.reduceEqDiff, reduceIte, nI_mulI, nI_add, nI_clamp, nI_ltI, nI_leI, nI_eq, nI_e0, nI_n0, vt, forall_eq, true_and, and_true, true_implies, forall_const, not_true_eq_false, not_false_eq_true, false_implies, implies_true, k4, k5, ea]
    exact h _ (by rw [ev]; exact rm_reg hm ht4 ha) (fb_u fb_id (by omega) (by omega))
  · have c' : o' = 1 := by omega
    subst c'
    obtain ⟨a, ha, ea⟩ := vn (q2 (by omega) (by omega) (by omega))
    obtain ⟨d, hd, ed⟩ := vn (q3 (by omega))
    have ev : m_val I r t x = upd r (16 + 6 * t + a) (r d) := by
      unfold m_val
      simp (disch := omega) only [Nat.reduceEqDiff, reduceIte, nI_mulI, nI_add, nI_clamp, nI_ltI, nI_leI, nI_eq, nI_e0, nI_n0, vt, forall_eq, true_and, and_true, true_implies, forall_const, not_true_eq_false, not_false_eq_true, false_implies, implies_true, hi, h2, ea, ed]
    have k4 := h4 (by omega) (by omega)
    have k5 := h5 (by omega)
    simp (disch := omega) only [Nat.reduceEqDiff, reduceIte, nI_mulI, nI_add, nI_clamp, nI_ltI, nI_leI, nI_eq, nI_e0, nI_n0, vt, forall_eq, true_and, and_true, true_implies, forall_const, not_true_eq_false, not_false_eq_true, false_implies, implies_true, k4, k5, ea, ed]
    rw [hm.1 d hd]
    exact h _ (by rw [ev]; exact rm_reg hm ht4 ha) (fb_u fb_id (by omega) (by omega))
  · have c' : o' = 2 := by omega
    subst c'
    obtain ⟨a, ha, ea⟩ := vn (q1 (by omega))
    obtain ⟨d, hd, ed⟩ := vn (q4 (by omega))
    have ev : m_val I r t x = upd r a (r (16 + 6 * t + d)) := by
      unfold m_val
      simp (disch := omega) only [Nat.reduceEqDiff, reduceIte, nI_mulI, nI_add, nI_clamp, nI_ltI, nI_leI, nI_eq, nI_e0, nI_n0, vt, forall_eq, true_and, and_true, true_implies, forall_const, not_true_eq_false, not_false_eq_true, false_implies, implies_true, hi, h2, ea, ed]
    have k4 := h4 (by omega) (by omega)
    have k5 := h5 (by omega)
    simp (disch := omega) only [Nat.reduceEqDiff, reduceIte, nI_mulI, nI_add, nI_clamp, nI_ltI, nI_leI, nI_eq, nI_e0, nI_n0, vt, forall_eq, true_and, and_true, true_implies, forall_const, not_true_eq_false, not_false_eq_true, false_implies, implies_true, k4, k5, ea, ed]
    rw [hm.2.1 t d ht4 hd]
    exact h _ (by rw [ev]; exact rm_cell hm ha) (fb_u fb_id (by omega) (by omega))
  · have c' : o' = 3 := by omega
    subst c'
    obtain ⟨a, ha, ea⟩ := vn (q2 (by omega) (by omega) (by omega))
    obtain ⟨d, hd, ed⟩ := vn (q4 (by omega))
    have ev : m_val I r t x = upd r (16 + 6 * t + a) (r (16 + 6 * t + a) + r (16 + 6 * t + d)) := by
      unfold m_val
      simp (disch := omega) only [Nat.reduceEqDiff, reduceIte, nI_mulI, nI_add, nI_clamp, nI_ltI, nI_leI, nI_eq, nI_e0, nI_n0, vt, forall_eq, true_and, and_true, true_implies, forall_const, not_true_eq_false, not_false_eq_true, false_implies, implies_true, hi, h2, ea, ed]
    have k4 := h4 (by omega) (by omega)
    have k5 := h5 (by omega)
    simp (disch := omega) only [Nat.reduceEqDiff, reduceIte, nI_mulI, nI_add, nI_clamp, nI_ltI, nI_leI, nI_eq, nI_e0, nI_n0, vt, forall_eq, true_and, and_true, true_implies, forall_const, not_true_eq_false, not_false_eq_true, false_implies, implies_true, k4, k5, ea, ed]
    rw [hm.2.1 t d ht4 hd, hm.2.1 t a ht4 ha]
    exact h _ (by rw [ev]; exact rm_reg hm ht4 ha) (fb_u fb_id (by omega) (by omega))
  · have c' : o' = 4 := by omega
    subst c'
    obtain ⟨a, ha, ea⟩ := vn (q2 (by omega) (by omega) (by omega))
    obtain ⟨d, hd, ed⟩ := vn (q4 (by omega))
    have ev : m_val I r t x = upd r (16 + 6 * t + a) (r (16 + 6 * t + a) - r (16 + 6 * t + d)) := by
      unfold m_val
      simp (disch := omega) only [Nat.reduceEqDiff, reduceIte, nI_mulI, nI_add, nI_clamp, nI_ltI, nI_leI, nI_eq, nI_e0, nI_n0, vt, forall_eq, true_and, and_true, true_implies, forall_const, not_true_eq_false, not_false_eq_true, false_implies, implies_true, hi, h2, ea, ed]
    have k4 := h4 (by omega) (by omega)
    have k5 := h5 (by omega)
    simp (disch := omega) only [Nat.reduceEqDiff, reduceIte, nI_mulI, nI_add, nI_clamp, nI_ltI, nI_leI, nI_eq, nI_e0, nI_n0, vt, forall_eq, true_and, and_true, true_implies, forall_const, not_true_eq_false, not_false_eq_true, false_implies, implies_true, k4, k5, ea, ed]
    rw [hm.2.1 t d ht4 hd, hm.2.1 t a ht4 ha]
    exact h _ (by rw [ev]; exact rm_reg hm ht4 ha) (fb_u fb_id (by omega) (by omega))
  · have c' : o' = 5 := by omega
    subst c'
    obtain ⟨a, ha, ea⟩ := vn (q2 (by omega) (by omega) (by omega))
    obtain ⟨d, hd, ed⟩ := vn (q4 (by omega))
    have ev : m_val I r t x = upd r (16 + 6 * t + a) (r (16 + 6 * t + a) * r (16 + 6 * t + d)) := by
      unfold m_val
      simp (disch := omega) only [Nat.reduceEqDiff, reduceIte, nI_mulI, nI_add, nI_clamp, nI_ltI, nI_leI, nI_eq, nI_e0, nI_n0, vt, forall_eq, true_and, and_true, true_implies, forall_const, not_true_eq_false, not_false_eq_true, false_implies, implies_true, hi, h2, ea, ed]
    have k4 := h4 (by omega) (by omega)
    have k5 := h5 (by omega)
    simp (disch := omega) only [Nat.reduceEqDiff, reduceIte, nI_mulI, nI_add, nI_clamp, nI_ltI, nI_leI, nI_eq, nI_e0, nI_n0, vt, forall_eq, true_and, and_true, true_implies, forall_const, not_true_eq_false, not_false_eq_true, false_implies, implies_true, k4, k5, ea, ed]
    rw [hm.2.1 t d ht4 hd, hm.2.1 t a ht4 ha]
    exact h _ (by rw [ev]; exact rm_reg hm ht4 ha) (fb_u fb_id (by omega) (by omega))
  · have c' : o' = 6 := by omega
    subst c'
    obtain ⟨a, ha, ea⟩ := vn (q2 (by omega) (by omega) (by omega))
    obtain ⟨d, hd, ed⟩ := vn (q5 (by omega))
    have ev : m_val I r t x = upd (upd r (16 + 6 * t + a) x) (48 + d) (r (48 + d) + nI 1) := by
      unfold m_val
      simp (disch := omega) only [Nat.reduceEqDiff, reduceIte, nI_mulI, nI_add, nI_clamp, nI_ltI, nI_leI, nI_eq, nI_e0, nI_n0, vt, forall_eq, true_and, and_true, true_implies, forall_const, not_true_eq_false, not_false_eq_true, false_implies, implies_true, hi, h2, ea, ed]
    have k4 := h4 (by omega) (by omega)
    have k5 := h5 (by omega)
    simp (disch := omega) only [Nat.reduceEqDiff, reduceIte, nI_mulI, nI_add, nI_clamp, nI_ltI, nI_leI, nI_eq, nI_e0, nI_n0, vt, forall_eq, true_and, and_true, true_implies, forall_const, not_true_eq_false, not_false_eq_true, false_implies, implies_true, k4, k5, ea, ed]
    rw [hm.2.2.2.2.2.2 d hd]
    exact h _ (by rw [ev]; exact rm_rd (rm_reg hm ht4 ha) hd) (fb_u (fb_u fb_id (by omega) (by omega)) (by omega) (by omega))
  · have c' : o' = 7 := by omega
    subst c'
    obtain ⟨a, ha, ea⟩ := vn (q2 (by omega) (by omega) (by omega))
    have ev : m_val I r t x = upd r (40 + a) (nI t) := by
      unfold m_val
      simp (disch := omega) only [Nat.reduceEqDiff, reduceIte, nI_mulI, nI_add, nI_clamp, nI_ltI, nI_leI, nI_eq, nI_e0, nI_n0, vt, forall_eq, true_and, and_true, true_implies, forall_const, not_true_eq_false, not_false_eq_true, false_implies, implies_true, hi, h2, ea]
    have k4 := h4 (by omega) (by omega)
    simp (disch := omega) only [Nat.reduceEqDiff, reduceIte, nI_mulI, nI_add, nI_clamp, nI_ltI, nI_leI, nI_eq, nI_e0, nI_n0, vt, forall_eq, true_and, and_true, true_implies, forall_const, not_true_eq_false, not_false_eq_true, false_implies, implies_true, k4, ea]
    exact h _ (by rw [ev]; exact rm_own hm ha) (fb_u fb_id (by omega) (by omega))
  · have c' : o' = 8 := by omega
    subst c'
    obtain ⟨a, ha, ea⟩ := vn (q2 (by omega) (by omega) (by omega))
    have ev : m_val I r t x = upd r (40 + a) (if r (40 + a) = nI t then -1 else r (40 + a)) := by
      unfold m_val
      simp (disch := omega) only [Nat.reduceEqDiff, reduceIte, nI_mulI, nI_add, nI_clamp, nI_ltI, nI_leI, nI_eq, nI_e0, nI_n0, vt, forall_eq, true_and, and_true, true_implies, forall_const, not_true_eq_false, not_false_eq_true, false_implies, implies_true, hi, h2, ea]
    have k4 := h4 (by omega) (by omega)
    simp (disch := omega) only [Nat.reduceEqDiff, reduceIte, nI_mulI, nI_add, nI_clamp, nI_ltI, nI_leI, nI_eq, nI_e0, nI_n0, vt, forall_eq, true_and, and_true, true_implies, forall_const, not_true_eq_false, not_false_eq_true, false_implies, implies_true, k4, ea]
    rw [hm.2.2.2.2.1 a ha]
    exact h _ (by rw [ev]; exact rm_own hm ha) (fb_u fb_id (by omega) (by omega))
  · intro c0 c1 c2 c3 c4 c5 c6 c7 c8
    refine h _ ?_ fb_id
    unfold m_val
    simp (disch := omega) only [hi, h2, nI_eq]
    rw [if_neg (by omega), if_neg (by omega), if_neg (by omega), if_neg (by omega), if_neg (by omega), if_neg (by omega), if_neg (by omega), if_neg (by omega), if_neg (by omega)]
    exact hm
theorem c37_69_77 {E : am_Ev} {I : Nat → Nat → Int32} {J : Nat → Nat → Int64} {S : Nat → Nat → Option Nat} {Q : am_Qt} {t i o : Nat} {r : Nat → Int32} {d2 d3 d4 d5 d7 : Value} {y x : Int32} (hd2 : am_isL d2 = false) (hd3 : am_isL d3 = false) (hd4 : am_isL d4 = false) (hd5 : am_isL d5 = false) (hd7 : am_isL d7 = false) (hi : m_i r t = i) (eo : I 106 i = nI o) (ho : 9 ≤ o ∧ o ≤ 11) (hm : rm I 77 r) (ht4 : t < 4) (h44 : r 44 = nI t) (hy : y = m_to I r t) (h : ∀ I', rm I' 77 (m_do I r t x) → fb I I' 78 83 → Q (.inl none) E I' J S) : am_ww 37 69 [.ref 77, .ref 12, d2, d3, d4, d5, .int y, d7] [] E I J S Q := by
  have e44 : I 77 6 = nI t := hm.2.2.2.2.2.1.trans h44
  apply g37_69_77 rfl hd2 hd3 hd4 hd5 hd7
  simp (disch := omega) only [Nat.reduceEqDiff, reduceIte, nI_mulI, nI_add, nI_clamp, nI_ltI, nI_leI, nI_eq, nI_e0, nI_n0, vt, forall_eq, true_and, and_true, true_implies, forall_const, not_true_eq_false, not_false_eq_true, false_implies, implies_true, e44]
  refine h _ ?_ (fb_u (fb_u fb_id (by omega) (by omega)) (by omega) (by omega))
  have ev : m_val I r t x = r := by
    unfold m_val
    simp (disch := omega) only [hi, eo, nI_eq]
    rw [if_neg (by omega), if_neg (by omega), if_neg (by omega), if_neg (by omega), if_neg (by omega), if_neg (by omega), if_neg (by omega), if_neg (by omega), if_neg (by omega)]
  have eb : bI (m_isB I i) = nI 1 := by
    unfold m_isB
    rw [eo]
    simp (disch := omega) only [nI_eq]
    rcases (by omega : o = 9 ∨ o = 10 ∨ o = 11) with c | c | c <;> subst c <;> rfl
  unfold m_do
  rw [ev, hi, eb, ← hy, upd_comm (by omega), hm.2.2.2.1 t ht4]
  exact rm_br (rm_pl hm ht4) ht4
theorem c37_77 {E : am_Ev} {I : Nat → Nat → Int32} {J : Nat → Nat → Int64} {S : Nat → Nat → Option Nat} {Q : am_Qt} {t p n : Nat} {r : Nat → Int32} {x : Int32} (hi : m_i r t = 16 * t + p) (ep : r (16 + 6 * t + 4) = nI p) (hok : p_ok I (16 * t + p) n) (hop : p_op I (16 * t + p)) (hm : rm I 77 r) (ht4 : t < 4) (hp16 : p < 16) (h44 : r 44 = nI t) (hb : I 106 (16 * t + p) = nI 9 ∨ I 106 (16 * t + p) = nI 10 ∨ I 106 (16 * t + p) = nI 11) (h : ∀ I', rm I' 77 (m_do I r t x) → fb I I' 78 83 → Q (.inl none) E I' J S) : am_cl 37 [.ref 77, .ref 12, .int (nI (16 * t + p))] E I J S Q := by
  show am_ww 37 0 [.ref 77, .ref 12, .int (nI (16 * t + p)), am_U, am_U, am_U, am_U, am_U] [] E I J S Q
  have e44 : I 77 6 = nI t := hm.2.2.2.2.2.1.trans h44
  obtain ⟨o, h1, h2, h3, h4, h5, h6, h7, h8⟩ := hop
  obtain ⟨o', h1', h2', q1, q2, q3, q4, q5, q6⟩ := hok
  have e : o' = o := by rw [h2, nI_eq (by omega) (by omega)] at h2'; exact h2'.symm
  subst e
  rw [h2] at hb
  simp (disch := omega) only [nI_eq] at hb
  have e3 : I 80 t = nI p := (hm.2.2.1 t ht4).trans ep
  apply g37_0_77
  simp (disch := omega) only [Nat.reduceEqDiff, reduceIte, nI_mulI, nI_add, nI_clamp, nI_ltI, nI_leI, nI_eq, nI_e0, nI_n0, vt, forall_eq, true_and, and_true, true_implies, forall_const, not_true_eq_false, not_false_eq_true, false_implies, implies_true, h3, e44, e3]
  refine ⟨fun c => ?_, fun c => ?_, fun c c2 => ?_⟩
  · refine c37_69_77 (x := x) rfl rfl rfl rfl rfl hi h2 (by omega) hm ht4 h44 ?_ h
    unfold m_to
    simp (disch := omega) only [Nat.reduceEqDiff, reduceIte, nI_mulI, nI_add, nI_clamp, nI_ltI, nI_leI, nI_eq, nI_e0, nI_n0, vt, forall_eq, true_and, and_true, true_implies, forall_const, not_true_eq_false, not_false_eq_true, false_implies, implies_true, hi, h2]
    rw [if_pos (by omega), h6 (by omega)]
  · obtain ⟨a, ha, ea⟩ := vn (q2 (by omega) (by omega) (by omega))
    have k4 := h4 (by omega) (by omega)
    have k7 := h7 (by omega)
    simp (disch := omega) only [Nat.reduceEqDiff, reduceIte, nI_mulI, nI_add, nI_clamp, nI_ltI, nI_leI, nI_eq, nI_e0, nI_n0, vt, forall_eq, true_and, and_true, true_implies, forall_const, not_true_eq_false, not_false_eq_true, false_implies, implies_true, k4, k7, ea]
    have eto : m_to I r t = (if r (16 + 6 * t + a) = 0 then I 109 (16 * t + p) else nI (p + 1)) := by
      unfold m_to
      simp (disch := omega) only [Nat.reduceEqDiff, reduceIte, nI_mulI, nI_add, nI_clamp, nI_ltI, nI_leI, nI_eq, nI_e0, nI_n0, vt, forall_eq, true_and, and_true, true_implies, forall_const, not_true_eq_false, not_false_eq_true, false_implies, implies_true, hi, h2, ea, ep]
      rw [if_neg (by omega), if_pos (by omega)]
    exact c37_69_77 (x := x) rfl rfl rfl rfl rfl hi h2 (by omega) hm ht4 h44 (by rw [eto, hm.2.1 t a ht4 ha]) h
  · obtain ⟨a, ha, ea⟩ := vn (q2 (by omega) (by omega) (by omega))
    obtain ⟨d, hd, ed⟩ := vn (q4 (by omega))
    have k4 := h4 (by omega) (by omega)
    have k5 := h5 (by omega)
    have k8 := h8 (by omega)
    simp (disch := omega) only [Nat.reduceEqDiff, reduceIte, nI_mulI, nI_add, nI_clamp, nI_ltI, nI_leI, nI_eq, nI_e0, nI_n0, vt, forall_eq, true_and, and_true, true_implies, forall_const, not_true_eq_false, not_false_eq_true, false_implies, implies_true, k4, k5, k8, ea, ed]
    rw [hm.2.1 t a ht4 ha, hm.2.1 t d ht4 hd]
    have eto : m_to I r t = (if r (16 + 6 * t + a) < r (16 + 6 * t + d) then I 109 (16 * t + p) else nI (p + 1)) := by
      unfold m_to
      simp (disch := omega) only [Nat.reduceEqDiff, reduceIte, nI_mulI, nI_add, nI_clamp, nI_ltI, nI_leI, nI_eq, nI_e0, nI_n0, vt, forall_eq, true_and, and_true, true_implies, forall_const, not_true_eq_false, not_false_eq_true, false_implies, implies_true, hi, h2, ea, ed, ep]
      rw [if_neg (by omega), if_neg (by omega), if_pos (by omega)]
    by_cases c3 : r (16 + 6 * t + d) ≤ r (16 + 6 * t + a)
    · rw [if_neg (Int32.not_lt.mpr c3)] at eto
      rw [if_pos c3]
      refine ⟨fun _ => ?_, fun q => absurd nI_0 q⟩
      exact c37_69_77 (x := x) rfl rfl rfl rfl rfl hi h2 (by omega) hm ht4 h44 eto.symm h
    · rw [if_pos (Int32.not_le.mp c3)] at eto
      rw [if_neg c3]
      refine ⟨fun q => absurd q (by decide), fun _ => ?_⟩
      exact c37_69_77 (x := x) rfl rfl rfl rfl rfl hi h2 (by omega) hm ht4 h44 eto.symm h
theorem c36_77 {E : am_Ev} {I : Nat → Nat → Int32} {J : Nat → Nat → Int64} {S : Nat → Nat → Option Nat} {Q : am_Qt} {t : Nat} {r : Nat → Int32} {x : Int32} (hp : p_in I) (hc : p_cl I) (hr : r_ok I r) (hm : rm I 77 r) (ht : t < (I 103 4).toNatClampNeg) (h44 : r 44 = nI t) (hs : r (16 + 6 * t + 4) < I 105 t) (h : ∀ I', rm I' 77 (m_do I r t x) → fb I I' 78 83 → Q (.inl none) E I' J S) : am_cl 36 [.ref 77, .ref 12, .int x] E I J S Q := by
  show am_ww 36 0 [.ref 77, .ref 12, .int x, am_U, am_U] [] E I J S Q
  obtain ⟨p, n, ep, en, hpn, hn, hi, ht4, hok⟩ := r_at hp hr ht
  have e44 : I 77 6 = nI t := hm.2.2.2.2.2.1.trans h44
  apply g36_0_77
  rw [e44]
  refine c24_77 hp hc hr hm ht (fun c => q_mkI ?_) (fun c => absurd hs c)
  rw [ep, en, nI_ltI (by omega) (by omega)] at hs
  obtain ⟨hok', hop⟩ := p_at hp hc ht en hn hs
  obtain ⟨o, h1, h2, h3, h4, h5, h6, h7, h8⟩ := id hop
  rw [hi]
  simp (disch := omega) only [Nat.reduceEqDiff, reduceIte, nI_mulI, nI_add, nI_clamp, nI_ltI, nI_leI, nI_eq, nI_e0, nI_n0, vt, forall_eq, true_and, and_true, true_implies, forall_const, not_true_eq_false, not_false_eq_true, false_implies, implies_true, h3]
  have br : o = 9 ∨ o = 10 ∨ o = 11 → am_cl 37 [.ref 77, .ref 12, .int (nI (16 * t + p))] E I J S (q_V fun E3 I3 J3 S3 => Q (.inl none) E3 I3 J3 S3) := by
    intro c
    refine c37_77 (x := x) hi ep hok' hop hm ht4 (by omega) h44 ?_ (fun I' a b => q_mkV (h I' a b))
    rw [h2]
    simp (disch := omega) only [nI_eq]
    exact c
  refine ⟨fun q => absurd q (nI_nm (by omega)), fun _ => ⟨fun c => br (by omega), fun c => ⟨fun c => br (by omega), fun c => ⟨fun c => br (by omega), fun c => ?_⟩⟩⟩⟩
  refine c38_77 hi hok' hop hm ht4 (by omega) h44 ?_ (fun I' a b => q_mkV ?_)
  · rw [h2]
    simp (disch := omega) only [nI_eq]
    omega
  · have eb : bI (m_isB I (16 * t + p)) = nI 0 := by
      unfold m_isB
      rw [h2]
      simp (disch := omega) only [nI_eq]
      rw [decide_eq_false (by omega), decide_eq_false (by omega), decide_eq_false (by omega)]
      rfl
    have e6 : I' 77 6 = nI t := by rw [b 77 (by omega)]; exact e44
    have e7 : m_val I r t x (16 + 6 * t + 4) = nI p := by rw [m_val_ne hi hok' ht4 (by omega) (by omega) (by omega) (by omega)]; exact ep
    have e8 : I' 80 t = nI p := (a.2.2.1 t ht4).trans e7
    have e9 : m_val I r t x (16 + 6 * t + 5) = r (16 + 6 * t + 5) := m_val_ne hi hok' ht4 (by omega) (by omega) (by omega) (by omega)
    simp (disch := omega) only [Nat.reduceEqDiff, reduceIte, nI_mulI, nI_add, nI_clamp, nI_ltI, nI_leI, nI_eq, nI_e0, nI_n0, vt, forall_eq, true_and, and_true, true_implies, forall_const, not_true_eq_false, not_false_eq_true, false_implies, implies_true, e6, e8]
    refine h _ ?_ (fb_u b (by omega) (by omega))
    have et : m_to I r t = nI (p + 1) := by
      unfold m_to
      simp (disch := omega) only [Nat.reduceEqDiff, reduceIte, nI_mulI, nI_add, nI_clamp, nI_ltI, nI_leI, nI_eq, nI_e0, nI_n0, vt, forall_eq, true_and, and_true, true_implies, forall_const, not_true_eq_false, not_false_eq_true, false_implies, implies_true, hi, h2, ep]
      rw [if_neg (by omega), if_neg (by omega), if_neg (by omega)]
    unfold m_do
    rw [hi, eb, i32_a0, upd_id e9, et]
    exact rm_pl a ht4
