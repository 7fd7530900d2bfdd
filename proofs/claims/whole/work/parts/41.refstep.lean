/-! the reference: a thread can go; an instruction -/
theorem u_I_id {I : Nat → Nat → Int32} {k : Nat} : u_I I k (I k) = I := by
  funext a
  unfold u_I
  by_cases h : a = k
  · rw [if_pos h, h]
  · rw [if_neg h]
theorem m220 {E : am_Ev} {I : Nat → Nat → Int32} {J : Nat → Nat → Int64} {S : Nat → Nat → Option Nat} {Q : am_Qt} {t : Nat} (hp : p_in I) (hr : r_ok I (I 116)) (ht : t < (I 103 4).toNatClampNeg) (h : Q (.inl (some (.int (bI (m_can I (I 124) (I 116) t))))) E I J S) : am_cl 220 [.ref 99, .int (nI t)] E I J S Q := by
  show am_ww 220 0 [.ref 99, .int (nI t), am_U] [] E I J S Q
  obtain ⟨p, n, ep, en, hpn, hn, hi, ht4, hok⟩ := r_at hp hr ht
  unfold m_can at h
  rw [ep, en, hi] at h
  apply g220_0
  simp (disch := omega) only [Nat.reduceEqDiff, reduceIte, nI_mulI, nI_add, nI_clamp, nI_ltI, nI_leI, nI_eq, nI_e0, nI_n0, vt, forall_eq, true_and, and_true, true_implies, forall_const, not_true_eq_false, not_false_eq_true, false_implies, implies_true, ep, en]
  refine ⟨fun c => ?_, fun c => ?_⟩
  · obtain ⟨o, ho, eo, h1, h2, h3, h4, h5, h6⟩ := hok c
    simp (disch := omega) only [Nat.reduceEqDiff, reduceIte, nI_mulI, nI_add, nI_clamp, nI_ltI, nI_leI, nI_eq, nI_e0, nI_n0, vt, forall_eq, true_and, and_true, true_implies, forall_const, not_true_eq_false, not_false_eq_true, false_implies, implies_true, eo, decide_eq_true c, Bool.true_and] at h ⊢
    refine ⟨fun c => ?_, fun c => ⟨fun c => ?_, fun c => ?_⟩⟩
    · subst c
      have h2' := h2 (by omega) (by omega) (by omega)
      have b2 := vb h2'
      rw [vc h2'] at h ⊢
      simp (disch := omega) only [Nat.reduceEqDiff, reduceIte, nI_mulI, nI_add, nI_clamp, nI_ltI, nI_leI, nI_eq, nI_e0, nI_n0, vt, forall_eq, true_and, and_true, true_implies, forall_const, not_true_eq_false, not_false_eq_true, false_implies, implies_true, if_true] at h ⊢
      refine ⟨fun c => ?_, fun c => ?_⟩
      · rw [decide_eq_true c] at h; exact h
      · rw [decide_eq_false c] at h; exact h
    · subst c
      have h2' := h5 (by omega)
      have b2 := vb h2'
      rw [vc h2'] at h ⊢
      simp (disch := omega) only [Nat.reduceEqDiff, reduceIte, nI_mulI, nI_add, nI_clamp, nI_ltI, nI_leI, nI_eq, nI_e0, nI_n0, vt, forall_eq, true_and, and_true, true_implies, forall_const, not_true_eq_false, not_false_eq_true, false_implies, implies_true, if_true, if_false] at h ⊢
      refine ⟨fun c => ?_, fun c => ?_⟩
      · rw [decide_eq_false (Int32.not_lt.mpr c)] at h; exact h
      · rw [decide_eq_true (Int32.not_le.mp c)] at h; exact h
    · rw [if_neg (by omega), if_neg (by omega)] at h
      exact h
  · rw [decide_eq_false (by rw [nI_ltI (by omega) (by omega)]; exact c)] at h
    exact h
theorem m241_220 {E : am_Ev} {I : Nat → Nat → Int32} {J : Nat → Nat → Int64} {S : Nat → Nat → Option Nat} {Q : am_Qt} {A : Nat → Int32} {t i o : Nat} {d2 d4 d5 : Value} {x : Int32} (hd2 : am_isL d2 = false) (hd4 : am_isL d4 = false) (hd5 : am_isL d5 = false) (ht : t < 4) (hi : i < 128) (ho : o < 13) (eo : I 106 i = nI o) (h : Q (.inl none) E (u_I I 116 (upd (upd A (16 + 6 * t + 5) (A (16 + 6 * t + 5) + bI (m_isB I i))) (16 + 6 * t + 4) x)) J S) : am_ww 241 220 [.ref 99, .int (nI t), d2, .int (nI i), d4, d5, .int x] [] E (u_I I 116 A) J S Q := by
  apply g241_220 hd2 hd4 hd5
  have e1 : (u_I I 116 A) 116 = A := rfl
  have e2 : (u_I I 116 A) 106 = I 106 := rfl
  simp (disch := omega) only [Nat.reduceEqDiff, reduceIte, nI_mulI, nI_add, nI_clamp, nI_ltI, nI_leI, nI_eq, nI_e0, nI_n0, vt, forall_eq, true_and, and_true, true_implies, forall_const, not_true_eq_false, not_false_eq_true, false_implies, implies_true, e1, e2, eo, uI_0]
  unfold m_isB at h
  simp (disch := omega) only [eo, nI_eq] at h
  refine ⟨fun c => ?_, fun c => ⟨fun c => ?_, fun c => ?_⟩⟩
  · rw [decide_eq_false (by omega), decide_eq_false (by omega), decide_eq_false (by omega)] at h
    exact h
  · rw [decide_eq_false (by omega), decide_eq_false (by omega), decide_eq_false (by omega)] at h
    exact h
  · have hb : (decide (o = 9) || decide (o = 10) || decide (o = 11)) = true := by
      rcases (by omega : o = 9 ∨ o = 10 ∨ o = 11) with rfl | rfl | rfl <;> rfl
    rw [hb] at h
    exact h
theorem m_fin {P : Nat → Nat → Int32} {r A : Nat → Int32} {t i : Nat} {x y : Int32} (hi : m_i r t = i) (hA : m_val P r t x = A) (h5 : A (16 + 6 * t + 5) = r (16 + 6 * t + 5)) (h6 : m_to P r t = y) : upd (upd A (16 + 6 * t + 5) (A (16 + 6 * t + 5) + bI (m_isB P i))) (16 + 6 * t + 4) y = m_do P r t x := by
  unfold m_do
  rw [hi, hA, h5, h6]
theorem m241 {E : am_Ev} {I : Nat → Nat → Int32} {J : Nat → Nat → Int64} {S : Nat → Nat → Option Nat} {Q : am_Qt} {t : Nat} {x : Int32} (hp : p_in I) (hr : r_ok I (I 116)) (ht : t < (I 103 4).toNatClampNeg) (hs : I 116 (16 + 6 * t + 4) < I 105 t) (h : Q (.inl none) E (u_I I 116 (m_do I (I 116) t x)) J S) : am_cl 241 [.ref 99, .int (nI t), .int x] E I J S Q := by
  show am_ww 241 0 [.ref 99, .int (nI t), .int x, am_U, am_U, am_U, am_U] [] E I J S Q
  obtain ⟨p, n, ep, en, hpn, hn, hi, ht4, hok⟩ := r_at hp hr ht
  rw [ep, en, nI_ltI (by omega) (by omega)] at hs
  obtain ⟨o, ho, eo, h1, h2, h3, h4, h5, h6⟩ := hok hs
  apply g241_0
  intro w1 e1
  simp only [nI_mulI, nI_add] at e1
  subst e1
  refine ⟨vp_in_nI (by omega) (by omega), ?_⟩
  simp (disch := omega) only [nI_clamp, ep, nI_mulI, nI_add]
  intro w3 e3
  subst e3
  refine ⟨vp_in_nI (by omega) (by omega), ?_⟩
  simp (disch := omega) only [nI_clamp]
  intro w6 e6 w7 e7 w10 e10 w11 e11 w12 e12
  subst e12
  refine ⟨vp_in_nI (by omega) (by omega), ?_⟩
  simp (disch := omega) only [nI_clamp, ep, nI_add]
  intro w14 e14
  have f1 : o ≠ 2 → o ≠ 9 → o < 12 → w7 = nI (16 + 6 * t + (I 107 (16 * t + p)).toNatClampNeg) ∧ (I 107 (16 * t + p)).toNatClampNeg < 4 := by
    intro q1 q2 q3
    have q := h2 q1 q2 q3
    have b := vb q
    rw [if_neg (by rw [vc q, nI_leI (by omega) (by omega)]; omega)] at e6
    refine ⟨?_, b⟩
    rw [e7, e6, vc q, nI_add, nI_clamp (by omega)]
  have f2 : o = 2 ∨ o = 3 ∨ o = 4 ∨ o = 5 ∨ o = 11 → w11 = nI (16 + 6 * t + (I 108 (16 * t + p)).toNatClampNeg) ∧ (I 108 (16 * t + p)).toNatClampNeg < 4 := by
    intro q1
    have q := h4 q1
    have b := vb q
    rw [if_neg (v0 q), if_neg (by rw [vc q, nI_leI (by omega) (by omega)]; omega)] at e10
    refine ⟨?_, b⟩
    rw [e11, e10, vc q, nI_add, nI_clamp (by omega)]
  have ed : ∀ {y : Int32}, (∀ k, 9 ≤ k → k ≤ 11 → ¬ o = k) → m_to I (I 116) t = w14 := by
    intro y hk
    unfold m_to
    simp (disch := omega) only [hi, eo, nI_eq]
    rw [if_neg (hk 9 (by omega) (by omega)), if_neg (hk 10 (by omega) (by omega)), if_neg (hk 11 (by omega) (by omega)), ep, e14, nI_add]
  have fin : ∀ {A : Nat → Int32} {y : Int32}, m_val I (I 116) t x = A → A (16 + 6 * t + 5) = I 116 (16 + 6 * t + 5) → m_to I (I 116) t = y → am_ww 241 220 [.ref 99, .int (nI t), .int x, .int (nI (16 * t + p)), .int w7, .int w11, .int y] [] E (u_I I 116 A) J S Q := by
    intro A y q1 q2 q3
    refine m241_220 rfl rfl rfl ht4 (by omega) ho eo ?_
    rw [m_fin hi q1 q2 q3]
    exact h
  simp (disch := omega) only [eo, nI_eq]
  have va : ∀ {A : Nat → Int32}, (A = m_val I (I 116) t x) → m_val I (I 116) t x = A := fun q => q.symm
  refine ⟨fun c => ?_, fun c => ?_, fun c => ?_, fun c => ?_, fun c => ?_, fun c => ?_, fun c => ?_, fun c => ?_, fun c => ?_, fun c => ?_, fun c => ?_, fun c => ?_, ?_⟩
  · subst c
    obtain ⟨e, b⟩ := f1 (by omega) (by omega) (by omega)
    subst e
    refine ⟨vp_in_nI (by omega) (by omega), ?_⟩
    simp (disch := omega) only [nI_clamp]
    refine fin ?_ (upd_ne (by omega)) (ed (y := 0) (by omega))
    unfold m_val
    simp (disch := omega) only [Nat.reduceEqDiff, reduceIte, nI_mulI, nI_add, nI_clamp, nI_ltI, nI_leI, nI_eq, nI_e0, nI_n0, vt, forall_eq, true_and, and_true, true_implies, forall_const, not_true_eq_false, not_false_eq_true, false_implies, implies_true, hi, eo]
  · subst c
    obtain ⟨e, b⟩ := f1 (by omega) (by omega) (by omega)
    subst e
    have q := h3 rfl
    refine ⟨vl q (by omega), vp_in_nI (by omega) (by omega), ?_⟩
    simp (disch := omega) only [nI_clamp]
    refine fin ?_ (upd_ne (by omega)) (ed (y := 0) (by omega))
    unfold m_val
    simp (disch := omega) only [Nat.reduceEqDiff, reduceIte, nI_mulI, nI_add, nI_clamp, nI_ltI, nI_leI, nI_eq, nI_e0, nI_n0, vt, forall_eq, true_and, and_true, true_implies, forall_const, not_true_eq_false, not_false_eq_true, false_implies, implies_true, hi, eo]
  · subst c
    obtain ⟨e', b'⟩ := f2 (by omega)
    subst e'
    have q := h1 rfl
    have b := vb q
    refine ⟨vp_in_nI (by omega) (by omega), vl q (by omega), ?_⟩
    simp (disch := omega) only [nI_clamp]
    refine fin ?_ (upd_ne (by omega)) (ed (y := 0) (by omega))
    unfold m_val
    simp (disch := omega) only [Nat.reduceEqDiff, reduceIte, nI_mulI, nI_add, nI_clamp, nI_ltI, nI_leI, nI_eq, nI_e0, nI_n0, vt, forall_eq, true_and, and_true, true_implies, forall_const, not_true_eq_false, not_false_eq_true, false_implies, implies_true, hi, eo]
  · subst c
    obtain ⟨e, b⟩ := f1 (by omega) (by omega) (by omega)
    subst e
    obtain ⟨e', b'⟩ := f2 (by omega)
    subst e'
    refine ⟨vp_in_nI (by omega) (by omega), vp_in_nI (by omega) (by omega), ?_⟩
    simp (disch := omega) only [nI_clamp]
    refine fin ?_ (upd_ne (by omega)) (ed (y := 0) (by omega))
    unfold m_val
    simp (disch := omega) only [Nat.reduceEqDiff, reduceIte, nI_mulI, nI_add, nI_clamp, nI_ltI, nI_leI, nI_eq, nI_e0, nI_n0, vt, forall_eq, true_and, and_true, true_implies, forall_const, not_true_eq_false, not_false_eq_true, false_implies, implies_true, hi, eo]
  · subst c
    obtain ⟨e, b⟩ := f1 (by omega) (by omega) (by omega)
    subst e
    obtain ⟨e', b'⟩ := f2 (by omega)
    subst e'
    refine ⟨vp_in_nI (by omega) (by omega), vp_in_nI (by omega) (by omega), ?_⟩
    simp (disch := omega) only [nI_clamp]
    refine fin ?_ (upd_ne (by omega)) (ed (y := 0) (by omega))
    unfold m_val
    simp (disch := omega) only [Nat.reduceEqDiff, reduceIte, nI_mulI, nI_add, nI_clamp, nI_ltI, nI_leI, nI_eq, nI_e0, nI_n0, vt, forall_eq, true_and, and_true, true_implies, forall_const, not_true_eq_false, not_false_eq_true, false_implies, implies_true, hi, eo]
  · subst c
    obtain ⟨e, b⟩ := f1 (by omega) (by omega) (by omega)
    subst e
    obtain ⟨e', b'⟩ := f2 (by omega)
    subst e'
    refine ⟨vp_in_nI (by omega) (by omega), vp_in_nI (by omega) (by omega), ?_⟩
    simp (disch := omega) only [nI_clamp]
    refine fin ?_ (upd_ne (by omega)) (ed (y := 0) (by omega))
    unfold m_val
    simp (disch := omega) only [Nat.reduceEqDiff, reduceIte, nI_mulI, nI_add, nI_clamp, nI_ltI, nI_leI, nI_eq, nI_e0, nI_n0, vt, forall_eq, true_and, and_true, true_implies, forall_const, not_true_eq_false, not_false_eq_true, false_implies, implies_true, hi, eo]
  · subst c
    obtain ⟨e, b⟩ := f1 (by omega) (by omega) (by omega)
    subst e
    have q := h5 rfl
    have b' := vb q
    rw [vc q, nI_add]
    refine ⟨vp_in_nI (by omega) (by omega), vp_in_nI (by omega) (by omega), ?_⟩
    simp (disch := omega) only [nI_clamp]
    rw [upd_ne (by omega)]
    refine fin ?_ (by rw [upd_ne (by omega), upd_ne (by omega)]) (ed (y := 0) (by omega))
    unfold m_val
    simp (disch := omega) only [Nat.reduceEqDiff, reduceIte, nI_mulI, nI_add, nI_clamp, nI_ltI, nI_leI, nI_eq, nI_e0, nI_n0, vt, forall_eq, true_and, and_true, true_implies, forall_const, not_true_eq_false, not_false_eq_true, false_implies, implies_true, hi, eo]
  · subst c
    have q := h2 (by omega) (by omega) (by omega)
    have b := vb q
    rw [vc q, nI_add]
    refine ⟨vp_in_nI (by omega) (by omega), ?_⟩
    simp (disch := omega) only [nI_clamp]
    refine fin ?_ (upd_ne (by omega)) (ed (y := 0) (by omega))
    unfold m_val
    simp (disch := omega) only [Nat.reduceEqDiff, reduceIte, nI_mulI, nI_add, nI_clamp, nI_ltI, nI_leI, nI_eq, nI_e0, nI_n0, vt, forall_eq, true_and, and_true, true_implies, forall_const, not_true_eq_false, not_false_eq_true, false_implies, implies_true, hi, eo]
  · subst c
    have q := h2 (by omega) (by omega) (by omega)
    have b := vb q
    rw [vc q, nI_add]
    refine ⟨vp_in_nI (by omega) (by omega), ?_⟩
    simp (disch := omega) only [nI_clamp]
    intro w31 e31
    subst e31
    refine fin ?_ (upd_ne (by omega)) (ed (y := 0) (by omega))
    unfold m_val
    simp (disch := omega) only [Nat.reduceEqDiff, reduceIte, nI_mulI, nI_add, nI_clamp, nI_ltI, nI_leI, nI_eq, nI_e0, nI_n0, vt, forall_eq, true_and, and_true, true_implies, forall_const, not_true_eq_false, not_false_eq_true, false_implies, implies_true, hi, eo]
  · subst c
    rw [← u_I_id (I := I) (k := 116)]
    refine fin ?_ rfl ?_
    · unfold m_val
      simp (disch := omega) only [Nat.reduceEqDiff, reduceIte, nI_mulI, nI_add, nI_clamp, nI_ltI, nI_leI, nI_eq, nI_e0, nI_n0, vt, forall_eq, true_and, and_true, true_implies, forall_const, not_true_eq_false, not_false_eq_true, false_implies, implies_true, hi, eo]
    · unfold m_to
      simp (disch := omega) only [Nat.reduceEqDiff, reduceIte, nI_mulI, nI_add, nI_clamp, nI_ltI, nI_leI, nI_eq, nI_e0, nI_n0, vt, forall_eq, true_and, and_true, true_implies, forall_const, not_true_eq_false, not_false_eq_true, false_implies, implies_true, hi, eo]
      rfl
  · subst c
    obtain ⟨e, b⟩ := f1 (by omega) (by omega) (by omega)
    subst e
    refine ⟨vp_in_nI (by omega) (by omega), ?_⟩
    simp (disch := omega) only [nI_clamp]
    intro w34 e34
    rw [← u_I_id (I := I) (k := 116)]
    refine fin ?_ rfl ?_
    · unfold m_val
      simp (disch := omega) only [Nat.reduceEqDiff, reduceIte, nI_mulI, nI_add, nI_clamp, nI_ltI, nI_leI, nI_eq, nI_e0, nI_n0, vt, forall_eq, true_and, and_true, true_implies, forall_const, not_true_eq_false, not_false_eq_true, false_implies, implies_true, hi, eo]
    · unfold m_to
      simp (disch := omega) only [Nat.reduceEqDiff, reduceIte, nI_mulI, nI_add, nI_clamp, nI_ltI, nI_leI, nI_eq, nI_e0, nI_n0, vt, forall_eq, true_and, and_true, true_implies, forall_const, not_true_eq_false, not_false_eq_true, false_implies, implies_true, hi, eo, ep]
      rw [e34, e14]
  · subst c
    obtain ⟨e, b⟩ := f1 (by omega) (by omega) (by omega)
    subst e
    obtain ⟨e', b'⟩ := f2 (by omega)
    subst e'
    refine ⟨vp_in_nI (by omega) (by omega), vp_in_nI (by omega) (by omega), ?_⟩
    simp (disch := omega) only [nI_clamp]
    intro w38 e38
    rw [← u_I_id (I := I) (k := 116)]
    refine fin ?_ rfl ?_
    · unfold m_val
      simp (disch := omega) only [Nat.reduceEqDiff, reduceIte, nI_mulI, nI_add, nI_clamp, nI_ltI, nI_leI, nI_eq, nI_e0, nI_n0, vt, forall_eq, true_and, and_true, true_implies, forall_const, not_true_eq_false, not_false_eq_true, false_implies, implies_true, hi, eo]
    · unfold m_to
      simp (disch := omega) only [Nat.reduceEqDiff, reduceIte, nI_mulI, nI_add, nI_clamp, nI_ltI, nI_leI, nI_eq, nI_e0, nI_n0, vt, forall_eq, true_and, and_true, true_implies, forall_const, not_true_eq_false, not_false_eq_true, false_implies, implies_true, hi, eo, ep]
      rw [e38, e14]
      by_cases q : I 116 (16 + 6 * t + (I 108 (16 * t + p)).toNatClampNeg) ≤ I 116 (16 + 6 * t + (I 107 (16 * t + p)).toNatClampNeg)
      · rw [if_pos q, if_neg (Int32.not_lt.mpr q)]
      · rw [if_neg q, if_pos (Int32.not_le.mp q)]
  · intro c0 c1 c2 c3 c4 c5 c6 c7 c8 c9 c10 c11
    rw [← u_I_id (I := I) (k := 116)]
    refine fin ?_ rfl (ed (y := 0) (by omega))
    unfold m_val
    simp (disch := omega) only [hi, eo, nI_eq, if_neg c0, if_neg c1, if_neg c2, if_neg c3, if_neg c4, if_neg c5, if_neg c6, if_neg c7, if_neg c8]
