/-! the class's machines: who can go, what an instruction does -/
theorem c24n_20 {E : am_Ev} {I : Nat → Nat → Int32} {J : Nat → Nat → Int64} {S : Nat → Nat → Option Nat} {Q : am_Qt} (h : Q (.inl (some (.int (-1)))) E I J S) : am_cl 24 [.ref 20, .ref 12, .int (-1)] E I J S Q := by
  show am_ww 24 0 [.ref 20, .ref 12, .int (-1)] [] E I J S Q
  apply g24_0_20
  exact ⟨fun _ => h, fun q => absurd (by decide) q⟩
theorem c24_20 {E : am_Ev} {I : Nat → Nat → Int32} {J : Nat → Nat → Int64} {S : Nat → Nat → Option Nat} {Q : am_Qt} {t : Nat} {r : Nat → Int32} (hp : p_in I) (hc : p_cl I) (hr : r_ok I r) (hm : rm I 20 r) (ht : t < (I 103 4).toNatClampNeg) (h1 : r (16 + 6 * t + 4) < I 105 t → Q (.inl (some (.int (nI (m_i r t))))) E I J S) (h2 : ¬ r (16 + 6 * t + 4) < I 105 t → Q (.inl (some (.int (-1)))) E I J S) : am_cl 24 [.ref 20, .ref 12, .int (nI t)] E I J S Q := by
  show am_ww 24 0 [.ref 20, .ref 12, .int (nI t)] [] E I J S Q
  obtain ⟨p, n, ep, en, hpn, hn, hi, ht4, hok⟩ := r_at hp hr ht
  have hmm := vb hp.1
  have e1 : I 23 t = nI p := (hm.2.2.1 t ht4).trans ep
  have e2 : I 15 t = nI n := ((hc.2.1 t ht).1).trans en
  have e3 : I 12 5 = nI (I 103 4).toNatClampNeg := hc.1.trans (vc hp.1)
  rw [ep, en, nI_ltI (by omega) (by omega)] at h1 h2
  rw [hi] at h1
  apply g24_0_20
  rw [e3]
  simp (disch := omega) only [Nat.reduceEqDiff, reduceIte, nI_mulI, nI_add, nI_clamp, nI_ltI, nI_leI, nI_eq, nI_e0, nI_n0, vt, forall_eq, true_and, and_true, true_implies, forall_const, not_true_eq_false, not_false_eq_true, false_implies, implies_true, e1, e2]
  refine ⟨fun q => absurd q (by omega), fun _ => ⟨fun c => ?_, h2⟩⟩
  rw [Nat.mul_comm t 16]
  exact h1 c
theorem c23n_20 {E : am_Ev} {I : Nat → Nat → Int32} {J : Nat → Nat → Int64} {S : Nat → Nat → Option Nat} {Q : am_Qt} (h : Q (.inl (some (.int (nI 0)))) E I J S) : am_cl 23 [.ref 20, .ref 12, .int (-1), .ref 28] E I J S Q := by
  show am_ww 23 0 [.ref 20, .ref 12, .int (-1), .ref 28, am_U, am_U] [] E I J S Q
  apply g23_0_20
  exact c24n_20 (q_mkI ⟨fun _ => h, fun q => absurd rfl q⟩)
theorem c23_20 {E : am_Ev} {I : Nat → Nat → Int32} {J : Nat → Nat → Int64} {S : Nat → Nat → Option Nat} {Q : am_Qt} {t : Nat} {r : Nat → Int32} (hp : p_in I) (hc : p_cl I) (hr : r_ok I r) (hm : rm I 20 r) (ht : t < (I 103 4).toNatClampNeg) (h : Q (.inl (some (.int (bI (m_can I (I 28) r t))))) E I J S) : am_cl 23 [.ref 20, .ref 12, .int (nI t), .ref 28] E I J S Q := by
  show am_ww 23 0 [.ref 20, .ref 12, .int (nI t), .ref 28, am_U, am_U] [] E I J S Q
  obtain ⟨p, n, ep, en, hpn, hn, hi, ht4, hok⟩ := r_at hp hr ht
  have ho := fun q => (p_at hp hc ht en hn (p := p) q).2
  apply g23_0_20
  unfold m_can at h
  refine c24_20 hp hc hr hm ht (fun c => q_mkI ?_) (fun c => q_mkI ?_)
  · rw [decide_eq_true c, Bool.true_and] at h
    rw [ep, en, nI_ltI (by omega) (by omega)] at c
    obtain ⟨o, h1, h2, h3, h4, h5, h6, h7, h8⟩ := ho c
    obtain ⟨o', h1', h2', q1, q2, q3, q4, q5, q6⟩ := hok c
    have e : o' = o := by rw [h2, nI_eq (by omega) (by omega)] at h2'; exact h2'.symm
    subst e
    rw [hi] at h ⊢
    rw [h2] at h
    simp (disch := omega) only [Nat.reduceEqDiff, reduceIte, nI_mulI, nI_add, nI_clamp, nI_ltI, nI_leI, nI_eq, nI_e0, nI_n0, vt, forall_eq, true_and, and_true, true_implies, forall_const, not_true_eq_false, not_false_eq_true, false_implies, implies_true, h3] at h ⊢
    refine ⟨fun q => absurd q (nI_nm (by omega)), fun _ => ⟨fun c => ?_, fun c => ⟨fun c => ?_, fun c => ?_⟩⟩⟩
    · have c' : o' = 7 := by omega
      subst c'
      have b := q2 (by omega) (by omega) (by omega)
      have b' := vb b
      simp (disch := omega) only [Nat.reduceEqDiff, reduceIte, nI_mulI, nI_add, nI_clamp, nI_ltI, nI_leI, nI_eq, nI_e0, nI_n0, vt, forall_eq, true_and, and_true, true_implies, forall_const, not_true_eq_false, not_false_eq_true, false_implies, implies_true, h4] at h ⊢
      rw [vc b]
      simp (disch := omega) only [Nat.reduceEqDiff, reduceIte, nI_mulI, nI_add, nI_clamp, nI_ltI, nI_leI, nI_eq, nI_e0, nI_n0, vt, forall_eq, true_and, and_true, true_implies, forall_const, not_true_eq_false, not_false_eq_true, false_implies, implies_true]
      rw [hm.2.2.2.2.1 _ b']
      refine ⟨fun c => ?_, fun c => ?_⟩
      · rw [decide_eq_true c] at h; exact h
      · rw [decide_eq_false c] at h; exact h
    · have c' : o' = 6 := by omega
      subst c'
      have b := q5 (by omega)
      have b' := vb b
      simp (disch := omega) only [Nat.reduceEqDiff, reduceIte, nI_mulI, nI_add, nI_clamp, nI_ltI, nI_leI, nI_eq, nI_e0, nI_n0, vt, forall_eq, true_and, and_true, true_implies, forall_const, not_true_eq_false, not_false_eq_true, false_implies, implies_true, h5] at h ⊢
      rw [vc b]
      simp (disch := omega) only [Nat.reduceEqDiff, reduceIte, nI_mulI, nI_add, nI_clamp, nI_ltI, nI_leI, nI_eq, nI_e0, nI_n0, vt, forall_eq, true_and, and_true, true_implies, forall_const, not_true_eq_false, not_false_eq_true, false_implies, implies_true]
      rw [hm.2.2.2.2.2.2 _ b']
      refine ⟨fun c => ?_, fun c => ?_⟩
      · rw [decide_eq_false (Int32.not_lt.mpr c)] at h; exact h
      · rw [decide_eq_true (Int32.not_le.mp c)] at h; exact h
    · rw [if_neg (by omega), if_neg (by omega)] at h
      exact h
  · rw [decide_eq_false c, Bool.false_and] at h
    exact ⟨fun _ => h, fun q => absurd rfl q⟩
theorem c34_20 {E : am_Ev} {I : Nat → Nat → Int32} {J : Nat → Nat → Int64} {S : Nat → Nat → Option Nat} {Q : am_Qt} {t : Nat} {r : Nat → Int32} (hp : p_in I) (hc : p_cl I) (hr : r_ok I r) (hm : rm I 20 r) (ht : t < (I 103 4).toNatClampNeg) (h44 : r 44 = nI t) (hs : r (16 + 6 * t + 4) < I 105 t) (h1 : I 106 (m_i r t) = nI 6 → Q (.inl (some (.int (I 108 (m_i r t))))) E I J S) (h2 : ¬ I 106 (m_i r t) = nI 6 → Q (.inl (some (.int (-1)))) E I J S) : am_cl 34 [.ref 20, .ref 12] E I J S Q := by
  show am_ww 34 0 [.ref 20, .ref 12, am_U] [] E I J S Q
  obtain ⟨p, n, ep, en, hpn, hn, hi, ht4, hok⟩ := r_at hp hr ht
  have e44 : I 20 6 = nI t := hm.2.2.2.2.2.1.trans h44
  apply g34_0_20
  rw [e44]
  refine c24_20 hp hc hr hm ht (fun c => q_mkI ?_) (fun c => absurd hs c)
  rw [ep, en, nI_ltI (by omega) (by omega)] at hs
  obtain ⟨o, g1, g2, g3, g4, g5, g6, g7, g8⟩ := (p_at hp hc ht en hn hs).2
  rw [hi] at h1 h2 ⊢
  rw [g2] at h1 h2
  simp (disch := omega) only [Nat.reduceEqDiff, reduceIte, nI_mulI, nI_add, nI_clamp, nI_ltI, nI_leI, nI_eq, nI_e0, nI_n0, vt, forall_eq, true_and, and_true, true_implies, forall_const, not_true_eq_false, not_false_eq_true, false_implies, implies_true, g3] at h1 h2 ⊢
  refine ⟨fun q => absurd q (nI_nm (by omega)), fun _ => ⟨fun c => ?_, fun c => h2 (by omega)⟩⟩
  rw [g5 (by omega)]
  exact h1 (by omega)
theorem c24n_61 {E : am_Ev} {I : Nat → Nat → Int32} {J : Nat → Nat → Int64} {S : Nat → Nat → Option Nat} {Q : am_Qt} (h : Q (.inl (some (.int (-1)))) E I J S) : am_cl 24 [.ref 61, .ref 12, .int (-1)] E I J S Q := by
  show am_ww 24 0 [.ref 61, .ref 12, .int (-1)] [] E I J S Q
  apply g24_0_61
  exact ⟨fun _ => h, fun q => absurd (by decide) q⟩
theorem c24_61 {E : am_Ev} {I : Nat → Nat → Int32} {J : Nat → Nat → Int64} {S : Nat → Nat → Option Nat} {Q : am_Qt} {t : Nat} {r : Nat → Int32} (hp : p_in I) (hc : p_cl I) (hr : r_ok I r) (hm : rm I 61 r) (ht : t < (I 103 4).toNatClampNeg) (h1 : r (16 + 6 * t + 4) < I 105 t → Q (.inl (some (.int (nI (m_i r t))))) E I J S) (h2 : ¬ r (16 + 6 * t + 4) < I 105 t → Q (.inl (some (.int (-1)))) E I J S) : am_cl 24 [.ref 61, .ref 12, .int (nI t)] E I J S Q := by
  show am_ww 24 0 [.ref 61, .ref 12, .int (nI t)] [] E I J S Q
  obtain ⟨p, n, ep, en, hpn, hn, hi, ht4, hok⟩ := r_at hp hr ht
  have hmm := vb hp.1
  have e1 : I 64 t = nI p := (hm.2.2.1 t ht4).trans ep
  have e2 : I 15 t = nI n := ((hc.2.1 t ht).1).trans en
  have e3 : I 12 5 = nI (I 103 4).toNatClampNeg := hc.1.trans (vc hp.1)
  rw [ep, en, nI_ltI (by omega) (by omega)] at h1 h2
  rw [hi] at h1
  apply g24_0_61
  rw [e3]
  simp (disch := omega) only [Nat.reduceEqDiff, reduceIte, nI_mulI, nI_add, nI_clamp, nI_ltI, nI_leI, nI_eq, nI_e0, nI_n0, vt, forall_eq, true_and, and_true, true_implies, forall_const, not_true_eq_false, not_false_eq_true, false_implies, implies_true, e1, e2]
  refine ⟨fun q => absurd q (by omega), fun _ => ⟨fun c => ?_, h2⟩⟩
  rw [Nat.mul_comm t 16]
  exact h1 c
theorem c23n_61 {E : am_Ev} {I : Nat → Nat → Int32} {J : Nat → Nat → Int64} {S : Nat → Nat → Option Nat} {Q : am_Qt} (h : Q (.inl (some (.int (nI 0)))) E I J S) : am_cl 23 [.ref 61, .ref 12, .int (-1), .ref 26] E I J S Q := by
  show am_ww 23 0 [.ref 61, .ref 12, .int (-1), .ref 26, am_U, am_U] [] E I J S Q
  apply g23_0_61
  exact c24n_61 (q_mkI ⟨fun _ => h, fun q => absurd rfl q⟩)
theorem c23_61 {E : am_Ev} {I : Nat → Nat → Int32} {J : Nat → Nat → Int64} {S : Nat → Nat → Option Nat} {Q : am_Qt} {t : Nat} {r : Nat → Int32} (hp : p_in I) (hc : p_cl I) (hr : r_ok I r) (hm : rm I 61 r) (ht : t < (I 103 4).toNatClampNeg) (h : Q (.inl (some (.int (bI (m_can I (I 26) r t))))) E I J S) : am_cl 23 [.ref 61, .ref 12, .int (nI t), .ref 26] E I J S Q := by
  show am_ww 23 0 [.ref 61, .ref 12, .int (nI t), .ref 26, am_U, am_U] [] E I J S Q
  obtain ⟨p, n, ep, en, hpn, hn, hi, ht4, hok⟩ := r_at hp hr ht
  have ho := fun q => (p_at hp hc ht en hn (p := p) q).2
  apply g23_0_61
  unfold m_can at h
  refine c24_61 hp hc hr hm ht (fun c => q_mkI ?_) (fun c => q_mkI ?_)
  · rw [decide_eq_true c, Bool.true_and] at h
    rw [ep, en, nI_ltI (by omega) (by omega)] at c
    obtain ⟨o, h1, h2, h3, h4, h5, h6, h7, h8⟩ := ho c
    obtain ⟨o', h1', h2', q1, q2, q3, q4, q5, q6⟩ := hok c
    have e : o' = o := by rw [h2, nI_eq (by omega) (by omega)] at h2'; exact h2'.symm
    subst e
    rw [hi] at h ⊢
    rw [h2] at h
    simp (disch := omega) only [Nat.reduceEqDiff, reduceIte, nI_mulI, nI_add, nI_clamp, nI_ltI, nI_leI, nI_eq, nI_e0, nI_n0, vt, forall_eq, true_and, and_true, true_implies, forall_const, not_true_eq_false, not_false_eq_true, false_implies, implies_true, h3] at h ⊢
    refine ⟨fun q => absurd q (nI_nm (by omega)), fun _ => ⟨fun c => ?_, fun c => ⟨fun c => ?_, fun c => ?_⟩⟩⟩
    · have c' : o' = 7 := by omega
      subst c'
      have b := q2 (by omega) (by omega) (by omega)
      have b' := vb b
      simp (disch := omega) only [Nat.reduceEqDiff, reduceIte, nI_mulI, nI_add, nI_clamp, nI_ltI, nI_leI, nI_eq, nI_e0, nI_n0, vt, forall_eq, true_and, and_true, true_implies, forall_const, not_true_eq_false, not_false_eq_true, false_implies, implies_true, h4] at h ⊢
      rw [vc b]
      simp (disch := omega) only [Nat.reduceEqDiff, reduceIte, nI_mulI, nI_add, nI_clamp, nI_ltI, nI_leI, nI_eq, nI_e0, nI_n0, vt, forall_eq, true_and, and_true, true_implies, forall_const, not_true_eq_false, not_false_eq_true, false_implies, implies_true]
      rw [hm.2.2.2.2.1 _ b']
      refine ⟨fun c => ?_, fun c => ?_⟩
      · rw [decide_eq_true c] at h; exact h
      · rw [decide_eq_false c] at h; exact h
    · have c' : o' = 6 := by omega
      subst c'
      have b := q5 (by omega)
      have b' := vb b
      simp (disch := omega) only [Nat.reduceEqDiff, reduceIte, nI_mulI, nI_add, nI_clamp, nI_ltI, nI_leI, nI_eq, nI_e0, nI_n0, vt, forall_eq, true_and, and_true, true_implies, forall_const, not_true_eq_false, not_false_eq_true, false_implies, implies_true, h5] at h ⊢
      rw [vc b]
      simp (disch := omega) only [Nat.reduceEqDiff, reduceIte, nI_mulI, nI_add, nI_clamp, nI_ltI, nI_leI, nI_eq, nI_e0, nI_n0, vt, forall_eq, true_and, and_true, true_implies, forall_const, not_true_eq_false, not_false_eq_true, false_implies, implies_true]
      rw [hm.2.2.2.2.2.2 _ b']
      refine ⟨fun c => ?_, fun c => ?_⟩
      · rw [decide_eq_false (Int32.not_lt.mpr c)] at h; exact h
      · rw [decide_eq_true (Int32.not_le.mp c)] at h; exact h
    · rw [if_neg (by omega), if_neg (by omega)] at h
      exact h
  · rw [decide_eq_false c, Bool.false_and] at h
    exact ⟨fun _ => h, fun q => absurd rfl q⟩
theorem c34_61 {E : am_Ev} {I : Nat → Nat → Int32} {J : Nat → Nat → Int64} {S : Nat → Nat → Option Nat} {Q : am_Qt} {t : Nat} {r : Nat → Int32} (hp : p_in I) (hc : p_cl I) (hr : r_ok I r) (hm : rm I 61 r) (ht : t < (I 103 4).toNatClampNeg) (h44 : r 44 = nI t) (hs : r (16 + 6 * t + 4) < I 105 t) (h1 : I 106 (m_i r t) = nI 6 → Q (.inl (some (.int (I 108 (m_i r t))))) E I J S) (h2 : ¬ I 106 (m_i r t) = nI 6 → Q (.inl (some (.int (-1)))) E I J S) : am_cl 34 [.ref 61, .ref 12] E I J S Q := by
  show am_ww 34 0 [.ref 61, .ref 12, am_U] [] E I J S Q
  obtain ⟨p, n, ep, en, hpn, hn, hi, ht4, hok⟩ := r_at hp hr ht
  have e44 : I 61 6 = nI t := hm.2.2.2.2.2.1.trans h44
  apply g34_0_61
  rw [e44]
  refine c24_61 hp hc hr hm ht (fun c => q_mkI ?_) (fun c => absurd hs c)
  rw [ep, en, nI_ltI (by omega) (by omega)] at hs
  obtain ⟨o, g1, g2, g3, g4, g5, g6, g7, g8⟩ := (p_at hp hc ht en hn hs).2
  rw [hi] at h1 h2 ⊢
  rw [g2] at h1 h2
  simp (disch := omega) only [Nat.reduceEqDiff, reduceIte, nI_mulI, nI_add, nI_clamp, nI_ltI, nI_leI, nI_eq, nI_e0, nI_n0, vt, forall_eq, true_and, and_true, true_implies, forall_const, not_true_eq_false, not_false_eq_true, false_implies, implies_true, g3] at h1 h2 ⊢
  refine ⟨fun q => absurd q (nI_nm (by omega)), fun _ => ⟨fun c => ?_, fun c => h2 (by omega)⟩⟩
  rw [g5 (by omega)]
  exact h1 (by omega)
theorem c24n_69 {E : am_Ev} {I : Nat → Nat → Int32} {J : Nat → Nat → Int64} {S : Nat → Nat → Option Nat} {Q : am_Qt} (h : Q (.inl (some (.int (-1)))) E I J S) : am_cl 24 [.ref 69, .ref 12, .int (-1)] E I J S Q := by
  show am_ww 24 0 [.ref 69, .ref 12, .int (-1)] [] E I J S Q
  apply g24_0_69
  exact ⟨fun _ => h, fun q => absurd (by decide) q⟩
theorem c24_69 {E : am_Ev} {I : Nat → Nat → Int32} {J : Nat → Nat → Int64} {S : Nat → Nat → Option Nat} {Q : am_Qt} {t : Nat} {r : Nat → Int32} (hp : p_in I) (hc : p_cl I) (hr : r_ok I r) (hm : rm I 69 r) (ht : t < (I 103 4).toNatClampNeg) (h1 : r (16 + 6 * t + 4) < I 105 t → Q (.inl (some (.int (nI (m_i r t))))) E I J S) (h2 : ¬ r (16 + 6 * t + 4) < I 105 t → Q (.inl (some (.int (-1)))) E I J S) : am_cl 24 [.ref 69, .ref 12, .int (nI t)] E I J S Q := by
  show am_ww 24 0 [.ref 69, .ref 12, .int (nI t)] [] E I J S Q
  obtain ⟨p, n, ep, en, hpn, hn, hi, ht4, hok⟩ := r_at hp hr ht
  have hmm := vb hp.1
  have e1 : I 72 t = nI p := (hm.2.2.1 t ht4).trans ep
  have e2 : I 15 t = nI n := ((hc.2.1 t ht).1).trans en
  have e3 : I 12 5 = nI (I 103 4).toNatClampNeg := hc.1.trans (vc hp.1)
  rw [ep, en, nI_ltI (by omega) (by omega)] at h1 h2
  rw [hi] at h1
  apply g24_0_69
  rw [e3]
  simp (disch := omega) only [Nat.reduceEqDiff, reduceIte, nI_mulI, nI_add, nI_clamp, nI_ltI, nI_leI, nI_eq, nI_e0, nI_n0, vt, forall_eq, true_and, and_true, true_implies, forall_const, not_true_eq_false, not_false_eq_true, false_implies, implies_true, e1, e2]
  refine ⟨fun q => absurd q (by omega), fun _ => ⟨fun c => ?_, h2⟩⟩
  rw [Nat.mul_comm t 16]
  exact h1 c
theorem c23n_69 {E : am_Ev} {I : Nat → Nat → Int32} {J : Nat → Nat → Int64} {S : Nat → Nat → Option Nat} {Q : am_Qt} (h : Q (.inl (some (.int (nI 0)))) E I J S) : am_cl 23 [.ref 69, .ref 12, .int (-1), .ref 26] E I J S Q := by
  show am_ww 23 0 [.ref 69, .ref 12, .int (-1), .ref 26, am_U, am_U] [] E I J S Q
  apply g23_0_69
  exact c24n_69 (q_mkI ⟨fun _ => h, fun q => absurd rfl q⟩)
theorem c23_69 {E : am_Ev} {I : Nat → Nat → Int32} {J : Nat → Nat → Int64} {S : Nat → Nat → Option Nat} {Q : am_Qt} {t : Nat} {r : Nat → Int32} (hp : p_in I) (hc : p_cl I) (hr : r_ok I r) (hm : rm I 69 r) (ht : t < (I 103 4).toNatClampNeg) (h : Q (.inl (some (.int (bI (m_can I (I 26) r t))))) E I J S) : am_cl 23 [.ref 69, .ref 12, .int (nI t), .ref 26] E I J S Q := by
  show am_ww 23 0 [.ref 69, .ref 12, .int (nI t), .ref 26, am_U, am_U] [] E I J S Q
  obtain ⟨p, n, ep, en, hpn, hn, hi, ht4, hok⟩ := r_at hp hr ht
  have ho := fun q => (p_at hp hc ht en hn (p := p) q).2
  apply g23_0_69
  unfold m_can at h
  refine c24_69 hp hc hr hm ht (fun c => q_mkI ?_) (fun c => q_mkI ?_)
  · rw [decide_eq_true c, Bool.true_and] at h
    rw [ep, en, nI_ltI (by omega) (by omega)] at c
    obtain ⟨o, h1, h2, h3, h4, h5, h6, h7, h8⟩ := ho c
    obtain ⟨o', h1', h2', q1, q2, q3, q4, q5, q6⟩ := hok c
    have e : o' = o := by rw [h2, nI_eq (by omega) (by omega)] at h2'; exact h2'.symm
    subst e
    rw [hi] at h ⊢
    rw [h2] at h
    simp (disch := omega) only [Nat.reduceEqDiff, reduceIte, nI_mulI, nI_add, nI_clamp, nI_ltI, nI_leI, nI_eq, nI_e0, nI_n0, vt, forall_eq, true_and, and_true, true_implies, forall_const, not_true_eq_false, not_false_eq_true, false_implies, implies_true, h3] at h ⊢
    refine ⟨fun q => absurd q (nI_nm (by omega)), fun _ => ⟨fun c => ?_, fun c => ⟨fun c => ?_, fun c => ?_⟩⟩⟩
    · have c' : o' = 7 := by omega
      subst c'
      have b := q2 (by omega) (by omega) (by omega)
      have b' := vb b
      simp (disch := omega) only [Nat.reduceEqDiff, reduceIte, nI_mulI, nI_add, nI_clamp, nI_ltI, nI_leI, nI_eq, nI_e0, nI_n0, vt, forall_eq, true_and, and_true, true_implies, forall_const, not_true_eq_false, not_false_eq_true, false_implies, implies_true, h4] at h ⊢
      rw [vc b]
      simp (disch := omega) only [Nat.reduceEqDiff, reduceIte, nI_mulI, nI_add, nI_clamp, nI_ltI, nI_leI, nI_eq, nI_e0, nI_n0, vt, forall_eq, true_and, and_true, true_implies, forall_const, not_true_eq_false, not_false_eq_true, false_implies, implies_true]
      rw [hm.2.2.2.2.1 _ b']
      refine ⟨fun c => ?_, fun c => ?_⟩
      · rw [decide_eq_true c] at h; exact h
      · rw [decide_eq_false c] at h; exact h
    · have c' : o' = 6 := by omega
      subst c'
      have b := q5 (by omega)
      have b' := vb b
      simp (disch := omega) only [Nat.reduceEqDiff, reduceIte, nI_mulI, nI_add, nI_clamp, nI_ltI, nI_leI, nI_eq, nI_e0, nI_n0, vt, forall_eq, true_and, and_true, true_implies, forall_const, not_true_eq_false, not_false_eq_true, false_implies, implies_true, h5] at h ⊢
      rw [vc b]
      simp (disch := omega) only [Nat.reduceEqDiff, reduceIte, nI_mulI, nI_add, nI_clamp, nI_ltI, nI_leI, nI_eq, nI_e0, nI_n0, vt, forall_eq, true_and, and_true, true_implies, forall_const, not_true_eq_false, not_false_eq_true, false_implies, implies_true]
      rw [hm.2.2.2.2.2.2 _ b']
      refine ⟨fun c => ?_, fun c => ?_⟩
      · rw [decide_eq_false (Int32.not_lt.mpr c)] at h; exact h
      · rw [decide_eq_true (Int32.not_le.mp c)] at h; exact h
    · rw [if_neg (by omega), if_neg (by omega)] at h
      exact h
  · rw [decide_eq_false c, Bool.false_and] at h
    exact ⟨fun _ => h, fun q => absurd rfl q⟩
theorem c34_69 {E : am_Ev} {I : Nat → Nat → Int32} {J : Nat → Nat → Int64} {S : Nat → Nat → Option Nat} {Q : am_Qt} {t : Nat} {r : Nat → Int32} (hp : p_in I) (hc : p_cl I) (hr : r_ok I r) (hm : rm I 69 r) (ht : t < (I 103 4).toNatClampNeg) (h44 : r 44 = nI t) (hs : r (16 + 6 * t + 4) < I 105 t) (h1 : I 106 (m_i r t) = nI 6 → Q (.inl (some (.int (I 108 (m_i r t))))) E I J S) (h2 : ¬ I 106 (m_i r t) = nI 6 → Q (.inl (some (.int (-1)))) E I J S) : am_cl 34 [.ref 69, .ref 12] E I J S Q := by
  show am_ww 34 0 [.ref 69, .ref 12, am_U] [] E I J S Q
  obtain ⟨p, n, ep, en, hpn, hn, hi, ht4, hok⟩ := r_at hp hr ht
  have e44 : I 69 6 = nI t := hm.2.2.2.2.2.1.trans h44
  apply g34_0_69
  rw [e44]
  refine c24_69 hp hc hr hm ht (fun c => q_mkI ?_) (fun c => absurd hs c)
  rw [ep, en, nI_ltI (by omega) (by omega)] at hs
  obtain ⟨o, g1, g2, g3, g4, g5, g6, g7, g8⟩ := (p_at hp hc ht en hn hs).2
  rw [hi] at h1 h2 ⊢
  rw [g2] at h1 h2
  simp (disch := omega) only [Nat.reduceEqDiff, reduceIte, nI_mulI, nI_add, nI_clamp, nI_ltI, nI_leI, nI_eq, nI_e0, nI_n0, vt, forall_eq, true_and, and_true, true_implies, forall_const, not_true_eq_false, not_false_eq_true, false_implies, implies_true, g3] at h1 h2 ⊢
  refine ⟨fun q => absurd q (nI_nm (by omega)), fun _ => ⟨fun c => ?_, fun c => h2 (by omega)⟩⟩
  rw [g5 (by omega)]
  exact h1 (by omega)
theorem c24n_77 {E : am_Ev} {I : Nat → Nat → Int32} {J : Nat → Nat → Int64} {S : Nat → Nat → Option Nat} {Q : am_Qt} (h : Q (.inl (some (.int (-1)))) E I J S) : am_cl 24 [.ref 77, .ref 12, .int (-1)] E I J S Q := by
  show am_ww 24 0 [.ref 77, .ref 12, .int (-1)] [] E I J S Q
  apply g24_0_77
  exact ⟨fun _ => h, fun q => absurd (by decide) q⟩
theorem c24_77 {E : am_Ev} {I : Nat → Nat → Int32} {J : Nat → Nat → Int64} {S : Nat → Nat → Option Nat} {Q : am_Qt} {t : Nat} {r : Nat → Int32} (hp : p_in I) (hc : p_cl I) (hr : r_ok I r) (hm : rm I 77 r) (ht : t < (I 103 4).toNatClampNeg) (h1 : r (16 + 6 * t + 4) < I 105 t → Q (.inl (some (.int (nI (m_i r t))))) E I J S) (h2 : ¬ r (16 + 6 * t + 4) < I 105 t → Q (.inl (some (.int (-1)))) E I J S) : am_cl 24 [.ref 77, .ref 12, .int (nI t)] E I J S Q := by
  show am_ww 24 0 [.ref 77, .ref 12, .int (nI t)] [] E I J S Q
  obtain ⟨p, n, ep, en, hpn, hn, hi, ht4, hok⟩ := r_at hp hr ht
  have hmm := vb hp.1
  have e1 : I 80 t = nI p := (hm.2.2.1 t ht4).trans ep
  have e2 : I 15 t = nI n := ((hc.2.1 t ht).1).trans en
  have e3 : I 12 5 = nI (I 103 4).toNatClampNeg := hc.1.trans (vc hp.1)
  rw [ep, en, nI_ltI (by omega) (by omega)] at h1 h2
  rw [hi] at h1
  apply g24_0_77
  rw [e3]
  simp (disch := omega) only [Nat.reduceEqDiff, reduceIte, nI_mulI, nI_add, nI_clamp, nI_ltI, nI_leI, nI_eq, nI_e0, nI_n0, vt, forall_eq, true_and, and_true, true_implies, forall_const, not_true_eq_false, not_false_eq_true, false_implies, implies_true, e1, e2]
  refine ⟨fun q => absurd q (by omega), fun _ => ⟨fun c => ?_, h2⟩⟩
  rw [Nat.mul_comm t 16]
  exact h1 c
theorem c23n_77 {E : am_Ev} {I : Nat → Nat → Int32} {J : Nat → Nat → Int64} {S : Nat → Nat → Option Nat} {Q : am_Qt} (h : Q (.inl (some (.int (nI 0)))) E I J S) : am_cl 23 [.ref 77, .ref 12, .int (-1), .ref 28] E I J S Q := by
  show am_ww 23 0 [.ref 77, .ref 12, .int (-1), .ref 28, am_U, am_U] [] E I J S Q
  apply g23_0_77
  exact c24n_77 (q_mkI ⟨fun _ => h, fun q => absurd rfl q⟩)
theorem c23_77 {E : am_Ev} {I : Nat → Nat → Int32} {J : Nat → Nat → Int64} {S : Nat → Nat → Option Nat} {Q : am_Qt} {t : Nat} {r : Nat → Int32} (hp : p_in I) (hc : p_cl I) (hr : r_ok I r) (hm : rm I 77 r) (ht : t < (I 103 4).toNatClampNeg) (h : Q (.inl (some (.int (bI (m_can I (I 28) r t))))) E I J S) : am_cl 23 [.ref 77, .ref 12, .int (nI t), .ref 28] E I J S Q := by
  show am_ww 23 0 [.ref 77, .ref 12, .int (nI t), .ref 28, am_U, am_U] [] E I J S Q
  obtain ⟨p, n, ep, en, hpn, hn, hi, ht4, hok⟩ := r_at hp hr ht
  have ho := fun q => (p_at hp hc ht en hn (p := p) q).2
  apply g23_0_77
  unfold m_can at h
  refine c24_77 hp hc hr hm ht (fun c => q_mkI ?_) (fun c => q_mkI ?_)
  · rw [decide_eq_true c, Bool.true_and] at h
    rw [ep, en, nI_ltI (by omega) (by omega)] at c
    obtain ⟨o, h1, h2, h3, h4, h5, h6, h7, h8⟩ := ho c
    obtain ⟨o', h1', h2', q1, q2, q3, q4, q5, q6⟩ := hok c
    have e : o' = o := by rw [h2, nI_eq (by omega) (by omega)] at h2'; exact h2'.symm
    subst e
    rw [hi] at h ⊢
    rw [h2] at h
    simp (disch := omega) only [Nat.reduceEqDiff, reduceIte, nI_mulI, nI_add, nI_clamp, nI_ltI, nI_leI, nI_eq, nI_e0, nI_n0, vt, forall_eq, true_and, and_true, true_implies, forall_const, not_true_eq_false, not_false_eq_true, false_implies, implies_true, h3] at h ⊢
    refine ⟨fun q => absurd q (nI_nm (by omega)), fun _ => ⟨fun c => ?_, fun c => ⟨fun c => ?_, fun c => ?_⟩⟩⟩
    · have c' : o' = 7 := by omega
      subst c'
      have b := q2 (by omega) (by omega) (by omega)
      have b' := vb b
      simp (disch := omega) only [Nat.reduceEqDiff, reduceIte, nI_mulI, nI_add, nI_clamp, nI_ltI, nI_leI, nI_eq, nI_e0, nI_n0, vt, forall_eq, true_and, and_true, true_implies, forall_const, not_true_eq_false, not_false_eq_true, false_implies, implies_true, h4] at h ⊢
      rw [vc b]
      simp (disch := omega) only [Nat.reduceEqDiff, reduceIte, nI_mulI, nI_add, nI_clamp, nI_ltI, nI_leI, nI_eq, nI_e0, nI_n0, vt, forall_eq, true_and, and_true, true_implies, forall_const, not_true_eq_false, not_false_eq_true, false_implies, implies_true]
      rw [hm.2.2.2.2.1 _ b']
      refine ⟨fun c => ?_, fun c => ?_⟩
      · rw [decide_eq_true c] at h; exact h
      · rw [decide_eq_false c] at h; exact h
    · have c' : o' = 6 := by omega
      subst c'
      have b := q5 (by omega)
      have b' := vb b
      simp (disch := omega) only [Nat.reduceEqDiff, reduceIte, nI_mulI, nI_add, nI_clamp, nI_ltI, nI_leI, nI_eq, nI_e0, nI_n0, vt, forall_eq, true_and, and_true, true_implies, forall_const, not_true_eq_false, not_false_eq_true, false_implies, implies_true, h5] at h ⊢
      rw [vc b]
      simp (disch := omega) only [Nat.reduceEqDiff, reduceIte, nI_mulI, nI_add, nI_clamp, nI_ltI, nI_leI, nI_eq, nI_e0, nI_n0, vt, forall_eq, true_and, and_true, true_implies, forall_const, not_true_eq_false, not_false_eq_true, false_implies, implies_true]
      rw [hm.2.2.2.2.2.2 _ b']
      refine ⟨fun c => ?_, fun c => ?_⟩
      · rw [decide_eq_false (Int32.not_lt.mpr c)] at h; exact h
      · rw [decide_eq_true (Int32.not_le.mp c)] at h; exact h
    · rw [if_neg (by omega), if_neg (by omega)] at h
      exact h
  · rw [decide_eq_false c, Bool.false_and] at h
    exact ⟨fun _ => h, fun q => absurd rfl q⟩
theorem c34_77 {E : am_Ev} {I : Nat → Nat → Int32} {J : Nat → Nat → Int64} {S : Nat → Nat → Option Nat} {Q : am_Qt} {t : Nat} {r : Nat → Int32} (hp : p_in I) (hc : p_cl I) (hr : r_ok I r) (hm : rm I 77 r) (ht : t < (I 103 4).toNatClampNeg) (h44 : r 44 = nI t) (hs : r (16 + 6 * t + 4) < I 105 t) (h1 : I 106 (m_i r t) = nI 6 → Q (.inl (some (.int (I 108 (m_i r t))))) E I J S) (h2 : ¬ I 106 (m_i r t) = nI 6 → Q (.inl (some (.int (-1)))) E I J S) : am_cl 34 [.ref 77, .ref 12] E I J S Q := by
  show am_ww 34 0 [.ref 77, .ref 12, am_U] [] E I J S Q
  obtain ⟨p, n, ep, en, hpn, hn, hi, ht4, hok⟩ := r_at hp hr ht
  have e44 : I 77 6 = nI t := hm.2.2.2.2.2.1.trans h44
  apply g34_0_77
  rw [e44]
  refine c24_77 hp hc hr hm ht (fun c => q_mkI ?_) (fun c => absurd hs c)
  rw [ep, en, nI_ltI (by omega) (by omega)] at hs
  obtain ⟨o, g1, g2, g3, g4, g5, g6, g7, g8⟩ := (p_at hp hc ht en hn hs).2
  rw [hi] at h1 h2 ⊢
  rw [g2] at h1 h2
  simp (disch := omega) only [Nat.reduceEqDiff, reduceIte, nI_mulI, nI_add, nI_clamp, nI_ltI, nI_leI, nI_eq, nI_e0, nI_n0, vt, forall_eq, true_and, and_true, true_implies, forall_const, not_true_eq_false, not_false_eq_true, false_implies, implies_true, g3] at h1 h2 ⊢
  refine ⟨fun q => absurd q (nI_nm (by omega)), fun _ => ⟨fun c => ?_, fun c => h2 (by omega)⟩⟩
  rw [g5 (by omega)]
  exact h1 (by omega)
