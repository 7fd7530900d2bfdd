/-! sums and counts -/
def sm3 (f : Nat → Int32) : Int32 := nI 0 + f 0 + f 1 + f 2
theorem c99_26 {E : am_Ev} {I : Nat → Nat → Int32} {J : Nat → Nat → Int64} {S : Nat → Nat → Option Nat} {Q : am_Qt} (h : Q (.inl (some (.int (sm3 (I 26))))) E I J S) : am_cl 99 [.ref 26] E I J S Q := by
  show am_ww 99 0 [.ref 26, am_U, am_U, am_U, am_U, am_U] [] E I J S Q
  apply g99_0_26
  apply g99_9_26 rfl rfl
  simp (disch := omega) only [Nat.reduceEqDiff, reduceIte, nI_mulI, nI_add, nI_clamp, nI_ltI, nI_leI, nI_eq, nI_e0, nI_n0, vt, forall_eq, true_and, and_true, true_implies, forall_const, not_true_eq_false, not_false_eq_true, false_implies, implies_true]
  refine ⟨fun q => absurd q (by omega), fun _ => ?_⟩
  apply g99_9_26 rfl rfl
  simp (disch := omega) only [Nat.reduceEqDiff, reduceIte, nI_mulI, nI_add, nI_clamp, nI_ltI, nI_leI, nI_eq, nI_e0, nI_n0, vt, forall_eq, true_and, and_true, true_implies, forall_const, not_true_eq_false, not_false_eq_true, false_implies, implies_true]
  refine ⟨fun q => absurd q (by omega), fun _ => ?_⟩
  apply g99_9_26 rfl rfl
  simp (disch := omega) only [Nat.reduceEqDiff, reduceIte, nI_mulI, nI_add, nI_clamp, nI_ltI, nI_leI, nI_eq, nI_e0, nI_n0, vt, forall_eq, true_and, and_true, true_implies, forall_const, not_true_eq_false, not_false_eq_true, false_implies, implies_true]
  refine ⟨fun q => absurd q (by omega), fun _ => ?_⟩
  apply g99_9_26 rfl rfl
  exact ⟨fun _ => h, fun q => absurd (Int32.le_refl _) q⟩
theorem c99_28 {E : am_Ev} {I : Nat → Nat → Int32} {J : Nat → Nat → Int64} {S : Nat → Nat → Option Nat} {Q : am_Qt} (h : Q (.inl (some (.int (sm3 (I 28))))) E I J S) : am_cl 99 [.ref 28] E I J S Q := by
  show am_ww 99 0 [.ref 28, am_U, am_U, am_U, am_U, am_U] [] E I J S Q
  apply g99_0_28
  apply g99_9_28 rfl rfl
  simp (disch := omega) only [Nat.reduceEqDiff, reduceIte, nI_mulI, nI_add, nI_clamp, nI_ltI, nI_leI, nI_eq, nI_e0, nI_n0, vt, forall_eq, true_and, and_true, true_implies, forall_const, not_true_eq_false, not_false_eq_true, false_implies, implies_true]
  refine ⟨fun q => absurd q (by omega), fun _ => ?_⟩
  apply g99_9_28 rfl rfl
  simp (disch := omega) only [Nat.reduceEqDiff, reduceIte, nI_mulI, nI_add, nI_clamp, nI_ltI, nI_leI, nI_eq, nI_e0, nI_n0, vt, forall_eq, true_and, and_true, true_implies, forall_const, not_true_eq_false, not_false_eq_true, false_implies, implies_true]
  refine ⟨fun q => absurd q (by omega), fun _ => ?_⟩
  apply g99_9_28 rfl rfl
  simp (disch := omega) only [Nat.reduceEqDiff, reduceIte, nI_mulI, nI_add, nI_clamp, nI_ltI, nI_leI, nI_eq, nI_e0, nI_n0, vt, forall_eq, true_and, and_true, true_implies, forall_const, not_true_eq_false, not_false_eq_true, false_implies, implies_true]
  refine ⟨fun q => absurd q (by omega), fun _ => ?_⟩
  apply g99_9_28 rfl rfl
  exact ⟨fun _ => h, fun q => absurd (Int32.le_refl _) q⟩
theorem m218 {E : am_Ev} {I : Nat → Nat → Int32} {J : Nat → Nat → Int64} {S : Nat → Nat → Option Nat} {Q : am_Qt} (h : Q (.inl (some (.int (sm3 (fun z => I 116 (48 + z)))))) E I J S) : am_cl 218 [.ref 99] E I J S Q := by
  show am_ww 218 0 [.ref 99, am_U, am_U] [] E I J S Q
  apply g218_0
  apply g218_4
  simp (disch := omega) only [Nat.reduceEqDiff, reduceIte, nI_mulI, nI_add, nI_clamp, nI_ltI, nI_leI, nI_eq, nI_e0, nI_n0, vt, forall_eq, true_and, and_true, true_implies, forall_const, not_true_eq_false, not_false_eq_true, false_implies, implies_true]
  refine ⟨fun q => absurd q (by omega), fun _ => ?_⟩
  apply g218_4
  simp (disch := omega) only [Nat.reduceEqDiff, reduceIte, nI_mulI, nI_add, nI_clamp, nI_ltI, nI_leI, nI_eq, nI_e0, nI_n0, vt, forall_eq, true_and, and_true, true_implies, forall_const, not_true_eq_false, not_false_eq_true, false_implies, implies_true]
  refine ⟨fun q => absurd q (by omega), fun _ => ?_⟩
  apply g218_4
  simp (disch := omega) only [Nat.reduceEqDiff, reduceIte, nI_mulI, nI_add, nI_clamp, nI_ltI, nI_leI, nI_eq, nI_e0, nI_n0, vt, forall_eq, true_and, and_true, true_implies, forall_const, not_true_eq_false, not_false_eq_true, false_implies, implies_true]
  refine ⟨fun q => absurd q (by omega), fun _ => ?_⟩
  apply g218_4
  exact ⟨fun _ => h, fun q => absurd (Int32.le_refl _) q⟩
/-- a thread has ended -/
def ended (P : Nat → Nat → Int32) (r : Nat → Int32) (t : Nat) : Bool := !decide (r (16 + 6 * t + 4) < P 105 t)
theorem m224 {E : am_Ev} {I : Nat → Nat → Int32} {J : Nat → Nat → Int64} {S : Nat → Nat → Option Nat} {Q : am_Qt} (hp : p_in I) (h : Q (.inl (some (.int (nI (m_cnt (ended I (I 116)) (I 103 4).toNatClampNeg 0))))) E I J S) : am_cl 224 [.ref 99] E I J S Q := by
  show am_ww 224 0 [.ref 99, am_U, am_U] [] E I J S Q
  have hm := vb hp.1
  have l : ∀ n t c, t + n = (I 103 4).toNatClampNeg → c ≤ t → Q (.inl (some (.int (nI (c + m_cnt (ended I (I 116)) n t))))) E I J S → am_ww 224 4 [.ref 99, .int (nI c), .int (nI t)] [] E I J S Q := by
    intro n
    induction n with
    | zero =>
      intro t c e hc h
      apply g224_4
      rw [vc hp.1]
      simp (disch := omega) only [Nat.reduceEqDiff, reduceIte, nI_mulI, nI_add, nI_clamp, nI_ltI, nI_leI, nI_eq, nI_e0, nI_n0, vt, forall_eq, true_and, and_true, true_implies, forall_const, not_true_eq_false, not_false_eq_true, false_implies, implies_true]
      exact ⟨fun _ => h, fun q => absurd (by omega) q⟩
    | succ n ih =>
      intro t c e hc h
      apply g224_4
      rw [vc hp.1]
      simp (disch := omega) only [Nat.reduceEqDiff, reduceIte, nI_mulI, nI_add, nI_clamp, nI_ltI, nI_leI, nI_eq, nI_e0, nI_n0, vt, forall_eq, true_and, and_true, true_implies, forall_const, not_true_eq_false, not_false_eq_true, false_implies, implies_true]
      unfold m_cnt at h
      refine ⟨fun q => absurd q (by omega), fun _ => ⟨fun z => ?_, fun z => ?_⟩⟩
      · have : ended I (I 116) t = false := by unfold ended; rw [decide_eq_true z]; rfl
        rw [this, if_neg Bool.false_ne_true, Nat.zero_add] at h
        exact ih (t + 1) c (by omega) (by omega) h
      · have : ended I (I 116) t = true := by unfold ended; rw [decide_eq_false z]; rfl
        rw [this, if_pos rfl, ← Nat.add_assoc] at h
        exact ih (t + 1) (c + 1) (by omega) (by omega) h
  apply g224_0
  exact l _ 0 0 (Nat.zero_add _) (by omega) (by rw [Nat.zero_add]; exact h)
theorem c100_20 {E : am_Ev} {I : Nat → Nat → Int32} {J : Nat → Nat → Int64} {S : Nat → Nat → Option Nat} {Q : am_Qt} {r : Nat → Int32} (hp : p_in I) (hc : p_cl I) (hm : rm I 20 r) (h : Q (.inl (some (.int (nI (m_cnt (ended I r) (I 103 4).toNatClampNeg 0))))) E I J S) : am_cl 100 [.ref 20, .ref 12] E I J S Q := by
  show am_ww 100 0 [.ref 20, .ref 12, am_U, am_U] [] E I J S Q
  have hmm := vb hp.1
  have e3 : I 12 5 = nI (I 103 4).toNatClampNeg := hc.1.trans (vc hp.1)
  have l : ∀ n t c, t + n = (I 103 4).toNatClampNeg → c ≤ t → Q (.inl (some (.int (nI (c + m_cnt (ended I r) n t))))) E I J S → am_ww 100 4 [.ref 20, .ref 12, .int (nI c), .int (nI t)] [] E I J S Q := by
    intro n
    induction n with
    | zero =>
      intro t c e hc' h
      apply g100_4_20
      rw [e3]
      simp (disch := omega) only [Nat.reduceEqDiff, reduceIte, nI_mulI, nI_add, nI_clamp, nI_ltI, nI_leI, nI_eq, nI_e0, nI_n0, vt, forall_eq, true_and, and_true, true_implies, forall_const, not_true_eq_false, not_false_eq_true, false_implies, implies_true]
      exact ⟨fun _ => h, fun q => absurd (by omega) q⟩
    | succ n ih =>
      intro t c e hc' h
      apply g100_4_20
      have e1 : I 23 t = r (16 + 6 * t + 4) := hm.2.2.1 t (by omega)
      have e2 : I 15 t = I 105 t := (hc.2.1 t (by omega)).1
      rw [e3]
      simp (disch := omega) only [Nat.reduceEqDiff, reduceIte, nI_mulI, nI_add, nI_clamp, nI_ltI, nI_leI, nI_eq, nI_e0, nI_n0, vt, forall_eq, true_and, and_true, true_implies, forall_const, not_true_eq_false, not_false_eq_true, false_implies, implies_true, e1, e2]
      unfold m_cnt at h
      refine ⟨fun q => absurd q (by omega), fun _ => ⟨fun z => ?_, fun z => ?_⟩⟩
      · have : ended I r t = false := by unfold ended; rw [decide_eq_true z]; rfl
        rw [this, if_neg Bool.false_ne_true, Nat.zero_add] at h
        exact ih (t + 1) c (by omega) (by omega) h
      · have : ended I r t = true := by unfold ended; rw [decide_eq_false z]; rfl
        rw [this, if_pos rfl, ← Nat.add_assoc] at h
        exact ih (t + 1) (c + 1) (by omega) (by omega) h
  apply g100_0_20
  exact l _ 0 0 (Nat.zero_add _) (by omega) (by rw [Nat.zero_add]; exact h)
