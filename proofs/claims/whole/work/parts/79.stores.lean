/-! what steps touched: lastStore, firstRead's loop -/
/-- the cell that an instruction touches -/
def ct (I : Nat → Nat → Int32) (a : Nat) : Int32 := if I 106 a = nI 1 then I 108 a else if I 106 a = nI 2 then I 107 a else -1
theorem dn_row {I : Nat → Nat → Int32} {t : Nat} (hp : p_in I) (hc : p_cl I) (h : dn I t) : ∃ C p n, I 33 t = nI (16 * C + p) ∧ I 119 t = nI (16 * C + p) ∧ I 118 t = nI C ∧ C < 4 ∧ p < 16 ∧ p_ok I (16 * C + p) n ∧ p_op I (16 * C + p) ∧ rt I t 44 = nI C := by
  obtain ⟨C, p, q1, q2, q3, q4, q5, q6, q7⟩ := h
  obtain ⟨c4, p16⟩ := ins_lt hp q1 q2
  exact ⟨C, p, _, q5.trans q3, q3, q4, c4, p16, (hp.2 C q1).2 p q2, (hc.2.1 C q1).2 p q2, q6⟩
theorem c138 {E : am_Ev} {I : Nat → Nat → Int32} {J : Nat → Nat → Int64} {S : Nat → Nat → Option Nat} {Q : am_Qt} {a n : Nat} (ha : a < 64) (hok : p_ok I a n) (hop : p_op I a) (h : Q (.inl (some (.int (ct I a)))) E I J S) : am_cl 138 [.ref 12, .int (nI a)] E I J S Q := by
  show am_ww 138 0 [.ref 12, .int (nI a)] [] E I J S Q
  obtain ⟨o, h1, h2, h3, h4, h5, h6, h7, h8⟩ := hop
  unfold ct at h
  rw [h2] at h
  apply g138_0
  simp (disch := omega) only [Nat.reduceEqDiff, reduceIte, nI_mulI, nI_add, nI_clamp, nI_ltI, nI_leI, nI_eq, nI_e0, nI_n0, vt, forall_eq, true_and, and_true, true_implies, forall_const, not_true_eq_false, not_false_eq_true, false_implies, implies_true, h3] at h ⊢
  refine ⟨fun c => ?_, fun c => ⟨fun c' => ?_, fun c' => ?_⟩⟩
  · rw [if_pos c] at h
    rw [h5 (by omega)]
    exact h
  · rw [if_neg c, if_pos c'] at h
    rw [h4 (by omega) (by omega)]
    exact h
  · rw [if_neg c, if_neg c'] at h
    exact h
def srB (f : Nat → Bool) : Nat → Nat
  | 0 => 0
  | s + 1 => if f (s + 1) then s + 1 else srB f s
theorem srB_le (f : Nat → Bool) : ∀ s, srB f s ≤ s := by
  intro s
  induction s with
  | zero => exact Nat.le_refl _
  | succ s ih =>
    unfold srB
    split
    · exact Nat.le_refl _
    · omega
/-- a step stored into the cell -/
def isS (I : Nat → Nat → Int32) (x : Int32) (t : Nat) : Bool := decide (I 106 (I 119 t).toNatClampNeg = nI 2) && decide (I 107 (I 119 t).toNatClampNeg = x)
def isLd (I : Nat → Nat → Int32) (x : Int32) (t : Nat) : Bool := decide (I 106 (I 119 t).toNatClampNeg = nI 1) && decide (I 108 (I 119 t).toNatClampNeg = x)
theorem c137 {E : am_Ev} {I : Nat → Nat → Int32} {J : Nat → Nat → Int64} {S : Nat → Nat → Option Nat} {Q : am_Qt} {T cu ac n : Nat} {x : Int32} (hcr : CR I T cu ac n) (h0 : srB (isS I x) cu = 0 → Q (.inl (some (.int (-1)))) E I J S) (h1 : 0 < srB (isS I x) cu → Q (.inl (some (.int (nI (srB (isS I x) cu))))) E I J S) : am_cl 137 [.ref 0, .int x] E I J S Q := by
  show am_ww 137 0 [.ref 0, .int x, am_U, am_U] [] E I J S Q
  obtain ⟨hp, hc, h3, h4, h5, h6, h7, h8, h9, h10, h11, h12, h13, h14⟩ := hcr
  have hT := h4.1.1
  have hcu := h9.2.2
  have l : ∀ s (v : Value), am_isL v = false → s ≤ T → (srB (isS I x) s = 0 → Q (.inl (some (.int (-1)))) E I J S) → (0 < srB (isS I x) s → Q (.inl (some (.int (nI (srB (isS I x) s))))) E I J S) → am_ww 137 4 [.ref 0, .int x, .int (nI s), v] [] E I J S Q := by
    intro s
    induction s with
    | zero =>
      intro v hv _ k0 k1
      apply g137_4 hv
      exact ⟨fun _ => k0 rfl, fun q => absurd (by decide) q⟩
    | succ s ih =>
      intro v hv hs k0 k1
      obtain ⟨C, p, m, r1, r2, r3, r4, r5, r6, r7, r8⟩ := dn_row hp hc (h11 (s + 1) (by omega) hs)
      obtain ⟨o, g1, g2, g3, g4, g5, g6, g7, g8⟩ := id r7
      have ef : isS I x (s + 1) = (decide (o = 2) && decide (I 107 (16 * C + p) = x)) := by
        unfold isS
        rw [r2, nI_clamp (by omega), g2]
        simp (disch := omega) only [nI_eq]
      unfold srB at k0 k1
      rw [ef] at k0 k1
      apply g137_4 hv
      simp (disch := omega) only [Nat.reduceEqDiff, reduceIte, nI_mulI, nI_add, nI_clamp, nI_ltI, nI_leI, nI_eq, nI_e0, nI_n0, vt, forall_eq, true_and, and_true, true_implies, forall_const, not_true_eq_false, not_false_eq_true, false_implies, implies_true, r1, g3]
      have next : ¬ (decide (o = 2) && decide (I 107 (16 * C + p) = x)) = true → am_ww 137 4 [.ref 0, .int x, .int (nI (s + 1) - nI 1), .int (nI (16 * C + p))] [] E I J S Q := by
        intro c
        rw [if_neg c] at k0 k1
        rw [nI_subI (by omega)]
        exact ih _ rfl (by omega) k0 k1
      refine ⟨fun q => absurd q (by omega), fun _ => ⟨fun c => ?_, fun c => next ?_⟩⟩
      · have ect : ct I (16 * C + p) = I 107 (16 * C + p) := by
          unfold ct
          rw [g2, if_neg (by rw [nI_eq (by omega) (by omega)]; omega), if_pos (by rw [c])]
        refine c138 (by omega) r6 r7 (q_mkI ?_)
        rw [ect]
        refine ⟨fun c2 => ?_, fun c2 => next ?_⟩
        · rw [if_pos (by rw [decide_eq_true c, decide_eq_true c2]; rfl)] at k1
          exact k1 (by omega)
        · rw [decide_eq_false c2, Bool.and_false]
          exact Bool.false_ne_true
      · rw [decide_eq_false c, Bool.false_and]
        exact Bool.false_ne_true
  apply g137_0
  rw [h9.2.1]
  exact l cu _ rfl hcu h0 h1
theorem m259 {E : am_Ev} {I : Nat → Nat → Int32} {J : Nat → Nat → Int64} {S : Nat → Nat → Option Nat} {Q : am_Qt} {T cu ac n : Nat} {x : Int32} {J0 : Nat → Nat → Int32} (hcr : CR J0 T cu ac n) (hI : ce J0 I) (h0 : srB (isS J0 x) cu = 0 → Q (.inl (some (.int (-1)))) E I J S) (h1 : 0 < srB (isS J0 x) cu → Q (.inl (some (.int (nI (srB (isS J0 x) cu))))) E I J S) : am_cl 259 [.ref 99, .int x] E I J S Q := by
  show am_ww 259 0 [.ref 99, .int x, am_U] [] E I J S Q
  have hcr' := CR_e hI hcr
  have e1 : isS J0 x = isS I x := by
    funext t
    unfold isS
    rw [hI.1 106 (by omega), hI.1 107 (by omega), hI.1 119 (by omega)]
  rw [e1] at h0 h1
  obtain ⟨hp, hc, h3, h4, h5, h6, h7, h8, h9, h10, h11, h12, h13, h14⟩ := hcr'
  have hT := h4.1.1
  have hcu := h9.2.2
  have l : ∀ s, s ≤ T → (srB (isS I x) s = 0 → Q (.inl (some (.int (-1)))) E I J S) → (0 < srB (isS I x) s → Q (.inl (some (.int (nI (srB (isS I x) s))))) E I J S) → am_ww 259 3 [.ref 99, .int x, .int (nI s)] [] E I J S Q := by
    intro s
    induction s with
    | zero =>
      intro _ k0 k1
      apply g259_3
      refine ⟨fun _ => ?_, fun q => absurd (by decide) q⟩
      rw [if_pos nI_0]
      exact k0 rfl
    | succ s ih =>
      intro hs k0 k1
      obtain ⟨C, p, m, r1, r2, r3, r4, r5, r6, r7, r8⟩ := dn_row hp hc (h11 (s + 1) (by omega) hs)
      obtain ⟨o, g1, g2, g3, g4, g5, g6, g7, g8⟩ := id r7
      have ef : isS I x (s + 1) = (decide (o = 2) && decide (I 107 (16 * C + p) = x)) := by
        unfold isS
        rw [r2, nI_clamp (by omega), g2]
        simp (disch := omega) only [nI_eq]
      unfold srB at k0 k1
      rw [ef] at k0 k1
      apply g259_3
      simp (disch := omega) only [Nat.reduceEqDiff, reduceIte, nI_mulI, nI_add, nI_clamp, nI_ltI, nI_leI, nI_eq, nI_e0, nI_n0, vt, forall_eq, true_and, and_true, true_implies, forall_const, not_true_eq_false, not_false_eq_true, false_implies, implies_true, r2, g2]
      have next : ¬ (decide (o = 2) && decide (I 107 (16 * C + p) = x)) = true → am_ww 259 3 [.ref 99, .int x, .int (nI (s + 1) - nI 1)] [] E I J S Q := by
        intro c
        rw [if_neg c] at k0 k1
        rw [nI_subI (by omega)]
        exact ih (by omega) k0 k1
      refine ⟨fun q => absurd q (nI_nle (by omega) (by omega)), fun _ => ⟨fun c => ⟨fun c2 => ?_, fun c2 => next ?_⟩, fun c => next ?_⟩⟩
      · rw [if_pos (by rw [decide_eq_true c, decide_eq_true c2]; rfl)] at k1
        exact k1 (by omega)
      · rw [decide_eq_false c2, Bool.and_false]
        exact Bool.false_ne_true
      · rw [decide_eq_false c, Bool.false_and]
        exact Bool.false_ne_true
  apply g259_0
  rw [h9.1]
  exact l cu hcu h0 h1
