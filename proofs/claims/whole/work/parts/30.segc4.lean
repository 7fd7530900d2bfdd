/-! rows of methods, by program -/
-- 172 sameNumbers
theorem g172_0_64 {p3 : Int32} {E : am_Ev} {I : Nat → Nat → Int32} {J : Nat → Nat → Int64} {S : Nat → Nat → Option Nat} {Q : am_Qt}  (h : ∀ w1 : Int32, w1 = (if (nI 4) < p3 then (nI 4) else p3) → (am_ww 172 10 [.ref 64, .ref 72, .int p3, .int w1, .int (nI 0)] [] E I J S Q)) : am_ww 172 0 [.ref 64, .ref 72, .int p3, am_U, am_U] [] E I J S Q := by
  refine w_st (i' := 1) (ls' := [.ref 64, .ref 72, .int p3, am_U, am_U]) (st' := [.int p3]) (E' := E) (I' := I) (J' := J) (S' := S) am_e172 rfl rfl rfl rfl ?_
  refine w_st (i' := 2) (ls' := [.ref 64, .ref 72, .int p3, am_U, am_U]) (st' := [.ref 64, .int p3]) (E' := E) (I' := I) (J' := J) (S' := S) am_e172 rfl rfl rfl rfl ?_
  refine w_st (i' := 3) (ls' := [.ref 64, .ref 72, .int p3, am_U, am_U]) (st' := [.int (nI 4), .int p3]) (E' := E) (I' := I) (J' := J) (S' := S) am_e172 rfl rfl rfl rfl ?_
  refine w_st (i' := 4) (ls' := [.ref 64, .ref 72, .int p3, am_U, am_U]) (st' := [.ref 72, .int (nI 4), .int p3]) (E' := E) (I' := I) (J' := J) (S' := S) am_e172 rfl rfl rfl rfl ?_
  refine w_st (i' := 5) (ls' := [.ref 64, .ref 72, .int p3, am_U, am_U]) (st' := [.int (nI 4), .int (nI 4), .int p3]) (E' := E) (I' := I) (J' := J) (S' := S) am_e172 rfl rfl rfl rfl ?_
  refine w_st (i' := 6) (ls' := [.ref 64, .ref 72, .int p3, am_U, am_U]) (st' := [.int (nI 4), .int p3]) (E' := E) (I' := I) (J' := J) (S' := S) am_e172 rfl rfl rfl rfl ?_
  refine w_st (i' := 7) (ls' := [.ref 64, .ref 72, .int p3, am_U, am_U]) (st' := [.int (if (nI 4) < p3 then (nI 4) else p3)]) (E' := E) (I' := I) (J' := J) (S' := S) am_e172 rfl rfl rfl rfl ?_
  refine w_st (i' := 8) (ls' := [.ref 64, .ref 72, .int p3, .int (if (nI 4) < p3 then (nI 4) else p3), am_U]) (st' := []) (E' := E) (I' := I) (J' := J) (S' := S) am_e172 rfl rfl rfl rfl ?_
  refine w_var (fun w1 => am_ww 172 8 [.ref 64, .ref 72, .int p3, .int w1, am_U] [] E I J S _) (if (nI 4) < p3 then (nI 4) else p3) (fun w1 hw1 => ?_)
  replace h := h w1 hw1
  refine w_st (i' := 9) (ls' := [.ref 64, .ref 72, .int p3, .int w1, am_U]) (st' := [.int (nI 0)]) (E' := E) (I' := I) (J' := J) (S' := S) am_e172 rfl rfl rfl rfl ?_
  refine w_st (i' := 10) (ls' := [.ref 64, .ref 72, .int p3, .int w1, .int (nI 0)]) (st' := []) (E' := E) (I' := I) (J' := J) (S' := S) am_e172 rfl rfl rfl rfl ?_
  exact h
theorem g172_10_64 {d2 : Value} {x3 : Int32} {x4 : Int32} {E : am_Ev} {I : Nat → Nat → Int32} {J : Nat → Nat → Int64} {S : Nat → Nat → Option Nat} {Q : am_Qt} (hd2 : am_isL d2 = false) (h : (x3 ≤ x4 → (Q (.inl (some (.int (nI 1)))) E I J S)) ∧ (¬ x3 ≤ x4 → (vp_in x4 4 ∧ ((((I 64) x4.toNatClampNeg) = ((I 72) x4.toNatClampNeg) → (am_ww 172 10 [.ref 64, .ref 72, d2, .int x3, .int (x4 + nI 1)] [] E I J S Q)) ∧ (¬ ((I 64) x4.toNatClampNeg) = ((I 72) x4.toNatClampNeg) → (Q (.inl (some (.int (nI 0)))) E I J S)))))) : am_ww 172 10 [.ref 64, .ref 72, d2, .int x3, .int x4] [] E I J S Q := by
  refine w_st (i' := 11) (ls' := [.ref 64, .ref 72, d2, .int x3, .int x4]) (st' := [.int x4]) (E' := E) (I' := I) (J' := J) (S' := S) am_e172 rfl rfl rfl rfl ?_
  refine w_st (i' := 12) (ls' := [.ref 64, .ref 72, d2, .int x3, .int x4]) (st' := [.int x3, .int x4]) (E' := E) (I' := I) (J' := J) (S' := S) am_e172 rfl rfl rfl rfl ?_
  refine w_if2 am_e172 rfl rfl (fun c => ?_) (fun c => ?_)
  · replace h := h.1 (of_decide_eq_true c)
    refine w_st (i' := 25) (ls' := [.ref 64, .ref 72, d2, .int x3, .int x4]) (st' := [.int (nI 1)]) (E' := E) (I' := I) (J' := J) (S' := S) am_e172 rfl rfl rfl rfl ?_
    exact w_end am_e172 rfl rfl rfl h
  · replace h := h.2 (of_decide_eq_false c)
    refine w_st (i' := 14) (ls' := [.ref 64, .ref 72, d2, .int x3, .int x4]) (st' := [.ref 64]) (E' := E) (I' := I) (J' := J) (S' := S) am_e172 rfl rfl rfl rfl ?_
    refine w_st (i' := 15) (ls' := [.ref 64, .ref 72, d2, .int x3, .int x4]) (st' := [.int x4, .ref 64]) (E' := E) (I' := I) (J' := J) (S' := S) am_e172 rfl rfl rfl rfl ?_
    have hf1 := h.1
    replace h := h.2
    refine w_ia (k := 64) (n := 4) (jn := x4.toNatClampNeg) am_e172 rfl rfl (by decide) hf1 rfl ?_
    refine w_st (i' := 17) (ls' := [.ref 64, .ref 72, d2, .int x3, .int x4]) (st' := [.ref 72, .int ((I 64) x4.toNatClampNeg)]) (E' := E) (I' := I) (J' := J) (S' := S) am_e172 rfl rfl rfl rfl ?_
    refine w_st (i' := 18) (ls' := [.ref 64, .ref 72, d2, .int x3, .int x4]) (st' := [.int x4, .ref 72, .int ((I 64) x4.toNatClampNeg)]) (E' := E) (I' := I) (J' := J) (S' := S) am_e172 rfl rfl rfl rfl ?_
    refine w_ia (k := 72) (n := 4) (jn := x4.toNatClampNeg) am_e172 rfl rfl (by decide) hf1 rfl ?_
    refine w_if2 am_e172 rfl rfl (fun c => ?_) (fun c => ?_)
    · replace h := h.1 (of_decide_eq_true c)
      refine w_st (i' := 23) (ls' := [.ref 64, .ref 72, d2, .int x3, .int (x4 + nI 1)]) (st' := []) (E' := E) (I' := I) (J' := J) (S' := S) am_e172 rfl rfl rfl rfl ?_
      refine w_st (i' := 10) (ls' := [.ref 64, .ref 72, d2, .int x3, .int (x4 + nI 1)]) (st' := []) (E' := E) (I' := I) (J' := J) (S' := S) am_e172 rfl rfl rfl rfl ?_
      exact h
    · replace h := h.2 (of_decide_eq_false c)
      refine w_st (i' := 21) (ls' := [.ref 64, .ref 72, d2, .int x3, .int x4]) (st' := [.int (nI 0)]) (E' := E) (I' := I) (J' := J) (S' := S) am_e172 rfl rfl rfl rfl ?_
      exact w_end am_e172 rfl rfl rfl h
-- 172 sameNumbers
theorem g172_0_65 {p3 : Int32} {E : am_Ev} {I : Nat → Nat → Int32} {J : Nat → Nat → Int64} {S : Nat → Nat → Option Nat} {Q : am_Qt}  (h : ∀ w1 : Int32, w1 = (if (nI 4) < p3 then (nI 4) else p3) → (am_ww 172 10 [.ref 65, .ref 73, .int p3, .int w1, .int (nI 0)] [] E I J S Q)) : am_ww 172 0 [.ref 65, .ref 73, .int p3, am_U, am_U] [] E I J S Q := by
  refine w_st (i' := 1) (ls' := [.ref 65, .ref 73, .int p3, am_U, am_U]) (st' := [.int p3]) (E' := E) (I' := I) (J' := J) (S' := S) am_e172 rfl rfl rfl rfl ?_
  refine w_st (i' := 2) (ls' := [.ref 65, .ref 73, .int p3, am_U, am_U]) (st' := [.ref 65, .int p3]) (E' := E) (I' := I) (J' := J) (S' := S) am_e172 rfl rfl rfl rfl ?_
  refine w_st (i' := 3) (ls' := [.ref 65, .ref 73, .int p3, am_U, am_U]) (st' := [.int (nI 4), .int p3]) (E' := E) (I' := I) (J' := J) (S' := S) am_e172 rfl rfl rfl rfl ?_
  refine w_st (i' := 4) (ls' := [.ref 65, .ref 73, .int p3, am_U, am_U]) (st' := [.ref 73, .int (nI 4), .int p3]) (E' := E) (I' := I) (J' := J) (S' := S) am_e172 rfl rfl rfl rfl ?_
  refine w_st (i' := 5) (ls' := [.ref 65, .ref 73, .int p3, am_U, am_U]) (st' := [.int (nI 4), .int (nI 4), .int p3]) (E' := E) (I' := I) (J' := J) (S' := S) am_e172 rfl rfl rfl rfl ?_
  refine w_st (i' := 6) (ls' := [.ref 65, .ref 73, .int p3, am_U, am_U]) (st' := [.int (nI 4), .int p3]) (E' := E) (I' := I) (J' := J) (S' := S) am_e172 rfl rfl rfl rfl ?_
  refine w_st (i' := 7) (ls' := [.ref 65, .ref 73, .int p3, am_U, am_U]) (st' := [.int (if (nI 4) < p3 then (nI 4) else p3)]) (E' := E) (I' := I) (J' := J) (S' := S) am_e172 rfl rfl rfl rfl ?_
  refine w_st (i' := 8) (ls' := [.ref 65, .ref 73, .int p3, .int (if (nI 4) < p3 then (nI 4) else p3), am_U]) (st' := []) (E' := E) (I' := I) (J' := J) (S' := S) am_e172 rfl rfl rfl rfl ?_
  refine w_var (fun w1 => am_ww 172 8 [.ref 65, .ref 73, .int p3, .int w1, am_U] [] E I J S _) (if (nI 4) < p3 then (nI 4) else p3) (fun w1 hw1 => ?_)
  replace h := h w1 hw1
  refine w_st (i' := 9) (ls' := [.ref 65, .ref 73, .int p3, .int w1, am_U]) (st' := [.int (nI 0)]) (E' := E) (I' := I) (J' := J) (S' := S) am_e172 rfl rfl rfl rfl ?_
  refine w_st (i' := 10) (ls' := [.ref 65, .ref 73, .int p3, .int w1, .int (nI 0)]) (st' := []) (E' := E) (I' := I) (J' := J) (S' := S) am_e172 rfl rfl rfl rfl ?_
  exact h
theorem g172_10_65 {d2 : Value} {x3 : Int32} {x4 : Int32} {E : am_Ev} {I : Nat → Nat → Int32} {J : Nat → Nat → Int64} {S : Nat → Nat → Option Nat} {Q : am_Qt} (hd2 : am_isL d2 = false) (h : (x3 ≤ x4 → (Q (.inl (some (.int (nI 1)))) E I J S)) ∧ (¬ x3 ≤ x4 → (vp_in x4 4 ∧ ((((I 65) x4.toNatClampNeg) = ((I 73) x4.toNatClampNeg) → (am_ww 172 10 [.ref 65, .ref 73, d2, .int x3, .int (x4 + nI 1)] [] E I J S Q)) ∧ (¬ ((I 65) x4.toNatClampNeg) = ((I 73) x4.toNatClampNeg) → (Q (.inl (some (.int (nI 0)))) E I J S)))))) : am_ww 172 10 [.ref 65, .ref 73, d2, .int x3, .int x4] [] E I J S Q := by
  refine w_st (i' := 11) (ls' := [.ref 65, .ref 73, d2, .int x3, .int x4]) (st' := [.int x4]) (E' := E) (I' := I) (J' := J) (S' := S) am_e172 rfl rfl rfl rfl ?_
  refine w_st (i' := 12) (ls' := [.ref 65, .ref 73, d2, .int x3, .int x4]) (st' := [.int x3, .int x4]) (E' := E) (I' := I) (J' := J) (S' := S) am_e172 rfl rfl rfl rfl ?_
  refine w_if2 am_e172 rfl rfl (fun c => ?_) (fun c => ?_)
  · replace h := h.1 (of_decide_eq_true c)
    refine w_st (i' := 25) (ls' := [.ref 65, .ref 73, d2, .int x3, .int x4]) (st' := [.int (nI 1)]) (E' := E) (I' := I) (J' := J) (S' := S) am_e172 rfl rfl rfl rfl ?_
    exact w_end am_e172 rfl rfl rfl h
  · replace h := h.2 (of_decide_eq_false c)
    refine w_st (i' := 14) (ls' := [.ref 65, .ref 73, d2, .int x3, .int x4]) (st' := [.ref 65]) (E' := E) (I' := I) (J' := J) (S' := S) am_e172 rfl rfl rfl rfl ?_
    refine w_st (i' := 15) (ls' := [.ref 65, .ref 73, d2, .int x3, .int x4]) (st' := [.int x4, .ref 65]) (E' := E) (I' := I) (J' := J) (S' := S) am_e172 rfl rfl rfl rfl ?_
    have hf1 := h.1
    replace h := h.2
    refine w_ia (k := 65) (n := 4) (jn := x4.toNatClampNeg) am_e172 rfl rfl (by decide) hf1 rfl ?_
    refine w_st (i' := 17) (ls' := [.ref 65, .ref 73, d2, .int x3, .int x4]) (st' := [.ref 73, .int ((I 65) x4.toNatClampNeg)]) (E' := E) (I' := I) (J' := J) (S' := S) am_e172 rfl rfl rfl rfl ?_
    refine w_st (i' := 18) (ls' := [.ref 65, .ref 73, d2, .int x3, .int x4]) (st' := [.int x4, .ref 73, .int ((I 65) x4.toNatClampNeg)]) (E' := E) (I' := I) (J' := J) (S' := S) am_e172 rfl rfl rfl rfl ?_
    refine w_ia (k := 73) (n := 4) (jn := x4.toNatClampNeg) am_e172 rfl rfl (by decide) hf1 rfl ?_
    refine w_if2 am_e172 rfl rfl (fun c => ?_) (fun c => ?_)
    · replace h := h.1 (of_decide_eq_true c)
      refine w_st (i' := 23) (ls' := [.ref 65, .ref 73, d2, .int x3, .int (x4 + nI 1)]) (st' := []) (E' := E) (I' := I) (J' := J) (S' := S) am_e172 rfl rfl rfl rfl ?_
      refine w_st (i' := 10) (ls' := [.ref 65, .ref 73, d2, .int x3, .int (x4 + nI 1)]) (st' := []) (E' := E) (I' := I) (J' := J) (S' := S) am_e172 rfl rfl rfl rfl ?_
      exact h
    · replace h := h.2 (of_decide_eq_false c)
      refine w_st (i' := 21) (ls' := [.ref 65, .ref 73, d2, .int x3, .int x4]) (st' := [.int (nI 0)]) (E' := E) (I' := I) (J' := J) (S' := S) am_e172 rfl rfl rfl rfl ?_
      exact w_end am_e172 rfl rfl rfl h
-- 172 sameNumbers
theorem g172_0_63 {p3 : Int32} {E : am_Ev} {I : Nat → Nat → Int32} {J : Nat → Nat → Int64} {S : Nat → Nat → Option Nat} {Q : am_Qt}  (h : ∀ w1 : Int32, w1 = (if (nI 16) < p3 then (nI 16) else p3) → (am_ww 172 10 [.ref 63, .ref 71, .int p3, .int w1, .int (nI 0)] [] E I J S Q)) : am_ww 172 0 [.ref 63, .ref 71, .int p3, am_U, am_U] [] E I J S Q := by
  refine w_st (i' := 1) (ls' := [.ref 63, .ref 71, .int p3, am_U, am_U]) (st' := [.int p3]) (E' := E) (I' := I) (J' := J) (S' := S) am_e172 rfl rfl rfl rfl ?_
  refine w_st (i' := 2) (ls' := [.ref 63, .ref 71, .int p3, am_U, am_U]) (st' := [.ref 63, .int p3]) (E' := E) (I' := I) (J' := J) (S' := S) am_e172 rfl rfl rfl rfl ?_
  refine w_st (i' := 3) (ls' := [.ref 63, .ref 71, .int p3, am_U, am_U]) (st' := [.int (nI 16), .int p3]) (E' := E) (I' := I) (J' := J) (S' := S) am_e172 rfl rfl rfl rfl ?_
  refine w_st (i' := 4) (ls' := [.ref 63, .ref 71, .int p3, am_U, am_U]) (st' := [.ref 71, .int (nI 16), .int p3]) (E' := E) (I' := I) (J' := J) (S' := S) am_e172 rfl rfl rfl rfl ?_
  refine w_st (i' := 5) (ls' := [.ref 63, .ref 71, .int p3, am_U, am_U]) (st' := [.int (nI 16), .int (nI 16), .int p3]) (E' := E) (I' := I) (J' := J) (S' := S) am_e172 rfl rfl rfl rfl ?_
  refine w_st (i' := 6) (ls' := [.ref 63, .ref 71, .int p3, am_U, am_U]) (st' := [.int (nI 16), .int p3]) (E' := E) (I' := I) (J' := J) (S' := S) am_e172 rfl rfl rfl rfl ?_
  refine w_st (i' := 7) (ls' := [.ref 63, .ref 71, .int p3, am_U, am_U]) (st' := [.int (if (nI 16) < p3 then (nI 16) else p3)]) (E' := E) (I' := I) (J' := J) (S' := S) am_e172 rfl rfl rfl rfl ?_
  refine w_st (i' := 8) (ls' := [.ref 63, .ref 71, .int p3, .int (if (nI 16) < p3 then (nI 16) else p3), am_U]) (st' := []) (E' := E) (I' := I) (J' := J) (S' := S) am_e172 rfl rfl rfl rfl ?_
  refine w_var (fun w1 => am_ww 172 8 [.ref 63, .ref 71, .int p3, .int w1, am_U] [] E I J S _) (if (nI 16) < p3 then (nI 16) else p3) (fun w1 hw1 => ?_)
  replace h := h w1 hw1
  refine w_st (i' := 9) (ls' := [.ref 63, .ref 71, .int p3, .int w1, am_U]) (st' := [.int (nI 0)]) (E' := E) (I' := I) (J' := J) (S' := S) am_e172 rfl rfl rfl rfl ?_
  refine w_st (i' := 10) (ls' := [.ref 63, .ref 71, .int p3, .int w1, .int (nI 0)]) (st' := []) (E' := E) (I' := I) (J' := J) (S' := S) am_e172 rfl rfl rfl rfl ?_
  exact h
theorem g172_10_63 {d2 : Value} {x3 : Int32} {x4 : Int32} {E : am_Ev} {I : Nat → Nat → Int32} {J : Nat → Nat → Int64} {S : Nat → Nat → Option Nat} {Q : am_Qt} (hd2 : am_isL d2 = false) (h : (x3 ≤ x4 → (Q (.inl (some (.int (nI 1)))) E I J S)) ∧ (¬ x3 ≤ x4 → (vp_in x4 16 ∧ ((((I 63) x4.toNatClampNeg) = ((I 71) x4.toNatClampNeg) → (am_ww 172 10 [.ref 63, .ref 71, d2, .int x3, .int (x4 + nI 1)] [] E I J S Q)) ∧ (¬ ((I 63) x4.toNatClampNeg) = ((I 71) x4.toNatClampNeg) → (Q (.inl (some (.int (nI 0)))) E I J S)))))) : am_ww 172 10 [.ref 63, .ref 71, d2, .int x3, .int x4] [] E I J S Q := by
  refine w_st (i' := 11) (ls' := [.ref 63, .ref 71, d2, .int x3, .int x4]) (st' := [.int x4]) (E' := E) (I' := I) (J' := J) (S' := S) am_e172 rfl rfl rfl rfl ?_
  refine w_st (i' := 12) (ls' := [.ref 63, .ref 71, d2, .int x3, .int x4]) (st' := [.int x3, .int x4]) (E' := E) (I' := I) (J' := J) (S' := S) am_e172 rfl rfl rfl rfl ?_
  refine w_if2 am_e172 rfl rfl (fun c => ?_) (fun c => ?_)
  · replace h := h.1 (of_decide_eq_true c)
    refine w_st (i' := 25) (ls' := [.ref 63, .ref 71, d2, .int x3, .int x4]) (st' := [.int (nI 1)]) (E' := E) (I' := I) (J' := J) (S' := S) am_e172 rfl rfl rfl rfl ?_
    exact w_end am_e172 rfl rfl rfl h
  · replace h := h.2 (of_decide_eq_false c)
    refine w_st (i' := 14) (ls' := [.ref 63, .ref 71, d2, .int x3, .int x4]) (st' := [.ref 63]) (E' := E) (I' := I) (J' := J) (S' := S) am_e172 rfl rfl rfl rfl ?_
    refine w_st (i' := 15) (ls' := [.ref 63, .ref 71, d2, .int x3, .int x4]) (st' := [.int x4, .ref 63]) (E' := E) (I' := I) (J' := J) (S' := S) am_e172 rfl rfl rfl rfl ?_
    have hf1 := h.1
    replace h := h.2
    refine w_ia (k := 63) (n := 16) (jn := x4.toNatClampNeg) am_e172 rfl rfl (by decide) hf1 rfl ?_
    refine w_st (i' := 17) (ls' := [.ref 63, .ref 71, d2, .int x3, .int x4]) (st' := [.ref 71, .int ((I 63) x4.toNatClampNeg)]) (E' := E) (I' := I) (J' := J) (S' := S) am_e172 rfl rfl rfl rfl ?_
    refine w_st (i' := 18) (ls' := [.ref 63, .ref 71, d2, .int x3, .int x4]) (st' := [.int x4, .ref 71, .int ((I 63) x4.toNatClampNeg)]) (E' := E) (I' := I) (J' := J) (S' := S) am_e172 rfl rfl rfl rfl ?_
    refine w_ia (k := 71) (n := 16) (jn := x4.toNatClampNeg) am_e172 rfl rfl (by decide) hf1 rfl ?_
    refine w_if2 am_e172 rfl rfl (fun c => ?_) (fun c => ?_)
    · replace h := h.1 (of_decide_eq_true c)
      refine w_st (i' := 23) (ls' := [.ref 63, .ref 71, d2, .int x3, .int (x4 + nI 1)]) (st' := []) (E' := E) (I' := I) (J' := J) (S' := S) am_e172 rfl rfl rfl rfl ?_
      refine w_st (i' := 10) (ls' := [.ref 63, .ref 71, d2, .int x3, .int (x4 + nI 1)]) (st' := []) (E' := E) (I' := I) (J' := J) (S' := S) am_e172 rfl rfl rfl rfl ?_
      exact h
    · replace h := h.2 (of_decide_eq_false c)
      refine w_st (i' := 21) (ls' := [.ref 63, .ref 71, d2, .int x3, .int x4]) (st' := [.int (nI 0)]) (E' := E) (I' := I) (J' := J) (S' := S) am_e172 rfl rfl rfl rfl ?_
      exact w_end am_e172 rfl rfl rfl h
-- 172 sameNumbers
theorem g172_0_66 {p3 : Int32} {E : am_Ev} {I : Nat → Nat → Int32} {J : Nat → Nat → Int64} {S : Nat → Nat → Option Nat} {Q : am_Qt}  (h : ∀ w1 : Int32, w1 = (if (nI 4) < p3 then (nI 4) else p3) → (am_ww 172 10 [.ref 66, .ref 74, .int p3, .int w1, .int (nI 0)] [] E I J S Q)) : am_ww 172 0 [.ref 66, .ref 74, .int p3, am_U, am_U] [] E I J S Q := by
  refine w_st (i' := 1) (ls' := [.ref 66, .ref 74, .int p3, am_U, am_U]) (st' := [.int p3]) (E' := E) (I' := I) (J' := J) (S' := S) am_e172 rfl rfl rfl rfl ?_
  refine w_st (i' := 2) (ls' := [.ref 66, .ref 74, .int p3, am_U, am_U]) (st' := [.ref 66, .int p3]) (E' := E) (I' := I) (J' := J) (S' := S) am_e172 rfl rfl rfl rfl ?_
  refine w_st (i' := 3) (ls' := [.ref 66, .ref 74, .int p3, am_U, am_U]) (st' := [.int (nI 4), .int p3]) (E' := E) (I' := I) (J' := J) (S' := S) am_e172 rfl rfl rfl rfl ?_
  refine w_st (i' := 4) (ls' := [.ref 66, .ref 74, .int p3, am_U, am_U]) (st' := [.ref 74, .int (nI 4), .int p3]) (E' := E) (I' := I) (J' := J) (S' := S) am_e172 rfl rfl rfl rfl ?_
  refine w_st (i' := 5) (ls' := [.ref 66, .ref 74, .int p3, am_U, am_U]) (st' := [.int (nI 4), .int (nI 4), .int p3]) (E' := E) (I' := I) (J' := J) (S' := S) am_e172 rfl rfl rfl rfl ?_
  refine w_st (i' := 6) (ls' := [.ref 66, .ref 74, .int p3, am_U, am_U]) (st' := [.int (nI 4), .int p3]) (E' := E) (I' := I) (J' := J) (S' := S) am_e172 rfl rfl rfl rfl ?_
  refine w_st (i' := 7) (ls' := [.ref 66, .ref 74, .int p3, am_U, am_U]) (st' := [.int (if (nI 4) < p3 then (nI 4) else p3)]) (E' := E) (I' := I) (J' := J) (S' := S) am_e172 rfl rfl rfl rfl ?_
  refine w_st (i' := 8) (ls' := [.ref 66, .ref 74, .int p3, .int (if (nI 4) < p3 then (nI 4) else p3), am_U]) (st' := []) (E' := E) (I' := I) (J' := J) (S' := S) am_e172 rfl rfl rfl rfl ?_
  refine w_var (fun w1 => am_ww 172 8 [.ref 66, .ref 74, .int p3, .int w1, am_U] [] E I J S _) (if (nI 4) < p3 then (nI 4) else p3) (fun w1 hw1 => ?_)
  replace h := h w1 hw1
  refine w_st (i' := 9) (ls' := [.ref 66, .ref 74, .int p3, .int w1, am_U]) (st' := [.int (nI 0)]) (E' := E) (I' := I) (J' := J) (S' := S) am_e172 rfl rfl rfl rfl ?_
  refine w_st (i' := 10) (ls' := [.ref 66, .ref 74, .int p3, .int w1, .int (nI 0)]) (st' := []) (E' := E) (I' := I) (J' := J) (S' := S) am_e172 rfl rfl rfl rfl ?_
  exact h
theorem g172_10_66 {d2 : Value} {x3 : Int32} {x4 : Int32} {E : am_Ev} {I : Nat → Nat → Int32} {J : Nat → Nat → Int64} {S : Nat → Nat → Option Nat} {Q : am_Qt} (hd2 : am_isL d2 = false) (h : (x3 ≤ x4 → (Q (.inl (some (.int (nI 1)))) E I J S)) ∧ (¬ x3 ≤ x4 → (vp_in x4 4 ∧ ((((I 66) x4.toNatClampNeg) = ((I 74) x4.toNatClampNeg) → (am_ww 172 10 [.ref 66, .ref 74, d2, .int x3, .int (x4 + nI 1)] [] E I J S Q)) ∧ (¬ ((I 66) x4.toNatClampNeg) = ((I 74) x4.toNatClampNeg) → (Q (.inl (some (.int (nI 0)))) E I J S)))))) : am_ww 172 10 [.ref 66, .ref 74, d2, .int x3, .int x4] [] E I J S Q := by
  refine w_st (i' := 11) (ls' := [.ref 66, .ref 74, d2, .int x3, .int x4]) (st' := [.int x4]) (E' := E) (I' := I) (J' := J) (S' := S) am_e172 rfl rfl rfl rfl ?_
  refine w_st (i' := 12) (ls' := [.ref 66, .ref 74, d2, .int x3, .int x4]) (st' := [.int x3, .int x4]) (E' := E) (I' := I) (J' := J) (S' := S) am_e172 rfl rfl rfl rfl ?_
  refine w_if2 am_e172 rfl rfl (fun c => ?_) (fun c => ?_)
  · replace h := h.1 (of_decide_eq_true c)
    refine w_st (i' := 25) (ls' := [.ref 66, .ref 74, d2, .int x3, .int x4]) (st' := [.int (nI 1)]) (E' := E) (I' := I) (J' := J) (S' := S) am_e172 rfl rfl rfl rfl ?_
    exact w_end am_e172 rfl rfl rfl h
  · replace h := h.2 (of_decide_eq_false c)
    refine w_st (i' := 14) (ls' := [.ref 66, .ref 74, d2, .int x3, .int x4]) (st' := [.ref 66]) (E' := E) (I' := I) (J' := J) (S' := S) am_e172 rfl rfl rfl rfl ?_
    refine w_st (i' := 15) (ls' := [.ref 66, .ref 74, d2, .int x3, .int x4]) (st' := [.int x4, .ref 66]) (E' := E) (I' := I) (J' := J) (S' := S) am_e172 rfl rfl rfl rfl ?_
    have hf1 := h.1
    replace h := h.2
    refine w_ia (k := 66) (n := 4) (jn := x4.toNatClampNeg) am_e172 rfl rfl (by decide) hf1 rfl ?_
    refine w_st (i' := 17) (ls' := [.ref 66, .ref 74, d2, .int x3, .int x4]) (st' := [.ref 74, .int ((I 66) x4.toNatClampNeg)]) (E' := E) (I' := I) (J' := J) (S' := S) am_e172 rfl rfl rfl rfl ?_
    refine w_st (i' := 18) (ls' := [.ref 66, .ref 74, d2, .int x3, .int x4]) (st' := [.int x4, .ref 74, .int ((I 66) x4.toNatClampNeg)]) (E' := E) (I' := I) (J' := J) (S' := S) am_e172 rfl rfl rfl rfl ?_
    refine w_ia (k := 74) (n := 4) (jn := x4.toNatClampNeg) am_e172 rfl rfl (by decide) hf1 rfl ?_
    refine w_if2 am_e172 rfl rfl (fun c => ?_) (fun c => ?_)
    · replace h := h.1 (of_decide_eq_true c)
      refine w_st (i' := 23) (ls' := [.ref 66, .ref 74, d2, .int x3, .int (x4 + nI 1)]) (st' := []) (E' := E) (I' := I) (J' := J) (S' := S) am_e172 rfl rfl rfl rfl ?_
      refine w_st (i' := 10) (ls' := [.ref 66, .ref 74, d2, .int x3, .int (x4 + nI 1)]) (st' := []) (E' := E) (I' := I) (J' := J) (S' := S) am_e172 rfl rfl rfl rfl ?_
      exact h
    · replace h := h.2 (of_decide_eq_false c)
      refine w_st (i' := 21) (ls' := [.ref 66, .ref 74, d2, .int x3, .int x4]) (st' := [.int (nI 0)]) (E' := E) (I' := I) (J' := J) (S' := S) am_e172 rfl rfl rfl rfl ?_
      exact w_end am_e172 rfl rfl rfl h
-- 172 sameNumbers
theorem g172_0_62 {p3 : Int32} {E : am_Ev} {I : Nat → Nat → Int32} {J : Nat → Nat → Int64} {S : Nat → Nat → Option Nat} {Q : am_Qt}  (h : ∀ w1 : Int32, w1 = (if (nI 16) < p3 then (nI 16) else p3) → (am_ww 172 10 [.ref 62, .ref 70, .int p3, .int w1, .int (nI 0)] [] E I J S Q)) : am_ww 172 0 [.ref 62, .ref 70, .int p3, am_U, am_U] [] E I J S Q := by
  refine w_st (i' := 1) (ls' := [.ref 62, .ref 70, .int p3, am_U, am_U]) (st' := [.int p3]) (E' := E) (I' := I) (J' := J) (S' := S) am_e172 rfl rfl rfl rfl ?_
  refine w_st (i' := 2) (ls' := [.ref 62, .ref 70, .int p3, am_U, am_U]) (st' := [.ref 62, .int p3]) (E' := E) (I' := I) (J' := J) (S' := S) am_e172 rfl rfl rfl rfl ?_
  refine w_st (i' := 3) (ls' := [.ref 62, .ref 70, .int p3, am_U, am_U]) (st' := [.int (nI 16), .int p3]) (E' := E) (I' := I) (J' := J) (S' := S) am_e172 rfl rfl rfl rfl ?_
  refine w_st (i' := 4) (ls' := [.ref 62, .ref 70, .int p3, am_U, am_U]) (st' := [.ref 70, .int (nI 16), .int p3]) (E' := E) (I' := I) (J' := J) (S' := S) am_e172 rfl rfl rfl rfl ?_
  refine w_st (i' := 5) (ls' := [.ref 62, .ref 70, .int p3, am_U, am_U]) (st' := [.int (nI 16), .int (nI 16), .int p3]) (E' := E) (I' := I) (J' := J) (S' := S) am_e172 rfl rfl rfl rfl ?_
  refine w_st (i' := 6) (ls' := [.ref 62, .ref 70, .int p3, am_U, am_U]) (st' := [.int (nI 16), .int p3]) (E' := E) (I' := I) (J' := J) (S' := S) am_e172 rfl rfl rfl rfl ?_
  refine w_st (i' := 7) (ls' := [.ref 62, .ref 70, .int p3, am_U, am_U]) (st' := [.int (if (nI 16) < p3 then (nI 16) else p3)]) (E' := E) (I' := I) (J' := J) (S' := S) am_e172 rfl rfl rfl rfl ?_
  refine w_st (i' := 8) (ls' := [.ref 62, .ref 70, .int p3, .int (if (nI 16) < p3 then (nI 16) else p3), am_U]) (st' := []) (E' := E) (I' := I) (J' := J) (S' := S) am_e172 rfl rfl rfl rfl ?_
  refine w_var (fun w1 => am_ww 172 8 [.ref 62, .ref 70, .int p3, .int w1, am_U] [] E I J S _) (if (nI 16) < p3 then (nI 16) else p3) (fun w1 hw1 => ?_)
  replace h := h w1 hw1
  refine w_st (i' := 9) (ls' := [.ref 62, .ref 70, .int p3, .int w1, am_U]) (st' := [.int (nI 0)]) (E' := E) (I' := I) (J' := J) (S' := S) am_e172 rfl rfl rfl rfl ?_
  refine w_st (i' := 10) (ls' := [.ref 62, .ref 70, .int p3, .int w1, .int (nI 0)]) (st' := []) (E' := E) (I' := I) (J' := J) (S' := S) am_e172 rfl rfl rfl rfl ?_
  exact h
theorem g172_10_62 {d2 : Value} {x3 : Int32} {x4 : Int32} {E : am_Ev} {I : Nat → Nat → Int32} {J : Nat → Nat → Int64} {S : Nat → Nat → Option Nat} {Q : am_Qt} (hd2 : am_isL d2 = false) (h : (x3 ≤ x4 → (Q (.inl (some (.int (nI 1)))) E I J S)) ∧ (¬ x3 ≤ x4 → (vp_in x4 16 ∧ ((((I 62) x4.toNatClampNeg) = ((I 70) x4.toNatClampNeg) → (am_ww 172 10 [.ref 62, .ref 70, d2, .int x3, .int (x4 + nI 1)] [] E I J S Q)) ∧ (¬ ((I 62) x4.toNatClampNeg) = ((I 70) x4.toNatClampNeg) → (Q (.inl (some (.int (nI 0)))) E I J S)))))) : am_ww 172 10 [.ref 62, .ref 70, d2, .int x3, .int x4] [] E I J S Q := by
  refine w_st (i' := 11) (ls' := [.ref 62, .ref 70, d2, .int x3, .int x4]) (st' := [.int x4]) (E' := E) (I' := I) (J' := J) (S' := S) am_e172 rfl rfl rfl rfl ?_
  refine w_st (i' := 12) (ls' := [.ref 62, .ref 70, d2, .int x3, .int x4]) (st' := [.int x3, .int x4]) (E' := E) (I' := I) (J' := J) (S' := S) am_e172 rfl rfl rfl rfl ?_
  refine w_if2 am_e172 rfl rfl (fun c => ?_) (fun c => ?_)
  · replace h := h.1 (of_decide_eq_true c)
    refine w_st (i' := 25) (ls' := [.ref 62, .ref 70, d2, .int x3, .int x4]) (st' := [.int (nI 1)]) (E' := E) (I' := I) (J' := J) (S' := S) am_e172 rfl rfl rfl rfl ?_
    exact w_end am_e172 rfl rfl rfl h
  · replace h := h.2 (of_decide_eq_false c)
    refine w_st (i' := 14) (ls' := [.ref 62, .ref 70, d2, .int x3, .int x4]) (st' := [.ref 62]) (E' := E) (I' := I) (J' := J) (S' := S) am_e172 rfl rfl rfl rfl ?_
    refine w_st (i' := 15) (ls' := [.ref 62, .ref 70, d2, .int x3, .int x4]) (st' := [.int x4, .ref 62]) (E' := E) (I' := I) (J' := J) (S' := S) am_e172 rfl rfl rfl rfl ?_
    have hf1 := h.1
    replace h := h.2
    refine w_ia (k := 62) (n := 16) (jn := x4.toNatClampNeg) am_e172 rfl rfl (by decide) hf1 rfl ?_
    refine w_st (i' := 17) (ls' := [.ref 62, .ref 70, d2, .int x3, .int x4]) (st' := [.ref 70, .int ((I 62) x4.toNatClampNeg)]) (E' := E) (I' := I) (J' := J) (S' := S) am_e172 rfl rfl rfl rfl ?_
    refine w_st (i' := 18) (ls' := [.ref 62, .ref 70, d2, .int x3, .int x4]) (st' := [.int x4, .ref 70, .int ((I 62) x4.toNatClampNeg)]) (E' := E) (I' := I) (J' := J) (S' := S) am_e172 rfl rfl rfl rfl ?_
    refine w_ia (k := 70) (n := 16) (jn := x4.toNatClampNeg) am_e172 rfl rfl (by decide) hf1 rfl ?_
    refine w_if2 am_e172 rfl rfl (fun c => ?_) (fun c => ?_)
    · replace h := h.1 (of_decide_eq_true c)
      refine w_st (i' := 23) (ls' := [.ref 62, .ref 70, d2, .int x3, .int (x4 + nI 1)]) (st' := []) (E' := E) (I' := I) (J' := J) (S' := S) am_e172 rfl rfl rfl rfl ?_
      refine w_st (i' := 10) (ls' := [.ref 62, .ref 70, d2, .int x3, .int (x4 + nI 1)]) (st' := []) (E' := E) (I' := I) (J' := J) (S' := S) am_e172 rfl rfl rfl rfl ?_
      exact h
    · replace h := h.2 (of_decide_eq_false c)
      refine w_st (i' := 21) (ls' := [.ref 62, .ref 70, d2, .int x3, .int x4]) (st' := [.int (nI 0)]) (E' := E) (I' := I) (J' := J) (S' := S) am_e172 rfl rfl rfl rfl ?_
      exact w_end am_e172 rfl rfl rfl h
-- 172 sameNumbers
theorem g172_0_70 {p3 : Int32} {E : am_Ev} {I : Nat → Nat → Int32} {J : Nat → Nat → Int64} {S : Nat → Nat → Option Nat} {Q : am_Qt}  (h : ∀ w1 : Int32, w1 = (if (nI 16) < p3 then (nI 16) else p3) → (am_ww 172 10 [.ref 70, .ref 21, .int p3, .int w1, .int (nI 0)] [] E I J S Q)) : am_ww 172 0 [.ref 70, .ref 21, .int p3, am_U, am_U] [] E I J S Q := by
  refine w_st (i' := 1) (ls' := [.ref 70, .ref 21, .int p3, am_U, am_U]) (st' := [.int p3]) (E' := E) (I' := I) (J' := J) (S' := S) am_e172 rfl rfl rfl rfl ?_
  refine w_st (i' := 2) (ls' := [.ref 70, .ref 21, .int p3, am_U, am_U]) (st' := [.ref 70, .int p3]) (E' := E) (I' := I) (J' := J) (S' := S) am_e172 rfl rfl rfl rfl ?_
  refine w_st (i' := 3) (ls' := [.ref 70, .ref 21, .int p3, am_U, am_U]) (st' := [.int (nI 16), .int p3]) (E' := E) (I' := I) (J' := J) (S' := S) am_e172 rfl rfl rfl rfl ?_
  refine w_st (i' := 4) (ls' := [.ref 70, .ref 21, .int p3, am_U, am_U]) (st' := [.ref 21, .int (nI 16), .int p3]) (E' := E) (I' := I) (J' := J) (S' := S) am_e172 rfl rfl rfl rfl ?_
  refine w_st (i' := 5) (ls' := [.ref 70, .ref 21, .int p3, am_U, am_U]) (st' := [.int (nI 16), .int (nI 16), .int p3]) (E' := E) (I' := I) (J' := J) (S' := S) am_e172 rfl rfl rfl rfl ?_
  refine w_st (i' := 6) (ls' := [.ref 70, .ref 21, .int p3, am_U, am_U]) (st' := [.int (nI 16), .int p3]) (E' := E) (I' := I) (J' := J) (S' := S) am_e172 rfl rfl rfl rfl ?_
  refine w_st (i' := 7) (ls' := [.ref 70, .ref 21, .int p3, am_U, am_U]) (st' := [.int (if (nI 16) < p3 then (nI 16) else p3)]) (E' := E) (I' := I) (J' := J) (S' := S) am_e172 rfl rfl rfl rfl ?_
  refine w_st (i' := 8) (ls' := [.ref 70, .ref 21, .int p3, .int (if (nI 16) < p3 then (nI 16) else p3), am_U]) (st' := []) (E' := E) (I' := I) (J' := J) (S' := S) am_e172 rfl rfl rfl rfl ?_
  refine w_var (fun w1 => am_ww 172 8 [.ref 70, .ref 21, .int p3, .int w1, am_U] [] E I J S _) (if (nI 16) < p3 then (nI 16) else p3) (fun w1 hw1 => ?_)
  replace h := h w1 hw1
  refine w_st (i' := 9) (ls' := [.ref 70, .ref 21, .int p3, .int w1, am_U]) (st' := [.int (nI 0)]) (E' := E) (I' := I) (J' := J) (S' := S) am_e172 rfl rfl rfl rfl ?_
  refine w_st (i' := 10) (ls' := [.ref 70, .ref 21, .int p3, .int w1, .int (nI 0)]) (st' := []) (E' := E) (I' := I) (J' := J) (S' := S) am_e172 rfl rfl rfl rfl ?_
  exact h
theorem g172_10_70 {d2 : Value} {x3 : Int32} {x4 : Int32} {E : am_Ev} {I : Nat → Nat → Int32} {J : Nat → Nat → Int64} {S : Nat → Nat → Option Nat} {Q : am_Qt} (hd2 : am_isL d2 = false) (h : (x3 ≤ x4 → (Q (.inl (some (.int (nI 1)))) E I J S)) ∧ (¬ x3 ≤ x4 → (vp_in x4 16 ∧ ((((I 70) x4.toNatClampNeg) = ((I 21) x4.toNatClampNeg) → (am_ww 172 10 [.ref 70, .ref 21, d2, .int x3, .int (x4 + nI 1)] [] E I J S Q)) ∧ (¬ ((I 70) x4.toNatClampNeg) = ((I 21) x4.toNatClampNeg) → (Q (.inl (some (.int (nI 0)))) E I J S)))))) : am_ww 172 10 [.ref 70, .ref 21, d2, .int x3, .int x4] [] E I J S Q := by
  refine w_st (i' := 11) (ls' := [.ref 70, .ref 21, d2, .int x3, .int x4]) (st' := [.int x4]) (E' := E) (I' := I) (J' := J) (S' := S) am_e172 rfl rfl rfl rfl ?_
  refine w_st (i' := 12) (ls' := [.ref 70, .ref 21, d2, .int x3, .int x4]) (st' := [.int x3, .int x4]) (E' := E) (I' := I) (J' := J) (S' := S) am_e172 rfl rfl rfl rfl ?_
  refine w_if2 am_e172 rfl rfl (fun c => ?_) (fun c => ?_)
  · replace h := h.1 (of_decide_eq_true c)
    refine w_st (i' := 25) (ls' := [.ref 70, .ref 21, d2, .int x3, .int x4]) (st' := [.int (nI 1)]) (E' := E) (I' := I) (J' := J) (S' := S) am_e172 rfl rfl rfl rfl ?_
    exact w_end am_e172 rfl rfl rfl h
  · replace h := h.2 (of_decide_eq_false c)
    refine w_st (i' := 14) (ls' := [.ref 70, .ref 21, d2, .int x3, .int x4]) (st' := [.ref 70]) (E' := E) (I' := I) (J' := J) (S' := S) am_e172 rfl rfl rfl rfl ?_
    refine w_st (i' := 15) (ls' := [.ref 70, .ref 21, d2, .int x3, .int x4]) (st' := [.int x4, .ref 70]) (E' := E) (I' := I) (J' := J) (S' := S) am_e172 rfl rfl rfl rfl ?_
    have hf1 := h.1
    replace h := h.2
    refine w_ia (k := 70) (n := 16) (jn := x4.toNatClampNeg) am_e172 rfl rfl (by decide) hf1 rfl ?_
    refine w_st (i' := 17) (ls' := [.ref 70, .ref 21, d2, .int x3, .int x4]) (st' := [.ref 21, .int ((I 70) x4.toNatClampNeg)]) (E' := E) (I' := I) (J' := J) (S' := S) am_e172 rfl rfl rfl rfl ?_
    refine w_st (i' := 18) (ls' := [.ref 70, .ref 21, d2, .int x3, .int x4]) (st' := [.int x4, .ref 21, .int ((I 70) x4.toNatClampNeg)]) (E' := E) (I' := I) (J' := J) (S' := S) am_e172 rfl rfl rfl rfl ?_
    refine w_ia (k := 21) (n := 16) (jn := x4.toNatClampNeg) am_e172 rfl rfl (by decide) hf1 rfl ?_
    refine w_if2 am_e172 rfl rfl (fun c => ?_) (fun c => ?_)
    · replace h := h.1 (of_decide_eq_true c)
      refine w_st (i' := 23) (ls' := [.ref 70, .ref 21, d2, .int x3, .int (x4 + nI 1)]) (st' := []) (E' := E) (I' := I) (J' := J) (S' := S) am_e172 rfl rfl rfl rfl ?_
      refine w_st (i' := 10) (ls' := [.ref 70, .ref 21, d2, .int x3, .int (x4 + nI 1)]) (st' := []) (E' := E) (I' := I) (J' := J) (S' := S) am_e172 rfl rfl rfl rfl ?_
      exact h
    · replace h := h.2 (of_decide_eq_false c)
      refine w_st (i' := 21) (ls' := [.ref 70, .ref 21, d2, .int x3, .int x4]) (st' := [.int (nI 0)]) (E' := E) (I' := I) (J' := J) (S' := S) am_e172 rfl rfl rfl rfl ?_
      exact w_end am_e172 rfl rfl rfl h
-- 171 isLike
theorem g171_0 {p2 : Int32} {E : am_Ev} {I : Nat → Nat → Int32} {J : Nat → Nat → Int64} {S : Nat → Nat → Option Nat} {Q : am_Qt}  (h : (((I 61) 6) = ((I 69) 6) → (am_cl 172 [.ref 64, .ref 72, .int p2] E I J S (q_I fun v1 E1 I1 J1 S1 => (v1 = 0 → (Q (.inl (some (.int (nI 0)))) E1 I1 J1 S1)) ∧ (¬ v1 = 0 → (am_cl 172 [.ref 65, .ref 73, .int p2] E1 I1 J1 S1 (q_I fun v2 E2 I2 J2 S2 => (v2 = 0 → (Q (.inl (some (.int (nI 0)))) E2 I2 J2 S2)) ∧ (¬ v2 = 0 → (am_cl 172 [.ref 63, .ref 71, .int (p2 * (nI 4))] E2 I2 J2 S2 (q_I fun v3 E3 I3 J3 S3 => (v3 = 0 → (Q (.inl (some (.int (nI 0)))) E3 I3 J3 S3)) ∧ (¬ v3 = 0 → (am_cl 172 [.ref 66, .ref 74, .int (nI 4)] E3 I3 J3 S3 (q_I fun v4 E4 I4 J4 S4 => (v4 = 0 → (Q (.inl (some (.int (nI 0)))) E4 I4 J4 S4)) ∧ (¬ v4 = 0 → (am_cl 172 [.ref 62, .ref 70, .int (nI 16)] E4 I4 J4 S4 (q_I fun v5 E5 I5 J5 S5 => (v5 = 0 → (Q (.inl (some (.int (nI 0)))) E5 I5 J5 S5)) ∧ (¬ v5 = 0 → (Q (.inl (some (.int (nI 1)))) E5 I5 J5 S5))))))))))))))))) ∧ (¬ ((I 61) 6) = ((I 69) 6) → (Q (.inl (some (.int (nI 0)))) E I J S))) : am_ww 171 0 [.ref 61, .ref 69, .int p2] [] E I J S Q := by
  refine w_st (i' := 1) (ls' := [.ref 61, .ref 69, .int p2]) (st' := [.ref 61]) (E' := E) (I' := I) (J' := J) (S' := S) am_e171 rfl rfl rfl rfl ?_
  refine w_st (i' := 2) (ls' := [.ref 61, .ref 69, .int p2]) (st' := [.int ((I 61) 6)]) (E' := E) (I' := I) (J' := J) (S' := S) am_e171 rfl rfl rfl rfl ?_
  refine w_st (i' := 3) (ls' := [.ref 61, .ref 69, .int p2]) (st' := [.ref 69, .int ((I 61) 6)]) (E' := E) (I' := I) (J' := J) (S' := S) am_e171 rfl rfl rfl rfl ?_
  refine w_st (i' := 4) (ls' := [.ref 61, .ref 69, .int p2]) (st' := [.int ((I 69) 6), .int ((I 61) 6)]) (E' := E) (I' := I) (J' := J) (S' := S) am_e171 rfl rfl rfl rfl ?_
  refine w_if2 am_e171 rfl rfl (fun c => ?_) (fun c => ?_)
  · replace h := h.2 (of_decide_eq_true c)
    refine w_st (i' := 45) (ls' := [.ref 61, .ref 69, .int p2]) (st' := [.int (nI 0)]) (E' := E) (I' := I) (J' := J) (S' := S) am_e171 rfl rfl rfl rfl ?_
    exact w_end am_e171 rfl rfl rfl h
  · replace h := h.1 (Decidable.not_not.mp (of_decide_eq_false c))
    refine w_st (i' := 6) (ls' := [.ref 61, .ref 69, .int p2]) (st' := [.ref 61]) (E' := E) (I' := I) (J' := J) (S' := S) am_e171 rfl rfl rfl rfl ?_
    refine w_st (i' := 7) (ls' := [.ref 61, .ref 69, .int p2]) (st' := [.ref 64]) (E' := E) (I' := I) (J' := J) (S' := S) am_e171 rfl rfl rfl rfl ?_
    refine w_st (i' := 8) (ls' := [.ref 61, .ref 69, .int p2]) (st' := [.ref 69, .ref 64]) (E' := E) (I' := I) (J' := J) (S' := S) am_e171 rfl rfl rfl rfl ?_
    refine w_st (i' := 9) (ls' := [.ref 61, .ref 69, .int p2]) (st' := [.ref 72, .ref 64]) (E' := E) (I' := I) (J' := J) (S' := S) am_e171 rfl rfl rfl rfl ?_
    refine w_st (i' := 10) (ls' := [.ref 61, .ref 69, .int p2]) (st' := [.int p2, .ref 72, .ref 64]) (E' := E) (I' := I) (J' := J) (S' := S) am_e171 rfl rfl rfl rfl ?_
    refine w_cI am_e171 rfl rfl (as := [.ref 64, .ref 72, .int p2]) (rest := []) rfl rfl (am_ww.mono h ?_)
    rintro _ E1 I1 J1 S1 ⟨v1, rfl, h⟩
    refine q_mkI ?_
    refine w_if1 am_e171 rfl rfl (fun c => ?_) (fun c => ?_)
    · replace h := h.1 (of_decide_eq_true c)
      refine w_st (i' := 45) (ls' := [.ref 61, .ref 69, .int p2]) (st' := [.int (nI 0)]) (E' := E1) (I' := I1) (J' := J1) (S' := S1) am_e171 rfl rfl rfl rfl ?_
      exact w_end am_e171 rfl rfl rfl h
    · replace h := h.2 (of_decide_eq_false c)
      refine w_st (i' := 13) (ls' := [.ref 61, .ref 69, .int p2]) (st' := [.ref 61]) (E' := E1) (I' := I1) (J' := J1) (S' := S1) am_e171 rfl rfl rfl rfl ?_
      refine w_st (i' := 14) (ls' := [.ref 61, .ref 69, .int p2]) (st' := [.ref 65]) (E' := E1) (I' := I1) (J' := J1) (S' := S1) am_e171 rfl rfl rfl rfl ?_
      refine w_st (i' := 15) (ls' := [.ref 61, .ref 69, .int p2]) (st' := [.ref 69, .ref 65]) (E' := E1) (I' := I1) (J' := J1) (S' := S1) am_e171 rfl rfl rfl rfl ?_
      refine w_st (i' := 16) (ls' := [.ref 61, .ref 69, .int p2]) (st' := [.ref 73, .ref 65]) (E' := E1) (I' := I1) (J' := J1) (S' := S1) am_e171 rfl rfl rfl rfl ?_
      refine w_st (i' := 17) (ls' := [.ref 61, .ref 69, .int p2]) (st' := [.int p2, .ref 73, .ref 65]) (E' := E1) (I' := I1) (J' := J1) (S' := S1) am_e171 rfl rfl rfl rfl ?_
      refine w_cI am_e171 rfl rfl (as := [.ref 65, .ref 73, .int p2]) (rest := []) rfl rfl (am_ww.mono h ?_)
      rintro _ E2 I2 J2 S2 ⟨v2, rfl, h⟩
      refine q_mkI ?_
      refine w_if1 am_e171 rfl rfl (fun c => ?_) (fun c => ?_)
      · replace h := h.1 (of_decide_eq_true c)
        refine w_st (i' := 45) (ls' := [.ref 61, .ref 69, .int p2]) (st' := [.int (nI 0)]) (E' := E2) (I' := I2) (J' := J2) (S' := S2) am_e171 rfl rfl rfl rfl ?_
        exact w_end am_e171 rfl rfl rfl h
      · replace h := h.2 (of_decide_eq_false c)
        refine w_st (i' := 20) (ls' := [.ref 61, .ref 69, .int p2]) (st' := [.ref 61]) (E' := E2) (I' := I2) (J' := J2) (S' := S2) am_e171 rfl rfl rfl rfl ?_
        refine w_st (i' := 21) (ls' := [.ref 61, .ref 69, .int p2]) (st' := [.ref 63]) (E' := E2) (I' := I2) (J' := J2) (S' := S2) am_e171 rfl rfl rfl rfl ?_
        refine w_st (i' := 22) (ls' := [.ref 61, .ref 69, .int p2]) (st' := [.ref 69, .ref 63]) (E' := E2) (I' := I2) (J' := J2) (S' := S2) am_e171 rfl rfl rfl rfl ?_
        refine w_st (i' := 23) (ls' := [.ref 61, .ref 69, .int p2]) (st' := [.ref 71, .ref 63]) (E' := E2) (I' := I2) (J' := J2) (S' := S2) am_e171 rfl rfl rfl rfl ?_
        refine w_st (i' := 24) (ls' := [.ref 61, .ref 69, .int p2]) (st' := [.int p2, .ref 71, .ref 63]) (E' := E2) (I' := I2) (J' := J2) (S' := S2) am_e171 rfl rfl rfl rfl ?_
        refine w_st (i' := 25) (ls' := [.ref 61, .ref 69, .int p2]) (st' := [.int (nI 4), .int p2, .ref 71, .ref 63]) (E' := E2) (I' := I2) (J' := J2) (S' := S2) am_e171 rfl rfl rfl rfl ?_
        refine w_st (i' := 26) (ls' := [.ref 61, .ref 69, .int p2]) (st' := [.int (p2 * (nI 4)), .ref 71, .ref 63]) (E' := E2) (I' := I2) (J' := J2) (S' := S2) am_e171 rfl rfl rfl rfl ?_
        refine w_cI am_e171 rfl rfl (as := [.ref 63, .ref 71, .int (p2 * (nI 4))]) (rest := []) rfl rfl (am_ww.mono h ?_)
        rintro _ E3 I3 J3 S3 ⟨v3, rfl, h⟩
        refine q_mkI ?_
        refine w_if1 am_e171 rfl rfl (fun c => ?_) (fun c => ?_)
        · replace h := h.1 (of_decide_eq_true c)
          refine w_st (i' := 45) (ls' := [.ref 61, .ref 69, .int p2]) (st' := [.int (nI 0)]) (E' := E3) (I' := I3) (J' := J3) (S' := S3) am_e171 rfl rfl rfl rfl ?_
          exact w_end am_e171 rfl rfl rfl h
        · replace h := h.2 (of_decide_eq_false c)
          refine w_st (i' := 29) (ls' := [.ref 61, .ref 69, .int p2]) (st' := [.ref 61]) (E' := E3) (I' := I3) (J' := J3) (S' := S3) am_e171 rfl rfl rfl rfl ?_
          refine w_st (i' := 30) (ls' := [.ref 61, .ref 69, .int p2]) (st' := [.ref 66]) (E' := E3) (I' := I3) (J' := J3) (S' := S3) am_e171 rfl rfl rfl rfl ?_
          refine w_st (i' := 31) (ls' := [.ref 61, .ref 69, .int p2]) (st' := [.ref 69, .ref 66]) (E' := E3) (I' := I3) (J' := J3) (S' := S3) am_e171 rfl rfl rfl rfl ?_
          refine w_st (i' := 32) (ls' := [.ref 61, .ref 69, .int p2]) (st' := [.ref 74, .ref 66]) (E' := E3) (I' := I3) (J' := J3) (S' := S3) am_e171 rfl rfl rfl rfl ?_
          refine w_st (i' := 33) (ls' := [.ref 61, .ref 69, .int p2]) (st' := [.int (nI 4), .ref 74, .ref 66]) (E' := E3) (I' := I3) (J' := J3) (S' := S3) am_e171 rfl rfl rfl rfl ?_
          refine w_cI am_e171 rfl rfl (as := [.ref 66, .ref 74, .int (nI 4)]) (rest := []) rfl rfl (am_ww.mono h ?_)
          rintro _ E4 I4 J4 S4 ⟨v4, rfl, h⟩
          refine q_mkI ?_
          refine w_if1 am_e171 rfl rfl (fun c => ?_) (fun c => ?_)
          · replace h := h.1 (of_decide_eq_true c)
            refine w_st (i' := 45) (ls' := [.ref 61, .ref 69, .int p2]) (st' := [.int (nI 0)]) (E' := E4) (I' := I4) (J' := J4) (S' := S4) am_e171 rfl rfl rfl rfl ?_
            exact w_end am_e171 rfl rfl rfl h
          · replace h := h.2 (of_decide_eq_false c)
            refine w_st (i' := 36) (ls' := [.ref 61, .ref 69, .int p2]) (st' := [.ref 61]) (E' := E4) (I' := I4) (J' := J4) (S' := S4) am_e171 rfl rfl rfl rfl ?_
            refine w_st (i' := 37) (ls' := [.ref 61, .ref 69, .int p2]) (st' := [.ref 62]) (E' := E4) (I' := I4) (J' := J4) (S' := S4) am_e171 rfl rfl rfl rfl ?_
            refine w_st (i' := 38) (ls' := [.ref 61, .ref 69, .int p2]) (st' := [.ref 69, .ref 62]) (E' := E4) (I' := I4) (J' := J4) (S' := S4) am_e171 rfl rfl rfl rfl ?_
            refine w_st (i' := 39) (ls' := [.ref 61, .ref 69, .int p2]) (st' := [.ref 70, .ref 62]) (E' := E4) (I' := I4) (J' := J4) (S' := S4) am_e171 rfl rfl rfl rfl ?_
            refine w_st (i' := 40) (ls' := [.ref 61, .ref 69, .int p2]) (st' := [.int (nI 16), .ref 70, .ref 62]) (E' := E4) (I' := I4) (J' := J4) (S' := S4) am_e171 rfl rfl rfl rfl ?_
            refine w_cI am_e171 rfl rfl (as := [.ref 62, .ref 70, .int (nI 16)]) (rest := []) rfl rfl (am_ww.mono h ?_)
            rintro _ E5 I5 J5 S5 ⟨v5, rfl, h⟩
            refine q_mkI ?_
            refine w_if1 am_e171 rfl rfl (fun c => ?_) (fun c => ?_)
            · replace h := h.1 (of_decide_eq_true c)
              refine w_st (i' := 45) (ls' := [.ref 61, .ref 69, .int p2]) (st' := [.int (nI 0)]) (E' := E5) (I' := I5) (J' := J5) (S' := S5) am_e171 rfl rfl rfl rfl ?_
              exact w_end am_e171 rfl rfl rfl h
            · replace h := h.2 (of_decide_eq_false c)
              refine w_st (i' := 43) (ls' := [.ref 61, .ref 69, .int p2]) (st' := [.int (nI 1)]) (E' := E5) (I' := I5) (J' := J5) (S' := S5) am_e171 rfl rfl rfl rfl ?_
              refine w_st (i' := 45) (ls' := [.ref 61, .ref 69, .int p2]) (st' := [.int (nI 1)]) (E' := E5) (I' := I5) (J' := J5) (S' := S5) am_e171 rfl rfl rfl rfl ?_
              exact w_end am_e171 rfl rfl rfl h
-- 102 make
theorem g102_0 {p1 : Int32} {p2 : Int32} {E : am_Ev} {I : Nat → Nat → Int32} {J : Nat → Nat → Int64} {S : Nat → Nat → Option Nat} {Q : am_Qt}  (h : am_ww 102 10 [.ref 85, .int p1, .int p2, .int (nI 16)] [] E (u_I (u_I I 85 (upd (I 85) 1 (nI 1))) 86 (upd (I 86) 0 (nI 0))) J S Q) : am_ww 102 0 [.ref 85, .int p1, .int p2, am_U] [] E I J S Q := by
  refine w_st (i' := 1) (ls' := [.ref 85, .int p1, .int p2, am_U]) (st' := [.ref 85]) (E' := E) (I' := I) (J' := J) (S' := S) am_e102 rfl rfl rfl rfl ?_
  refine w_st (i' := 2) (ls' := [.ref 85, .int p1, .int p2, am_U]) (st' := [.int (nI 1), .ref 85]) (E' := E) (I' := I) (J' := J) (S' := S) am_e102 rfl rfl rfl rfl ?_
  refine w_st (i' := 3) (ls' := [.ref 85, .int p1, .int p2, am_U]) (st' := []) (E' := E) (I' := (u_I I 85 (upd (I 85) 1 (nI 1)))) (J' := J) (S' := S) am_e102 rfl rfl rfl rfl ?_
  refine w_st (i' := 4) (ls' := [.ref 85, .int p1, .int p2, am_U]) (st' := [.ref 85]) (E' := E) (I' := (u_I I 85 (upd (I 85) 1 (nI 1)))) (J' := J) (S' := S) am_e102 rfl rfl rfl rfl ?_
  refine w_st (i' := 5) (ls' := [.ref 85, .int p1, .int p2, am_U]) (st' := [.ref 86]) (E' := E) (I' := (u_I I 85 (upd (I 85) 1 (nI 1)))) (J' := J) (S' := S) am_e102 rfl rfl rfl rfl ?_
  refine w_st (i' := 6) (ls' := [.ref 85, .int p1, .int p2, am_U]) (st' := [.int (nI 0), .ref 86]) (E' := E) (I' := (u_I I 85 (upd (I 85) 1 (nI 1)))) (J' := J) (S' := S) am_e102 rfl rfl rfl rfl ?_
  refine w_st (i' := 7) (ls' := [.ref 85, .int p1, .int p2, am_U]) (st' := [.int (nI 0), .int (nI 0), .ref 86]) (E' := E) (I' := (u_I I 85 (upd (I 85) 1 (nI 1)))) (J' := J) (S' := S) am_e102 rfl rfl rfl rfl ?_
  refine w_is (k := 86) (n := 9) (jn := 0) am_e102 rfl rfl (by decide) (vp_in_nI (by decide) (by decide)) rfl ?_
  show am_ww 102 8 [.ref 85, .int p1, .int p2, am_U] [] E (u_I (u_I I 85 (upd (I 85) 1 (nI 1))) 86 (upd (I 86) 0 (nI 0))) J S _
  refine w_st (i' := 9) (ls' := [.ref 85, .int p1, .int p2, am_U]) (st' := [.int (nI 16)]) (E' := E) (I' := (u_I (u_I I 85 (upd (I 85) 1 (nI 1))) 86 (upd (I 86) 0 (nI 0)))) (J' := J) (S' := S) am_e102 rfl rfl rfl rfl ?_
  refine w_st (i' := 10) (ls' := [.ref 85, .int p1, .int p2, .int (nI 16)]) (st' := []) (E' := E) (I' := (u_I (u_I I 85 (upd (I 85) 1 (nI 1))) 86 (upd (I 86) 0 (nI 0)))) (J' := J) (S' := S) am_e102 rfl rfl rfl rfl ?_
  exact h
theorem g102_10 {x1 : Int32} {x2 : Int32} {x3 : Int32} {E : am_Ev} {I : Nat → Nat → Int32} {J : Nat → Nat → Int64} {S : Nat → Nat → Option Nat} {Q : am_Qt}  (h : (x1 < x3 → (Q (.inl none) E I J S)) ∧ (¬ x1 < x3 → (((nI 8) < ((I 85) 1) → ((((I 85) 1) ≤ x2 → (am_ww 102 10 [.ref 85, .int x1, .int x2, .int (x3 + nI 16)] [] E I J S Q)) ∧ (¬ ((I 85) 1) ≤ x2 → (am_cl 103 [.ref 85] E I J S (q_I fun v1 E1 I1 J1 S1 => am_cl 104 [.ref 85, .int v1] E1 I1 J1 S1 (q_V fun E2 I2 J2 S2 => am_ww 102 10 [.ref 85, .int x1, .int x2, .int (x3 + nI 16)] [] E2 I2 J2 S2 Q)))))) ∧ (¬ (nI 8) < ((I 85) 1) → (vp_in ((I 85) 1) 9 ∧ (((((I 85) 1) + (nI 1)) ≤ x2 → (am_ww 102 10 [.ref 85, .int x1, .int x2, .int (x3 + nI 16)] [] E (u_I (u_I I 86 (upd (I 86) (((I 85) 1).toNatClampNeg) x3)) 85 (upd (I 85) 1 (((I 85) 1) + (nI 1)))) J S Q)) ∧ (¬ (((I 85) 1) + (nI 1)) ≤ x2 → (am_cl 103 [.ref 85] E (u_I (u_I I 86 (upd (I 86) (((I 85) 1).toNatClampNeg) x3)) 85 (upd (I 85) 1 (((I 85) 1) + (nI 1)))) J S (q_I fun v4 E4 I4 J4 S4 => am_cl 104 [.ref 85, .int v4] E4 I4 J4 S4 (q_V fun E5 I5 J5 S5 => am_ww 102 10 [.ref 85, .int x1, .int x2, .int (x3 + nI 16)] [] E5 I5 J5 S5 Q)))))))))) : am_ww 102 10 [.ref 85, .int x1, .int x2, .int x3] [] E I J S Q := by
  refine w_st (i' := 11) (ls' := [.ref 85, .int x1, .int x2, .int x3]) (st' := [.int x3]) (E' := E) (I' := I) (J' := J) (S' := S) am_e102 rfl rfl rfl rfl ?_
  refine w_st (i' := 12) (ls' := [.ref 85, .int x1, .int x2, .int x3]) (st' := [.int x1, .int x3]) (E' := E) (I' := I) (J' := J) (S' := S) am_e102 rfl rfl rfl rfl ?_
  refine w_if2 am_e102 rfl rfl (fun c => ?_) (fun c => ?_)
  · replace h := h.1 (of_decide_eq_true c)
    exact w_end am_e102 rfl rfl rfl h
  · replace h := h.2 (of_decide_eq_false c)
    refine w_st (i' := 14) (ls' := [.ref 85, .int x1, .int x2, .int x3]) (st' := [.ref 85]) (E' := E) (I' := I) (J' := J) (S' := S) am_e102 rfl rfl rfl rfl ?_
    refine w_st (i' := 15) (ls' := [.ref 85, .int x1, .int x2, .int x3]) (st' := [.int ((I 85) 1)]) (E' := E) (I' := I) (J' := J) (S' := S) am_e102 rfl rfl rfl rfl ?_
    refine w_st (i' := 16) (ls' := [.ref 85, .int x1, .int x2, .int x3]) (st' := [.int (nI 8), .int ((I 85) 1)]) (E' := E) (I' := I) (J' := J) (S' := S) am_e102 rfl rfl rfl rfl ?_
    refine w_if2 am_e102 rfl rfl (fun c => ?_) (fun c => ?_)
    · replace h := h.1 (of_decide_eq_true c)
      refine w_st (i' := 30) (ls' := [.ref 85, .int x1, .int x2, .int x3]) (st' := [.ref 85]) (E' := E) (I' := I) (J' := J) (S' := S) am_e102 rfl rfl rfl rfl ?_
      refine w_st (i' := 31) (ls' := [.ref 85, .int x1, .int x2, .int x3]) (st' := [.int ((I 85) 1)]) (E' := E) (I' := I) (J' := J) (S' := S) am_e102 rfl rfl rfl rfl ?_
      refine w_st (i' := 32) (ls' := [.ref 85, .int x1, .int x2, .int x3]) (st' := [.int x2, .int ((I 85) 1)]) (E' := E) (I' := I) (J' := J) (S' := S) am_e102 rfl rfl rfl rfl ?_
      refine w_if2 am_e102 rfl rfl (fun c => ?_) (fun c => ?_)
      · replace h := h.1 (of_decide_eq_true c)
        refine w_st (i' := 38) (ls' := [.ref 85, .int x1, .int x2, .int (x3 + nI 16)]) (st' := []) (E' := E) (I' := I) (J' := J) (S' := S) am_e102 rfl rfl rfl rfl ?_
        refine w_st (i' := 10) (ls' := [.ref 85, .int x1, .int x2, .int (x3 + nI 16)]) (st' := []) (E' := E) (I' := I) (J' := J) (S' := S) am_e102 rfl rfl rfl rfl ?_
        exact h
      · replace h := h.2 (of_decide_eq_false c)
        refine w_st (i' := 34) (ls' := [.ref 85, .int x1, .int x2, .int x3]) (st' := [.ref 85]) (E' := E) (I' := I) (J' := J) (S' := S) am_e102 rfl rfl rfl rfl ?_
        refine w_st (i' := 35) (ls' := [.ref 85, .int x1, .int x2, .int x3]) (st' := [.ref 85, .ref 85]) (E' := E) (I' := I) (J' := J) (S' := S) am_e102 rfl rfl rfl rfl ?_
        refine w_cI am_e102 rfl rfl (as := [.ref 85]) (rest := [.ref 85]) rfl rfl (am_ww.mono h ?_)
        rintro _ E1 I1 J1 S1 ⟨v1, rfl, h⟩
        refine q_mkI ?_
        refine w_cV am_e102 rfl rfl (as := [.ref 85, .int v1]) (rest := []) rfl rfl (am_ww.mono h ?_)
        rintro _ E2 I2 J2 S2 ⟨rfl, h⟩
        refine q_mkV ?_
        refine w_st (i' := 38) (ls' := [.ref 85, .int x1, .int x2, .int (x3 + nI 16)]) (st' := []) (E' := E2) (I' := I2) (J' := J2) (S' := S2) am_e102 rfl rfl rfl rfl ?_
        refine w_st (i' := 10) (ls' := [.ref 85, .int x1, .int x2, .int (x3 + nI 16)]) (st' := []) (E' := E2) (I' := I2) (J' := J2) (S' := S2) am_e102 rfl rfl rfl rfl ?_
        exact h
    · replace h := h.2 (of_decide_eq_false c)
      refine w_st (i' := 18) (ls' := [.ref 85, .int x1, .int x2, .int x3]) (st' := [.ref 85]) (E' := E) (I' := I) (J' := J) (S' := S) am_e102 rfl rfl rfl rfl ?_
      refine w_st (i' := 19) (ls' := [.ref 85, .int x1, .int x2, .int x3]) (st' := [.ref 86]) (E' := E) (I' := I) (J' := J) (S' := S) am_e102 rfl rfl rfl rfl ?_
      refine w_st (i' := 20) (ls' := [.ref 85, .int x1, .int x2, .int x3]) (st' := [.ref 85, .ref 86]) (E' := E) (I' := I) (J' := J) (S' := S) am_e102 rfl rfl rfl rfl ?_
      refine w_st (i' := 21) (ls' := [.ref 85, .int x1, .int x2, .int x3]) (st' := [.int ((I 85) 1), .ref 86]) (E' := E) (I' := I) (J' := J) (S' := S) am_e102 rfl rfl rfl rfl ?_
      refine w_st (i' := 22) (ls' := [.ref 85, .int x1, .int x2, .int x3]) (st' := [.int x3, .int ((I 85) 1), .ref 86]) (E' := E) (I' := I) (J' := J) (S' := S) am_e102 rfl rfl rfl rfl ?_
      have hf3 := h.1
      replace h := h.2
      refine w_is (k := 86) (n := 9) (jn := ((I 85) 1).toNatClampNeg) am_e102 rfl rfl (by decide) hf3 rfl ?_
      show am_ww 102 23 [.ref 85, .int x1, .int x2, .int x3] [] E (u_I I 86 (upd (I 86) (((I 85) 1).toNatClampNeg) x3)) J S _
      refine w_st (i' := 24) (ls' := [.ref 85, .int x1, .int x2, .int x3]) (st' := [.ref 85]) (E' := E) (I' := (u_I I 86 (upd (I 86) (((I 85) 1).toNatClampNeg) x3))) (J' := J) (S' := S) am_e102 rfl rfl rfl rfl ?_
      refine w_st (i' := 25) (ls' := [.ref 85, .int x1, .int x2, .int x3]) (st' := [.ref 85, .ref 85]) (E' := E) (I' := (u_I I 86 (upd (I 86) (((I 85) 1).toNatClampNeg) x3))) (J' := J) (S' := S) am_e102 rfl rfl rfl rfl ?_
      refine w_st (i' := 26) (ls' := [.ref 85, .int x1, .int x2, .int x3]) (st' := [.int ((I 85) 1), .ref 85]) (E' := E) (I' := (u_I I 86 (upd (I 86) (((I 85) 1).toNatClampNeg) x3))) (J' := J) (S' := S) am_e102 rfl rfl rfl rfl ?_
      refine w_st (i' := 27) (ls' := [.ref 85, .int x1, .int x2, .int x3]) (st' := [.int (nI 1), .int ((I 85) 1), .ref 85]) (E' := E) (I' := (u_I I 86 (upd (I 86) (((I 85) 1).toNatClampNeg) x3))) (J' := J) (S' := S) am_e102 rfl rfl rfl rfl ?_
      refine w_st (i' := 28) (ls' := [.ref 85, .int x1, .int x2, .int x3]) (st' := [.int (((I 85) 1) + (nI 1)), .ref 85]) (E' := E) (I' := (u_I I 86 (upd (I 86) (((I 85) 1).toNatClampNeg) x3))) (J' := J) (S' := S) am_e102 rfl rfl rfl rfl ?_
      refine w_st (i' := 29) (ls' := [.ref 85, .int x1, .int x2, .int x3]) (st' := []) (E' := E) (I' := (u_I (u_I I 86 (upd (I 86) (((I 85) 1).toNatClampNeg) x3)) 85 (upd (I 85) 1 (((I 85) 1) + (nI 1))))) (J' := J) (S' := S) am_e102 rfl rfl rfl rfl ?_
      refine w_st (i' := 30) (ls' := [.ref 85, .int x1, .int x2, .int x3]) (st' := [.ref 85]) (E' := E) (I' := (u_I (u_I I 86 (upd (I 86) (((I 85) 1).toNatClampNeg) x3)) 85 (upd (I 85) 1 (((I 85) 1) + (nI 1))))) (J' := J) (S' := S) am_e102 rfl rfl rfl rfl ?_
      refine w_st (i' := 31) (ls' := [.ref 85, .int x1, .int x2, .int x3]) (st' := [.int (((I 85) 1) + (nI 1))]) (E' := E) (I' := (u_I (u_I I 86 (upd (I 86) (((I 85) 1).toNatClampNeg) x3)) 85 (upd (I 85) 1 (((I 85) 1) + (nI 1))))) (J' := J) (S' := S) am_e102 rfl rfl rfl rfl ?_
      refine w_st (i' := 32) (ls' := [.ref 85, .int x1, .int x2, .int x3]) (st' := [.int x2, .int (((I 85) 1) + (nI 1))]) (E' := E) (I' := (u_I (u_I I 86 (upd (I 86) (((I 85) 1).toNatClampNeg) x3)) 85 (upd (I 85) 1 (((I 85) 1) + (nI 1))))) (J' := J) (S' := S) am_e102 rfl rfl rfl rfl ?_
      refine w_if2 am_e102 rfl rfl (fun c => ?_) (fun c => ?_)
      · replace h := h.1 (of_decide_eq_true c)
        refine w_st (i' := 38) (ls' := [.ref 85, .int x1, .int x2, .int (x3 + nI 16)]) (st' := []) (E' := E) (I' := (u_I (u_I I 86 (upd (I 86) (((I 85) 1).toNatClampNeg) x3)) 85 (upd (I 85) 1 (((I 85) 1) + (nI 1))))) (J' := J) (S' := S) am_e102 rfl rfl rfl rfl ?_
        refine w_st (i' := 10) (ls' := [.ref 85, .int x1, .int x2, .int (x3 + nI 16)]) (st' := []) (E' := E) (I' := (u_I (u_I I 86 (upd (I 86) (((I 85) 1).toNatClampNeg) x3)) 85 (upd (I 85) 1 (((I 85) 1) + (nI 1))))) (J' := J) (S' := S) am_e102 rfl rfl rfl rfl ?_
        exact h
      · replace h := h.2 (of_decide_eq_false c)
        refine w_st (i' := 34) (ls' := [.ref 85, .int x1, .int x2, .int x3]) (st' := [.ref 85]) (E' := E) (I' := (u_I (u_I I 86 (upd (I 86) (((I 85) 1).toNatClampNeg) x3)) 85 (upd (I 85) 1 (((I 85) 1) + (nI 1))))) (J' := J) (S' := S) am_e102 rfl rfl rfl rfl ?_
        refine w_st (i' := 35) (ls' := [.ref 85, .int x1, .int x2, .int x3]) (st' := [.ref 85, .ref 85]) (E' := E) (I' := (u_I (u_I I 86 (upd (I 86) (((I 85) 1).toNatClampNeg) x3)) 85 (upd (I 85) 1 (((I 85) 1) + (nI 1))))) (J' := J) (S' := S) am_e102 rfl rfl rfl rfl ?_
        refine w_cI am_e102 rfl rfl (as := [.ref 85]) (rest := [.ref 85]) rfl rfl (am_ww.mono h ?_)
        rintro _ E4 I4 J4 S4 ⟨v4, rfl, h⟩
        refine q_mkI ?_
        refine w_cV am_e102 rfl rfl (as := [.ref 85, .int v4]) (rest := []) rfl rfl (am_ww.mono h ?_)
        rintro _ E5 I5 J5 S5 ⟨rfl, h⟩
        refine q_mkV ?_
        refine w_st (i' := 38) (ls' := [.ref 85, .int x1, .int x2, .int (x3 + nI 16)]) (st' := []) (E' := E5) (I' := I5) (J' := J5) (S' := S5) am_e102 rfl rfl rfl rfl ?_
        refine w_st (i' := 10) (ls' := [.ref 85, .int x1, .int x2, .int (x3 + nI 16)]) (st' := []) (E' := E5) (I' := I5) (J' := J5) (S' := S5) am_e102 rfl rfl rfl rfl ?_
        exact h
-- 103 closest
theorem g103_0  {E : am_Ev} {I : Nat → Nat → Int32} {J : Nat → Nat → Int64} {S : Nat → Nat → Option Nat} {Q : am_Qt}  (h : am_ww 103 4 [.ref 85, .int (nI 1), .int (nI 2)] [] E I J S Q) : am_ww 103 0 [.ref 85, am_U, am_U] [] E I J S Q := by
  refine w_st (i' := 1) (ls' := [.ref 85, am_U, am_U]) (st' := [.int (nI 1)]) (E' := E) (I' := I) (J' := J) (S' := S) am_e103 rfl rfl rfl rfl ?_
  refine w_st (i' := 2) (ls' := [.ref 85, .int (nI 1), am_U]) (st' := []) (E' := E) (I' := I) (J' := J) (S' := S) am_e103 rfl rfl rfl rfl ?_
  refine w_st (i' := 3) (ls' := [.ref 85, .int (nI 1), am_U]) (st' := [.int (nI 2)]) (E' := E) (I' := I) (J' := J) (S' := S) am_e103 rfl rfl rfl rfl ?_
  refine w_st (i' := 4) (ls' := [.ref 85, .int (nI 1), .int (nI 2)]) (st' := []) (E' := E) (I' := I) (J' := J) (S' := S) am_e103 rfl rfl rfl rfl ?_
  exact h
theorem g103_4 {x1 : Int32} {x2 : Int32} {E : am_Ev} {I : Nat → Nat → Int32} {J : Nat → Nat → Int64} {S : Nat → Nat → Option Nat} {Q : am_Qt}  (h : ((((I 85) 1) - (nI 1)) ≤ x2 → (Q (.inl (some (.int x1))) E I J S)) ∧ (¬ (((I 85) 1) - (nI 1)) ≤ x2 → (vp_in (x2 + (nI 1)) 9 ∧ (vp_in (x2 - (nI 1)) 9 ∧ (vp_in (x1 + (nI 1)) 9 ∧ (vp_in (x1 - (nI 1)) 9 ∧ (∀ w6 : Int32, w6 = (if (((I 86) ((x1 + (nI 1)).toNatClampNeg)) - ((I 86) ((x1 - (nI 1)).toNatClampNeg))) ≤ (((I 86) ((x2 + (nI 1)).toNatClampNeg)) - ((I 86) ((x2 - (nI 1)).toNatClampNeg))) then x1 else x2) → (am_ww 103 4 [.ref 85, .int w6, .int (x2 + nI 1)] [] E I J S Q)))))))) : am_ww 103 4 [.ref 85, .int x1, .int x2] [] E I J S Q := by
  refine w_st (i' := 5) (ls' := [.ref 85, .int x1, .int x2]) (st' := [.int x2]) (E' := E) (I' := I) (J' := J) (S' := S) am_e103 rfl rfl rfl rfl ?_
  refine w_st (i' := 6) (ls' := [.ref 85, .int x1, .int x2]) (st' := [.ref 85, .int x2]) (E' := E) (I' := I) (J' := J) (S' := S) am_e103 rfl rfl rfl rfl ?_
  refine w_st (i' := 7) (ls' := [.ref 85, .int x1, .int x2]) (st' := [.int ((I 85) 1), .int x2]) (E' := E) (I' := I) (J' := J) (S' := S) am_e103 rfl rfl rfl rfl ?_
  refine w_st (i' := 8) (ls' := [.ref 85, .int x1, .int x2]) (st' := [.int (nI 1), .int ((I 85) 1), .int x2]) (E' := E) (I' := I) (J' := J) (S' := S) am_e103 rfl rfl rfl rfl ?_
  refine w_st (i' := 9) (ls' := [.ref 85, .int x1, .int x2]) (st' := [.int (((I 85) 1) - (nI 1)), .int x2]) (E' := E) (I' := I) (J' := J) (S' := S) am_e103 rfl rfl rfl rfl ?_
  refine w_if2 am_e103 rfl rfl (fun c => ?_) (fun c => ?_)
  · replace h := h.1 (of_decide_eq_true c)
    refine w_st (i' := 42) (ls' := [.ref 85, .int x1, .int x2]) (st' := [.int x1]) (E' := E) (I' := I) (J' := J) (S' := S) am_e103 rfl rfl rfl rfl ?_
    exact w_ri am_e103 rfl rfl h
  · replace h := h.2 (of_decide_eq_false c)
    refine w_st (i' := 11) (ls' := [.ref 85, .int x1, .int x2]) (st' := [.ref 85]) (E' := E) (I' := I) (J' := J) (S' := S) am_e103 rfl rfl rfl rfl ?_
    refine w_st (i' := 12) (ls' := [.ref 85, .int x1, .int x2]) (st' := [.ref 86]) (E' := E) (I' := I) (J' := J) (S' := S) am_e103 rfl rfl rfl rfl ?_
    refine w_st (i' := 13) (ls' := [.ref 85, .int x1, .int x2]) (st' := [.int x2, .ref 86]) (E' := E) (I' := I) (J' := J) (S' := S) am_e103 rfl rfl rfl rfl ?_
    refine w_st (i' := 14) (ls' := [.ref 85, .int x1, .int x2]) (st' := [.int (nI 1), .int x2, .ref 86]) (E' := E) (I' := I) (J' := J) (S' := S) am_e103 rfl rfl rfl rfl ?_
    refine w_st (i' := 15) (ls' := [.ref 85, .int x1, .int x2]) (st' := [.int (x2 + (nI 1)), .ref 86]) (E' := E) (I' := I) (J' := J) (S' := S) am_e103 rfl rfl rfl rfl ?_
    have hf1 := h.1
    replace h := h.2
    refine w_ia (k := 86) (n := 9) (jn := (x2 + (nI 1)).toNatClampNeg) am_e103 rfl rfl (by decide) hf1 rfl ?_
    refine w_st (i' := 17) (ls' := [.ref 85, .int x1, .int x2]) (st' := [.ref 85, .int ((I 86) ((x2 + (nI 1)).toNatClampNeg))]) (E' := E) (I' := I) (J' := J) (S' := S) am_e103 rfl rfl rfl rfl ?_
    refine w_st (i' := 18) (ls' := [.ref 85, .int x1, .int x2]) (st' := [.ref 86, .int ((I 86) ((x2 + (nI 1)).toNatClampNeg))]) (E' := E) (I' := I) (J' := J) (S' := S) am_e103 rfl rfl rfl rfl ?_
    refine w_st (i' := 19) (ls' := [.ref 85, .int x1, .int x2]) (st' := [.int x2, .ref 86, .int ((I 86) ((x2 + (nI 1)).toNatClampNeg))]) (E' := E) (I' := I) (J' := J) (S' := S) am_e103 rfl rfl rfl rfl ?_
    refine w_st (i' := 20) (ls' := [.ref 85, .int x1, .int x2]) (st' := [.int (nI 1), .int x2, .ref 86, .int ((I 86) ((x2 + (nI 1)).toNatClampNeg))]) (E' := E) (I' := I) (J' := J) (S' := S) am_e103 rfl rfl rfl rfl ?_
    refine w_st (i' := 21) (ls' := [.ref 85, .int x1, .int x2]) (st' := [.int (x2 - (nI 1)), .ref 86, .int ((I 86) ((x2 + (nI 1)).toNatClampNeg))]) (E' := E) (I' := I) (J' := J) (S' := S) am_e103 rfl rfl rfl rfl ?_
    have hf2 := h.1
    replace h := h.2
    refine w_ia (k := 86) (n := 9) (jn := (x2 - (nI 1)).toNatClampNeg) am_e103 rfl rfl (by decide) hf2 rfl ?_
    refine w_st (i' := 23) (ls' := [.ref 85, .int x1, .int x2]) (st' := [.int (((I 86) ((x2 + (nI 1)).toNatClampNeg)) - ((I 86) ((x2 - (nI 1)).toNatClampNeg)))]) (E' := E) (I' := I) (J' := J) (S' := S) am_e103 rfl rfl rfl rfl ?_
    refine w_st (i' := 24) (ls' := [.ref 85, .int x1, .int x2]) (st' := [.ref 85, .int (((I 86) ((x2 + (nI 1)).toNatClampNeg)) - ((I 86) ((x2 - (nI 1)).toNatClampNeg)))]) (E' := E) (I' := I) (J' := J) (S' := S) am_e103 rfl rfl rfl rfl ?_
    refine w_st (i' := 25) (ls' := [.ref 85, .int x1, .int x2]) (st' := [.ref 86, .int (((I 86) ((x2 + (nI 1)).toNatClampNeg)) - ((I 86) ((x2 - (nI 1)).toNatClampNeg)))]) (E' := E) (I' := I) (J' := J) (S' := S) am_e103 rfl rfl rfl rfl ?_
    refine w_st (i' := 26) (ls' := [.ref 85, .int x1, .int x2]) (st' := [.int x1, .ref 86, .int (((I 86) ((x2 + (nI 1)).toNatClampNeg)) - ((I 86) ((x2 - (nI 1)).toNatClampNeg)))]) (E' := E) (I' := I) (J' := J) (S' := S) am_e103 rfl rfl rfl rfl ?_
    refine w_st (i' := 27) (ls' := [.ref 85, .int x1, .int x2]) (st' := [.int (nI 1), .int x1, .ref 86, .int (((I 86) ((x2 + (nI 1)).toNatClampNeg)) - ((I 86) ((x2 - (nI 1)).toNatClampNeg)))]) (E' := E) (I' := I) (J' := J) (S' := S) am_e103 rfl rfl rfl rfl ?_
    refine w_st (i' := 28) (ls' := [.ref 85, .int x1, .int x2]) (st' := [.int (x1 + (nI 1)), .ref 86, .int (((I 86) ((x2 + (nI 1)).toNatClampNeg)) - ((I 86) ((x2 - (nI 1)).toNatClampNeg)))]) (E' := E) (I' := I) (J' := J) (S' := S) am_e103 rfl rfl rfl rfl ?_
    have hf3 := h.1
    replace h := h.2
    refine w_ia (k := 86) (n := 9) (jn := (x1 + (nI 1)).toNatClampNeg) am_e103 rfl rfl (by decide) hf3 rfl ?_
    refine w_st (i' := 30) (ls' := [.ref 85, .int x1, .int x2]) (st' := [.ref 85, .int ((I 86) ((x1 + (nI 1)).toNatClampNeg)), .int (((I 86) ((x2 + (nI 1)).toNatClampNeg)) - ((I 86) ((x2 - (nI 1)).toNatClampNeg)))]) (E' := E) (I' := I) (J' := J) (S' := S) am_e103 rfl rfl rfl rfl ?_
    refine w_st (i' := 31) (ls' := [.ref 85, .int x1, .int x2]) (st' := [.ref 86, .int ((I 86) ((x1 + (nI 1)).toNatClampNeg)), .int (((I 86) ((x2 + (nI 1)).toNatClampNeg)) - ((I 86) ((x2 - (nI 1)).toNatClampNeg)))]) (E' := E) (I' := I) (J' := J) (S' := S) am_e103 rfl rfl rfl rfl ?_
    refine w_st (i' := 32) (ls' := [.ref 85, .int x1, .int x2]) (st' := [.int x1, .ref 86, .int ((I 86) ((x1 + (nI 1)).toNatClampNeg)), .int (((I 86) ((x2 + (nI 1)).toNatClampNeg)) - ((I 86) ((x2 - (nI 1)).toNatClampNeg)))]) (E' := E) (I' := I) (J' := J) (S' := S) am_e103 rfl rfl rfl rfl ?_
    refine w_st (i' := 33) (ls' := [.ref 85, .int x1, .int x2]) (st' := [.int (nI 1), .int x1, .ref 86, .int ((I 86) ((x1 + (nI 1)).toNatClampNeg)), .int (((I 86) ((x2 + (nI 1)).toNatClampNeg)) - ((I 86) ((x2 - (nI 1)).toNatClampNeg)))]) (E' := E) (I' := I) (J' := J) (S' := S) am_e103 rfl rfl rfl rfl ?_
    refine w_st (i' := 34) (ls' := [.ref 85, .int x1, .int x2]) (st' := [.int (x1 - (nI 1)), .ref 86, .int ((I 86) ((x1 + (nI 1)).toNatClampNeg)), .int (((I 86) ((x2 + (nI 1)).toNatClampNeg)) - ((I 86) ((x2 - (nI 1)).toNatClampNeg)))]) (E' := E) (I' := I) (J' := J) (S' := S) am_e103 rfl rfl rfl rfl ?_
    have hf4 := h.1
    replace h := h.2
    refine w_ia (k := 86) (n := 9) (jn := (x1 - (nI 1)).toNatClampNeg) am_e103 rfl rfl (by decide) hf4 rfl ?_
    refine w_st (i' := 36) (ls' := [.ref 85, .int x1, .int x2]) (st' := [.int (((I 86) ((x1 + (nI 1)).toNatClampNeg)) - ((I 86) ((x1 - (nI 1)).toNatClampNeg))), .int (((I 86) ((x2 + (nI 1)).toNatClampNeg)) - ((I 86) ((x2 - (nI 1)).toNatClampNeg)))]) (E' := E) (I' := I) (J' := J) (S' := S) am_e103 rfl rfl rfl rfl ?_
    refine w_mg (i := 39) (ls' := [.ref 85, .int (if (((I 86) ((x1 + (nI 1)).toNatClampNeg)) - ((I 86) ((x1 - (nI 1)).toNatClampNeg))) ≤ (((I 86) ((x2 + (nI 1)).toNatClampNeg)) - ((I 86) ((x2 - (nI 1)).toNatClampNeg))) then x1 else x2), .int x2]) (st' := []) (fun hm => ?_) ?_
    · clear h
      refine w_if2 am_e103 rfl rfl (fun c => ?_) (fun c => ?_)
      · have m5 : (((I 86) ((x1 + (nI 1)).toNatClampNeg)) - ((I 86) ((x1 - (nI 1)).toNatClampNeg))) ≤ (((I 86) ((x2 + (nI 1)).toNatClampNeg)) - ((I 86) ((x2 - (nI 1)).toNatClampNeg))) := (of_decide_eq_true c)
        first | exact hm | (simp only [if_pos m5] at hm; exact hm)
      · have m5 : ¬ ((((I 86) ((x1 + (nI 1)).toNatClampNeg)) - ((I 86) ((x1 - (nI 1)).toNatClampNeg))) ≤ (((I 86) ((x2 + (nI 1)).toNatClampNeg)) - ((I 86) ((x2 - (nI 1)).toNatClampNeg)))) := (of_decide_eq_false c)
        refine w_st (i' := 38) (ls' := [.ref 85, .int x1, .int x2]) (st' := [.int x2]) (E' := E) (I' := I) (J' := J) (S' := S) am_e103 rfl rfl rfl rfl ?_
        refine w_st (i' := 39) (ls' := [.ref 85, .int x2, .int x2]) (st' := []) (E' := E) (I' := I) (J' := J) (S' := S) am_e103 rfl rfl rfl rfl ?_
        first | exact hm | (simp only [if_neg m5] at hm; exact hm)
    refine w_var (fun w6 => am_ww 103 39 [.ref 85, .int w6, .int x2] [] E I J S _) (if (((I 86) ((x1 + (nI 1)).toNatClampNeg)) - ((I 86) ((x1 - (nI 1)).toNatClampNeg))) ≤ (((I 86) ((x2 + (nI 1)).toNatClampNeg)) - ((I 86) ((x2 - (nI 1)).toNatClampNeg))) then x1 else x2) (fun w6 hw6 => ?_)
    replace h := h w6 hw6
    refine w_st (i' := 40) (ls' := [.ref 85, .int w6, .int (x2 + nI 1)]) (st' := []) (E' := E) (I' := I) (J' := J) (S' := S) am_e103 rfl rfl rfl rfl ?_
    refine w_st (i' := 4) (ls' := [.ref 85, .int w6, .int (x2 + nI 1)]) (st' := []) (E' := E) (I' := I) (J' := J) (S' := S) am_e103 rfl rfl rfl rfl ?_
    exact h
-- 104 drop
theorem g104_0 {p1 : Int32} {E : am_Ev} {I : Nat → Nat → Int32} {J : Nat → Nat → Int64} {S : Nat → Nat → Option Nat} {Q : am_Qt}  (h : am_ww 104 2 [.ref 85, .int p1, .int p1] [] E I J S Q) : am_ww 104 0 [.ref 85, .int p1, am_U] [] E I J S Q := by
  refine w_st (i' := 1) (ls' := [.ref 85, .int p1, am_U]) (st' := [.int p1]) (E' := E) (I' := I) (J' := J) (S' := S) am_e104 rfl rfl rfl rfl ?_
  refine w_st (i' := 2) (ls' := [.ref 85, .int p1, .int p1]) (st' := []) (E' := E) (I' := I) (J' := J) (S' := S) am_e104 rfl rfl rfl rfl ?_
  exact h
theorem g104_2 {d1 : Value} {x2 : Int32} {E : am_Ev} {I : Nat → Nat → Int32} {J : Nat → Nat → Int64} {S : Nat → Nat → Option Nat} {Q : am_Qt} (hd1 : am_isL d1 = false) (h : ((((I 85) 1) - (nI 1)) ≤ x2 → (Q (.inl none) E (u_I I 85 (upd (I 85) 1 (((I 85) 1) - (nI 1)))) J S)) ∧ (¬ (((I 85) 1) - (nI 1)) ≤ x2 → (vp_in (x2 + (nI 1)) 9 ∧ (vp_in x2 9 ∧ (am_ww 104 2 [.ref 85, d1, .int (x2 + nI 1)] [] E (u_I I 86 (upd (I 86) x2.toNatClampNeg ((I 86) ((x2 + (nI 1)).toNatClampNeg)))) J S Q))))) : am_ww 104 2 [.ref 85, d1, .int x2] [] E I J S Q := by
  refine w_st (i' := 3) (ls' := [.ref 85, d1, .int x2]) (st' := [.int x2]) (E' := E) (I' := I) (J' := J) (S' := S) am_e104 rfl rfl rfl rfl ?_
  refine w_st (i' := 4) (ls' := [.ref 85, d1, .int x2]) (st' := [.ref 85, .int x2]) (E' := E) (I' := I) (J' := J) (S' := S) am_e104 rfl rfl rfl rfl ?_
  refine w_st (i' := 5) (ls' := [.ref 85, d1, .int x2]) (st' := [.int ((I 85) 1), .int x2]) (E' := E) (I' := I) (J' := J) (S' := S) am_e104 rfl rfl rfl rfl ?_
  refine w_st (i' := 6) (ls' := [.ref 85, d1, .int x2]) (st' := [.int (nI 1), .int ((I 85) 1), .int x2]) (E' := E) (I' := I) (J' := J) (S' := S) am_e104 rfl rfl rfl rfl ?_
  refine w_st (i' := 7) (ls' := [.ref 85, d1, .int x2]) (st' := [.int (((I 85) 1) - (nI 1)), .int x2]) (E' := E) (I' := I) (J' := J) (S' := S) am_e104 rfl rfl rfl rfl ?_
  refine w_if2 am_e104 rfl rfl (fun c => ?_) (fun c => ?_)
  · replace h := h.1 (of_decide_eq_true c)
    refine w_st (i' := 21) (ls' := [.ref 85, d1, .int x2]) (st' := [.ref 85]) (E' := E) (I' := I) (J' := J) (S' := S) am_e104 rfl rfl rfl rfl ?_
    refine w_st (i' := 22) (ls' := [.ref 85, d1, .int x2]) (st' := [.ref 85, .ref 85]) (E' := E) (I' := I) (J' := J) (S' := S) am_e104 rfl rfl rfl rfl ?_
    refine w_st (i' := 23) (ls' := [.ref 85, d1, .int x2]) (st' := [.int ((I 85) 1), .ref 85]) (E' := E) (I' := I) (J' := J) (S' := S) am_e104 rfl rfl rfl rfl ?_
    refine w_st (i' := 24) (ls' := [.ref 85, d1, .int x2]) (st' := [.int (nI 1), .int ((I 85) 1), .ref 85]) (E' := E) (I' := I) (J' := J) (S' := S) am_e104 rfl rfl rfl rfl ?_
    refine w_st (i' := 25) (ls' := [.ref 85, d1, .int x2]) (st' := [.int (((I 85) 1) - (nI 1)), .ref 85]) (E' := E) (I' := I) (J' := J) (S' := S) am_e104 rfl rfl rfl rfl ?_
    refine w_st (i' := 26) (ls' := [.ref 85, d1, .int x2]) (st' := []) (E' := E) (I' := (u_I I 85 (upd (I 85) 1 (((I 85) 1) - (nI 1))))) (J' := J) (S' := S) am_e104 rfl rfl rfl rfl ?_
    exact w_end am_e104 rfl rfl rfl h
  · replace h := h.2 (of_decide_eq_false c)
    refine w_st (i' := 9) (ls' := [.ref 85, d1, .int x2]) (st' := [.ref 85]) (E' := E) (I' := I) (J' := J) (S' := S) am_e104 rfl rfl rfl rfl ?_
    refine w_st (i' := 10) (ls' := [.ref 85, d1, .int x2]) (st' := [.ref 86]) (E' := E) (I' := I) (J' := J) (S' := S) am_e104 rfl rfl rfl rfl ?_
    refine w_st (i' := 11) (ls' := [.ref 85, d1, .int x2]) (st' := [.int x2, .ref 86]) (E' := E) (I' := I) (J' := J) (S' := S) am_e104 rfl rfl rfl rfl ?_
    refine w_st (i' := 12) (ls' := [.ref 85, d1, .int x2]) (st' := [.ref 85, .int x2, .ref 86]) (E' := E) (I' := I) (J' := J) (S' := S) am_e104 rfl rfl rfl rfl ?_
    refine w_st (i' := 13) (ls' := [.ref 85, d1, .int x2]) (st' := [.ref 86, .int x2, .ref 86]) (E' := E) (I' := I) (J' := J) (S' := S) am_e104 rfl rfl rfl rfl ?_
    refine w_st (i' := 14) (ls' := [.ref 85, d1, .int x2]) (st' := [.int x2, .ref 86, .int x2, .ref 86]) (E' := E) (I' := I) (J' := J) (S' := S) am_e104 rfl rfl rfl rfl ?_
    refine w_st (i' := 15) (ls' := [.ref 85, d1, .int x2]) (st' := [.int (nI 1), .int x2, .ref 86, .int x2, .ref 86]) (E' := E) (I' := I) (J' := J) (S' := S) am_e104 rfl rfl rfl rfl ?_
    refine w_st (i' := 16) (ls' := [.ref 85, d1, .int x2]) (st' := [.int (x2 + (nI 1)), .ref 86, .int x2, .ref 86]) (E' := E) (I' := I) (J' := J) (S' := S) am_e104 rfl rfl rfl rfl ?_
    have hf1 := h.1
    replace h := h.2
    refine w_ia (k := 86) (n := 9) (jn := (x2 + (nI 1)).toNatClampNeg) am_e104 rfl rfl (by decide) hf1 rfl ?_
    have hf2 := h.1
    replace h := h.2
    refine w_is (k := 86) (n := 9) (jn := x2.toNatClampNeg) am_e104 rfl rfl (by decide) hf2 rfl ?_
    show am_ww 104 18 [.ref 85, d1, .int x2] [] E (u_I I 86 (upd (I 86) x2.toNatClampNeg ((I 86) ((x2 + (nI 1)).toNatClampNeg)))) J S _
    refine w_st (i' := 19) (ls' := [.ref 85, d1, .int (x2 + nI 1)]) (st' := []) (E' := E) (I' := (u_I I 86 (upd (I 86) x2.toNatClampNeg ((I 86) ((x2 + (nI 1)).toNatClampNeg))))) (J' := J) (S' := S) am_e104 rfl rfl rfl (by simp [am_step, am_sto, am_inc, hd1] <;> rfl) ?_
    refine w_st (i' := 2) (ls' := [.ref 85, d1, .int (x2 + nI 1)]) (st' := []) (E' := E) (I' := (u_I I 86 (upd (I 86) x2.toNatClampNeg ((I 86) ((x2 + (nI 1)).toNatClampNeg))))) (J' := J) (S' := S) am_e104 rfl rfl rfl rfl ?_
    exact h
-- 106 cost
theorem g106_0 {p1 : Int32} {E : am_Ev} {I : Nat → Nat → Int32} {J : Nat → Nat → Int64} {S : Nat → Nat → Option Nat} {Q : am_Qt}  (h : am_ww 106 4 [.ref 85, .int p1, .int (nI 0), .int (nI 0)] [] E I J S Q) : am_ww 106 0 [.ref 85, .int p1, am_U, am_U] [] E I J S Q := by
  refine w_st (i' := 1) (ls' := [.ref 85, .int p1, am_U, am_U]) (st' := [.int (nI 0)]) (E' := E) (I' := I) (J' := J) (S' := S) am_e106 rfl rfl rfl rfl ?_
  refine w_st (i' := 2) (ls' := [.ref 85, .int p1, .int (nI 0), am_U]) (st' := []) (E' := E) (I' := I) (J' := J) (S' := S) am_e106 rfl rfl rfl rfl ?_
  refine w_st (i' := 3) (ls' := [.ref 85, .int p1, .int (nI 0), am_U]) (st' := [.int (nI 0)]) (E' := E) (I' := I) (J' := J) (S' := S) am_e106 rfl rfl rfl rfl ?_
  refine w_st (i' := 4) (ls' := [.ref 85, .int p1, .int (nI 0), .int (nI 0)]) (st' := []) (E' := E) (I' := I) (J' := J) (S' := S) am_e106 rfl rfl rfl rfl ?_
  exact h
theorem g106_4 {x1 : Int32} {x2 : Int32} {x3 : Int32} {E : am_Ev} {I : Nat → Nat → Int32} {J : Nat → Nat → Int64} {S : Nat → Nat → Option Nat} {Q : am_Qt}  (h : (((I 85) 1) ≤ x3 → (Q (.inl (some (.int (x1 - x2)))) E I J S)) ∧ (¬ ((I 85) 1) ≤ x3 → (vp_in x3 9 ∧ ((x1 < ((I 86) x3.toNatClampNeg) → (Q (.inl (some (.int (x1 - x2)))) E I J S)) ∧ (¬ x1 < ((I 86) x3.toNatClampNeg) → (am_ww 106 4 [.ref 85, .int x1, .int ((I 86) x3.toNatClampNeg), .int (x3 + nI 1)] [] E I J S Q)))))) : am_ww 106 4 [.ref 85, .int x1, .int x2, .int x3] [] E I J S Q := by
  refine w_st (i' := 5) (ls' := [.ref 85, .int x1, .int x2, .int x3]) (st' := [.int x3]) (E' := E) (I' := I) (J' := J) (S' := S) am_e106 rfl rfl rfl rfl ?_
  refine w_st (i' := 6) (ls' := [.ref 85, .int x1, .int x2, .int x3]) (st' := [.ref 85, .int x3]) (E' := E) (I' := I) (J' := J) (S' := S) am_e106 rfl rfl rfl rfl ?_
  refine w_st (i' := 7) (ls' := [.ref 85, .int x1, .int x2, .int x3]) (st' := [.int ((I 85) 1), .int x3]) (E' := E) (I' := I) (J' := J) (S' := S) am_e106 rfl rfl rfl rfl ?_
  refine w_if2 am_e106 rfl rfl (fun c => ?_) (fun c => ?_)
  · replace h := h.1 (of_decide_eq_true c)
    refine w_st (i' := 22) (ls' := [.ref 85, .int x1, .int x2, .int x3]) (st' := [.int x1]) (E' := E) (I' := I) (J' := J) (S' := S) am_e106 rfl rfl rfl rfl ?_
    refine w_st (i' := 23) (ls' := [.ref 85, .int x1, .int x2, .int x3]) (st' := [.int x2, .int x1]) (E' := E) (I' := I) (J' := J) (S' := S) am_e106 rfl rfl rfl rfl ?_
    refine w_st (i' := 24) (ls' := [.ref 85, .int x1, .int x2, .int x3]) (st' := [.int (x1 - x2)]) (E' := E) (I' := I) (J' := J) (S' := S) am_e106 rfl rfl rfl rfl ?_
    exact w_ri am_e106 rfl rfl h
  · replace h := h.2 (of_decide_eq_false c)
    refine w_st (i' := 9) (ls' := [.ref 85, .int x1, .int x2, .int x3]) (st' := [.ref 85]) (E' := E) (I' := I) (J' := J) (S' := S) am_e106 rfl rfl rfl rfl ?_
    refine w_st (i' := 10) (ls' := [.ref 85, .int x1, .int x2, .int x3]) (st' := [.ref 86]) (E' := E) (I' := I) (J' := J) (S' := S) am_e106 rfl rfl rfl rfl ?_
    refine w_st (i' := 11) (ls' := [.ref 85, .int x1, .int x2, .int x3]) (st' := [.int x3, .ref 86]) (E' := E) (I' := I) (J' := J) (S' := S) am_e106 rfl rfl rfl rfl ?_
    have hf1 := h.1
    replace h := h.2
    refine w_ia (k := 86) (n := 9) (jn := x3.toNatClampNeg) am_e106 rfl rfl (by decide) hf1 rfl ?_
    refine w_st (i' := 13) (ls' := [.ref 85, .int x1, .int x2, .int x3]) (st' := [.int x1, .int ((I 86) x3.toNatClampNeg)]) (E' := E) (I' := I) (J' := J) (S' := S) am_e106 rfl rfl rfl rfl ?_
    refine w_if2 am_e106 rfl rfl (fun c => ?_) (fun c => ?_)
    · replace h := h.1 (of_decide_eq_true c)
      refine w_st (i' := 22) (ls' := [.ref 85, .int x1, .int x2, .int x3]) (st' := [.int x1]) (E' := E) (I' := I) (J' := J) (S' := S) am_e106 rfl rfl rfl rfl ?_
      refine w_st (i' := 23) (ls' := [.ref 85, .int x1, .int x2, .int x3]) (st' := [.int x2, .int x1]) (E' := E) (I' := I) (J' := J) (S' := S) am_e106 rfl rfl rfl rfl ?_
      refine w_st (i' := 24) (ls' := [.ref 85, .int x1, .int x2, .int x3]) (st' := [.int (x1 - x2)]) (E' := E) (I' := I) (J' := J) (S' := S) am_e106 rfl rfl rfl rfl ?_
      exact w_ri am_e106 rfl rfl h
    · replace h := h.2 (of_decide_eq_false c)
      refine w_st (i' := 15) (ls' := [.ref 85, .int x1, .int x2, .int x3]) (st' := [.ref 85]) (E' := E) (I' := I) (J' := J) (S' := S) am_e106 rfl rfl rfl rfl ?_
      refine w_st (i' := 16) (ls' := [.ref 85, .int x1, .int x2, .int x3]) (st' := [.ref 86]) (E' := E) (I' := I) (J' := J) (S' := S) am_e106 rfl rfl rfl rfl ?_
      refine w_st (i' := 17) (ls' := [.ref 85, .int x1, .int x2, .int x3]) (st' := [.int x3, .ref 86]) (E' := E) (I' := I) (J' := J) (S' := S) am_e106 rfl rfl rfl rfl ?_
      refine w_ia (k := 86) (n := 9) (jn := x3.toNatClampNeg) am_e106 rfl rfl (by decide) hf1 rfl ?_
      refine w_st (i' := 19) (ls' := [.ref 85, .int x1, .int ((I 86) x3.toNatClampNeg), .int x3]) (st' := []) (E' := E) (I' := I) (J' := J) (S' := S) am_e106 rfl rfl rfl rfl ?_
      refine w_st (i' := 20) (ls' := [.ref 85, .int x1, .int ((I 86) x3.toNatClampNeg), .int (x3 + nI 1)]) (st' := []) (E' := E) (I' := I) (J' := J) (S' := S) am_e106 rfl rfl rfl rfl ?_
      refine w_st (i' := 4) (ls' := [.ref 85, .int x1, .int ((I 86) x3.toNatClampNeg), .int (x3 + nI 1)]) (st' := []) (E' := E) (I' := I) (J' := J) (S' := S) am_e106 rfl rfl rfl rfl ?_
      exact h
-- 105 greatestCost
theorem g105_0 {p1 : Int32} {E : am_Ev} {I : Nat → Nat → Int32} {J : Nat → Nat → Int64} {S : Nat → Nat → Option Nat} {Q : am_Qt}  (h : am_cl 106 [.ref 85, .int p1] E I J S (q_I fun v1 E1 I1 J1 S1 => am_ww 105 6 [.ref 85, .int p1, .int v1, .int (nI 1)] [] E1 I1 J1 S1 Q)) : am_ww 105 0 [.ref 85, .int p1, am_U, am_U] [] E I J S Q := by
  refine w_st (i' := 1) (ls' := [.ref 85, .int p1, am_U, am_U]) (st' := [.ref 85]) (E' := E) (I' := I) (J' := J) (S' := S) am_e105 rfl rfl rfl rfl ?_
  refine w_st (i' := 2) (ls' := [.ref 85, .int p1, am_U, am_U]) (st' := [.int p1, .ref 85]) (E' := E) (I' := I) (J' := J) (S' := S) am_e105 rfl rfl rfl rfl ?_
  refine w_cI am_e105 rfl rfl (as := [.ref 85, .int p1]) (rest := []) rfl rfl (am_ww.mono h ?_)
  rintro _ E1 I1 J1 S1 ⟨v1, rfl, h⟩
  refine q_mkI ?_
  refine w_st (i' := 4) (ls' := [.ref 85, .int p1, .int v1, am_U]) (st' := []) (E' := E1) (I' := I1) (J' := J1) (S' := S1) am_e105 rfl rfl rfl rfl ?_
  refine w_st (i' := 5) (ls' := [.ref 85, .int p1, .int v1, am_U]) (st' := [.int (nI 1)]) (E' := E1) (I' := I1) (J' := J1) (S' := S1) am_e105 rfl rfl rfl rfl ?_
  refine w_st (i' := 6) (ls' := [.ref 85, .int p1, .int v1, .int (nI 1)]) (st' := []) (E' := E1) (I' := I1) (J' := J1) (S' := S1) am_e105 rfl rfl rfl rfl ?_
  exact h
theorem g105_6 {d1 : Value} {x2 : Int32} {x3 : Int32} {E : am_Ev} {I : Nat → Nat → Int32} {J : Nat → Nat → Int64} {S : Nat → Nat → Option Nat} {Q : am_Qt} (hd1 : am_isL d1 = false) (h : (((I 85) 1) ≤ x3 → (Q (.inl (some (.int x2))) E I J S)) ∧ (¬ ((I 85) 1) ≤ x3 → (vp_in x3 9 ∧ (vp_in (x3 - (nI 1)) 9 ∧ (∀ w3 : Int32, w3 = (if x2 < ((((I 86) x3.toNatClampNeg) - (nI 1)) - ((I 86) ((x3 - (nI 1)).toNatClampNeg))) then ((((I 86) x3.toNatClampNeg) - (nI 1)) - ((I 86) ((x3 - (nI 1)).toNatClampNeg))) else x2) → (am_ww 105 6 [.ref 85, d1, .int w3, .int (x3 + nI 1)] [] E I J S Q)))))) : am_ww 105 6 [.ref 85, d1, .int x2, .int x3] [] E I J S Q := by
  refine w_st (i' := 7) (ls' := [.ref 85, d1, .int x2, .int x3]) (st' := [.int x3]) (E' := E) (I' := I) (J' := J) (S' := S) am_e105 rfl rfl rfl rfl ?_
  refine w_st (i' := 8) (ls' := [.ref 85, d1, .int x2, .int x3]) (st' := [.ref 85, .int x3]) (E' := E) (I' := I) (J' := J) (S' := S) am_e105 rfl rfl rfl rfl ?_
  refine w_st (i' := 9) (ls' := [.ref 85, d1, .int x2, .int x3]) (st' := [.int ((I 85) 1), .int x3]) (E' := E) (I' := I) (J' := J) (S' := S) am_e105 rfl rfl rfl rfl ?_
  refine w_if2 am_e105 rfl rfl (fun c => ?_) (fun c => ?_)
  · replace h := h.1 (of_decide_eq_true c)
    refine w_st (i' := 29) (ls' := [.ref 85, d1, .int x2, .int x3]) (st' := [.int x2]) (E' := E) (I' := I) (J' := J) (S' := S) am_e105 rfl rfl rfl rfl ?_
    exact w_ri am_e105 rfl rfl h
  · replace h := h.2 (of_decide_eq_false c)
    refine w_st (i' := 11) (ls' := [.ref 85, d1, .int x2, .int x3]) (st' := [.int x2]) (E' := E) (I' := I) (J' := J) (S' := S) am_e105 rfl rfl rfl rfl ?_
    refine w_st (i' := 12) (ls' := [.ref 85, d1, .int x2, .int x3]) (st' := [.ref 85, .int x2]) (E' := E) (I' := I) (J' := J) (S' := S) am_e105 rfl rfl rfl rfl ?_
    refine w_st (i' := 13) (ls' := [.ref 85, d1, .int x2, .int x3]) (st' := [.ref 86, .int x2]) (E' := E) (I' := I) (J' := J) (S' := S) am_e105 rfl rfl rfl rfl ?_
    refine w_st (i' := 14) (ls' := [.ref 85, d1, .int x2, .int x3]) (st' := [.int x3, .ref 86, .int x2]) (E' := E) (I' := I) (J' := J) (S' := S) am_e105 rfl rfl rfl rfl ?_
    have hf1 := h.1
    replace h := h.2
    refine w_ia (k := 86) (n := 9) (jn := x3.toNatClampNeg) am_e105 rfl rfl (by decide) hf1 rfl ?_
    refine w_st (i' := 16) (ls' := [.ref 85, d1, .int x2, .int x3]) (st' := [.int (nI 1), .int ((I 86) x3.toNatClampNeg), .int x2]) (E' := E) (I' := I) (J' := J) (S' := S) am_e105 rfl rfl rfl rfl ?_
    refine w_st (i' := 17) (ls' := [.ref 85, d1, .int x2, .int x3]) (st' := [.int (((I 86) x3.toNatClampNeg) - (nI 1)), .int x2]) (E' := E) (I' := I) (J' := J) (S' := S) am_e105 rfl rfl rfl rfl ?_
    refine w_st (i' := 18) (ls' := [.ref 85, d1, .int x2, .int x3]) (st' := [.ref 85, .int (((I 86) x3.toNatClampNeg) - (nI 1)), .int x2]) (E' := E) (I' := I) (J' := J) (S' := S) am_e105 rfl rfl rfl rfl ?_
    refine w_st (i' := 19) (ls' := [.ref 85, d1, .int x2, .int x3]) (st' := [.ref 86, .int (((I 86) x3.toNatClampNeg) - (nI 1)), .int x2]) (E' := E) (I' := I) (J' := J) (S' := S) am_e105 rfl rfl rfl rfl ?_
    refine w_st (i' := 20) (ls' := [.ref 85, d1, .int x2, .int x3]) (st' := [.int x3, .ref 86, .int (((I 86) x3.toNatClampNeg) - (nI 1)), .int x2]) (E' := E) (I' := I) (J' := J) (S' := S) am_e105 rfl rfl rfl rfl ?_
    refine w_st (i' := 21) (ls' := [.ref 85, d1, .int x2, .int x3]) (st' := [.int (nI 1), .int x3, .ref 86, .int (((I 86) x3.toNatClampNeg) - (nI 1)), .int x2]) (E' := E) (I' := I) (J' := J) (S' := S) am_e105 rfl rfl rfl rfl ?_
    refine w_st (i' := 22) (ls' := [.ref 85, d1, .int x2, .int x3]) (st' := [.int (x3 - (nI 1)), .ref 86, .int (((I 86) x3.toNatClampNeg) - (nI 1)), .int x2]) (E' := E) (I' := I) (J' := J) (S' := S) am_e105 rfl rfl rfl rfl ?_
    have hf2 := h.1
    replace h := h.2
    refine w_ia (k := 86) (n := 9) (jn := (x3 - (nI 1)).toNatClampNeg) am_e105 rfl rfl (by decide) hf2 rfl ?_
    refine w_st (i' := 24) (ls' := [.ref 85, d1, .int x2, .int x3]) (st' := [.int ((((I 86) x3.toNatClampNeg) - (nI 1)) - ((I 86) ((x3 - (nI 1)).toNatClampNeg))), .int x2]) (E' := E) (I' := I) (J' := J) (S' := S) am_e105 rfl rfl rfl rfl ?_
    refine w_st (i' := 25) (ls' := [.ref 85, d1, .int x2, .int x3]) (st' := [.int (if x2 < ((((I 86) x3.toNatClampNeg) - (nI 1)) - ((I 86) ((x3 - (nI 1)).toNatClampNeg))) then ((((I 86) x3.toNatClampNeg) - (nI 1)) - ((I 86) ((x3 - (nI 1)).toNatClampNeg))) else x2)]) (E' := E) (I' := I) (J' := J) (S' := S) am_e105 rfl rfl rfl rfl ?_
    refine w_st (i' := 26) (ls' := [.ref 85, d1, .int (if x2 < ((((I 86) x3.toNatClampNeg) - (nI 1)) - ((I 86) ((x3 - (nI 1)).toNatClampNeg))) then ((((I 86) x3.toNatClampNeg) - (nI 1)) - ((I 86) ((x3 - (nI 1)).toNatClampNeg))) else x2), .int x3]) (st' := []) (E' := E) (I' := I) (J' := J) (S' := S) am_e105 rfl rfl rfl (by simp [am_step, am_sto, hd1]) ?_
    refine w_var (fun w3 => am_ww 105 26 [.ref 85, d1, .int w3, .int x3] [] E I J S _) (if x2 < ((((I 86) x3.toNatClampNeg) - (nI 1)) - ((I 86) ((x3 - (nI 1)).toNatClampNeg))) then ((((I 86) x3.toNatClampNeg) - (nI 1)) - ((I 86) ((x3 - (nI 1)).toNatClampNeg))) else x2) (fun w3 hw3 => ?_)
    replace h := h w3 hw3
    refine w_st (i' := 27) (ls' := [.ref 85, d1, .int w3, .int (x3 + nI 1)]) (st' := []) (E' := E) (I' := I) (J' := J) (S' := S) am_e105 rfl rfl rfl rfl ?_
    refine w_st (i' := 6) (ls' := [.ref 85, d1, .int w3, .int (x3 + nI 1)]) (st' := []) (E' := E) (I' := I) (J' := J) (S' := S) am_e105 rfl rfl rfl rfl ?_
    exact h
-- 147 clear
theorem g147_0  {E : am_Ev} {I : Nat → Nat → Int32} {J : Nat → Nat → Int64} {S : Nat → Nat → Option Nat} {Q : am_Qt}  (h : am_cl 13 [.ref 88, .int (-1)] E I J S (q_V fun E1 I1 J1 S1 => Q (.inl none) E1 I1 J1 S1)) : am_ww 147 0 [.ref 87] [] E I J S Q := by
  refine w_st (i' := 1) (ls' := [.ref 87]) (st' := [.ref 87]) (E' := E) (I' := I) (J' := J) (S' := S) am_e147 rfl rfl rfl rfl ?_
  refine w_st (i' := 2) (ls' := [.ref 87]) (st' := [.ref 88]) (E' := E) (I' := I) (J' := J) (S' := S) am_e147 rfl rfl rfl rfl ?_
  refine w_st (i' := 3) (ls' := [.ref 87]) (st' := [.int (-1), .ref 88]) (E' := E) (I' := I) (J' := J) (S' := S) am_e147 rfl rfl rfl rfl ?_
  refine w_cV am_e147 rfl rfl (as := [.ref 88, .int (-1)]) (rest := []) rfl rfl (am_ww.mono h ?_)
  rintro _ E1 I1 J1 S1 ⟨rfl, h⟩
  refine q_mkV ?_
  exact w_end am_e147 rfl rfl rfl h
-- 150 see
theorem g150_0 {p2 : Int32} {E : am_Ev} {I : Nat → Nat → Int32} {J : Nat → Nat → Int64} {S : Nat → Nat → Option Nat} {Q : am_Qt}  (h : vp_in ((p2 * (nI 3)) + (nI 0)) 192 ∧ (∀ w2 : Int32, w2 = ((I 14) (((p2 * (nI 3)) + (nI 0)).toNatClampNeg)) → (vp_in p2 64 ∧ ((((I 13) p2.toNatClampNeg) = (nI 13) → (vp_in w2 4 ∧ (Q (.inl none) E (u_I I 88 (upd (I 88) w2.toNatClampNeg (p2 / (nI 16)))) J S))) ∧ (¬ ((I 13) p2.toNatClampNeg) = (nI 13) → (am_cl 149 [.ref 87, .ref 12, .int p2] E I J S (q_I fun v4 E4 I4 J4 S4 => (v4 = 0 → (Q (.inl none) E4 I4 J4 S4)) ∧ (¬ v4 = 0 → (vp_in w2 4 ∧ (Q (.inl none) E4 (u_I I4 88 (upd (I4 88) w2.toNatClampNeg (-1))) J4 S4)))))))))) : am_ww 150 0 [.ref 87, .ref 12, .int p2, am_U, am_U] [] E I J S Q := by
  refine w_st (i' := 1) (ls' := [.ref 87, .ref 12, .int p2, am_U, am_U]) (st' := [.ref 12]) (E' := E) (I' := I) (J' := J) (S' := S) am_e150 rfl rfl rfl rfl ?_
  refine w_st (i' := 2) (ls' := [.ref 87, .ref 12, .int p2, am_U, am_U]) (st' := [.int p2, .ref 12]) (E' := E) (I' := I) (J' := J) (S' := S) am_e150 rfl rfl rfl rfl ?_
  refine w_st (i' := 3) (ls' := [.ref 87, .ref 12, .int p2, am_U, am_U]) (st' := [.int (nI 0), .int p2, .ref 12]) (E' := E) (I' := I) (J' := J) (S' := S) am_e150 rfl rfl rfl rfl ?_
  refine w_cI am_e150 rfl rfl (as := [.ref 12, .int p2, .int (nI 0)]) (rest := []) rfl rfl ?_
  show am_ww 26 0 [.ref 12, .int p2, .int (nI 0)] [] E I J S _
  refine w_st (i' := 1) (ls' := [.ref 12, .int p2, .int (nI 0)]) (st' := [.ref 12]) (E' := E) (I' := I) (J' := J) (S' := S) am_e26 rfl rfl rfl rfl ?_
  refine w_st (i' := 2) (ls' := [.ref 12, .int p2, .int (nI 0)]) (st' := [.ref 14]) (E' := E) (I' := I) (J' := J) (S' := S) am_e26 rfl rfl rfl rfl ?_
  refine w_st (i' := 3) (ls' := [.ref 12, .int p2, .int (nI 0)]) (st' := [.int p2, .ref 14]) (E' := E) (I' := I) (J' := J) (S' := S) am_e26 rfl rfl rfl rfl ?_
  refine w_st (i' := 4) (ls' := [.ref 12, .int p2, .int (nI 0)]) (st' := [.int (nI 3), .int p2, .ref 14]) (E' := E) (I' := I) (J' := J) (S' := S) am_e26 rfl rfl rfl rfl ?_
  refine w_st (i' := 5) (ls' := [.ref 12, .int p2, .int (nI 0)]) (st' := [.int (p2 * (nI 3)), .ref 14]) (E' := E) (I' := I) (J' := J) (S' := S) am_e26 rfl rfl rfl rfl ?_
  refine w_st (i' := 6) (ls' := [.ref 12, .int p2, .int (nI 0)]) (st' := [.int (nI 0), .int (p2 * (nI 3)), .ref 14]) (E' := E) (I' := I) (J' := J) (S' := S) am_e26 rfl rfl rfl rfl ?_
  refine w_st (i' := 7) (ls' := [.ref 12, .int p2, .int (nI 0)]) (st' := [.int ((p2 * (nI 3)) + (nI 0)), .ref 14]) (E' := E) (I' := I) (J' := J) (S' := S) am_e26 rfl rfl rfl rfl ?_
  have hf1 := h.1
  replace h := h.2
  refine w_ia (k := 14) (n := 192) (jn := ((p2 * (nI 3)) + (nI 0)).toNatClampNeg) am_e26 rfl rfl (by decide) hf1 rfl ?_
  refine w_ri am_e26 rfl rfl (q_mkI ?_)
  show am_ww 150 4 [.ref 87, .ref 12, .int p2, am_U, am_U] [.int ((I 14) (((p2 * (nI 3)) + (nI 0)).toNatClampNeg))] E I J S _
  refine w_var (fun w2 => am_ww 150 4 [.ref 87, .ref 12, .int p2, am_U, am_U] [.int w2] E I J S _) ((I 14) (((p2 * (nI 3)) + (nI 0)).toNatClampNeg)) (fun w2 hw2 => ?_)
  replace h := h w2 hw2
  refine w_st (i' := 5) (ls' := [.ref 87, .ref 12, .int p2, .int w2, am_U]) (st' := []) (E' := E) (I' := I) (J' := J) (S' := S) am_e150 rfl rfl rfl rfl ?_
  refine w_st (i' := 6) (ls' := [.ref 87, .ref 12, .int p2, .int w2, am_U]) (st' := [.int p2]) (E' := E) (I' := I) (J' := J) (S' := S) am_e150 rfl rfl rfl rfl ?_
  refine w_st (i' := 7) (ls' := [.ref 87, .ref 12, .int p2, .int w2, am_U]) (st' := [.int (nI 16), .int p2]) (E' := E) (I' := I) (J' := J) (S' := S) am_e150 rfl rfl rfl rfl ?_
  refine w_dv (by decide) am_e150 rfl ?_
  refine w_st (i' := 9) (ls' := [.ref 87, .ref 12, .int p2, .int w2, .int (p2 / (nI 16))]) (st' := []) (E' := E) (I' := I) (J' := J) (S' := S) am_e150 rfl rfl rfl rfl ?_
  refine w_st (i' := 10) (ls' := [.ref 87, .ref 12, .int p2, .int w2, .int (p2 / (nI 16))]) (st' := [.ref 12]) (E' := E) (I' := I) (J' := J) (S' := S) am_e150 rfl rfl rfl rfl ?_
  refine w_st (i' := 11) (ls' := [.ref 87, .ref 12, .int p2, .int w2, .int (p2 / (nI 16))]) (st' := [.ref 13]) (E' := E) (I' := I) (J' := J) (S' := S) am_e150 rfl rfl rfl rfl ?_
  refine w_st (i' := 12) (ls' := [.ref 87, .ref 12, .int p2, .int w2, .int (p2 / (nI 16))]) (st' := [.int p2, .ref 13]) (E' := E) (I' := I) (J' := J) (S' := S) am_e150 rfl rfl rfl rfl ?_
  have hf3 := h.1
  replace h := h.2
  refine w_ia (k := 13) (n := 64) (jn := p2.toNatClampNeg) am_e150 rfl rfl (by decide) hf3 rfl ?_
  refine w_st (i' := 14) (ls' := [.ref 87, .ref 12, .int p2, .int w2, .int (p2 / (nI 16))]) (st' := [.int (nI 13), .int ((I 13) p2.toNatClampNeg)]) (E' := E) (I' := I) (J' := J) (S' := S) am_e150 rfl rfl rfl rfl ?_
  refine w_if2 am_e150 rfl rfl (fun c => ?_) (fun c => ?_)
  · replace h := h.2 (of_decide_eq_true c)
    refine w_st (i' := 22) (ls' := [.ref 87, .ref 12, .int p2, .int w2, .int (p2 / (nI 16))]) (st' := [.ref 87]) (E' := E) (I' := I) (J' := J) (S' := S) am_e150 rfl rfl rfl rfl ?_
    refine w_st (i' := 23) (ls' := [.ref 87, .ref 12, .int p2, .int w2, .int (p2 / (nI 16))]) (st' := [.ref 12, .ref 87]) (E' := E) (I' := I) (J' := J) (S' := S) am_e150 rfl rfl rfl rfl ?_
    refine w_st (i' := 24) (ls' := [.ref 87, .ref 12, .int p2, .int w2, .int (p2 / (nI 16))]) (st' := [.int p2, .ref 12, .ref 87]) (E' := E) (I' := I) (J' := J) (S' := S) am_e150 rfl rfl rfl rfl ?_
    refine w_cI am_e150 rfl rfl (as := [.ref 87, .ref 12, .int p2]) (rest := []) rfl rfl (am_ww.mono h ?_)
    rintro _ E4 I4 J4 S4 ⟨v4, rfl, h⟩
    refine q_mkI ?_
    refine w_if1 am_e150 rfl rfl (fun c => ?_) (fun c => ?_)
    · replace h := h.1 (of_decide_eq_true c)
      exact w_end am_e150 rfl rfl rfl h
    · replace h := h.2 (of_decide_eq_false c)
      refine w_st (i' := 27) (ls' := [.ref 87, .ref 12, .int p2, .int w2, .int (p2 / (nI 16))]) (st' := [.ref 87]) (E' := E4) (I' := I4) (J' := J4) (S' := S4) am_e150 rfl rfl rfl rfl ?_
      refine w_st (i' := 28) (ls' := [.ref 87, .ref 12, .int p2, .int w2, .int (p2 / (nI 16))]) (st' := [.ref 88]) (E' := E4) (I' := I4) (J' := J4) (S' := S4) am_e150 rfl rfl rfl rfl ?_
      refine w_st (i' := 29) (ls' := [.ref 87, .ref 12, .int p2, .int w2, .int (p2 / (nI 16))]) (st' := [.int w2, .ref 88]) (E' := E4) (I' := I4) (J' := J4) (S' := S4) am_e150 rfl rfl rfl rfl ?_
      refine w_st (i' := 30) (ls' := [.ref 87, .ref 12, .int p2, .int w2, .int (p2 / (nI 16))]) (st' := [.int (-1), .int w2, .ref 88]) (E' := E4) (I' := I4) (J' := J4) (S' := S4) am_e150 rfl rfl rfl rfl ?_
      have hf5 := h.1
      replace h := h.2
      refine w_is (k := 88) (n := 4) (jn := w2.toNatClampNeg) am_e150 rfl rfl (by decide) hf5 rfl ?_
      show am_ww 150 31 [.ref 87, .ref 12, .int p2, .int w2, .int (p2 / (nI 16))] [] E4 (u_I I4 88 (upd (I4 88) w2.toNatClampNeg (-1))) J4 S4 _
      exact w_end am_e150 rfl rfl rfl h
  · replace h := h.1 (Decidable.not_not.mp (of_decide_eq_false c))
    refine w_st (i' := 16) (ls' := [.ref 87, .ref 12, .int p2, .int w2, .int (p2 / (nI 16))]) (st' := [.ref 87]) (E' := E) (I' := I) (J' := J) (S' := S) am_e150 rfl rfl rfl rfl ?_
    refine w_st (i' := 17) (ls' := [.ref 87, .ref 12, .int p2, .int w2, .int (p2 / (nI 16))]) (st' := [.ref 88]) (E' := E) (I' := I) (J' := J) (S' := S) am_e150 rfl rfl rfl rfl ?_
    refine w_st (i' := 18) (ls' := [.ref 87, .ref 12, .int p2, .int w2, .int (p2 / (nI 16))]) (st' := [.int w2, .ref 88]) (E' := E) (I' := I) (J' := J) (S' := S) am_e150 rfl rfl rfl rfl ?_
    refine w_st (i' := 19) (ls' := [.ref 87, .ref 12, .int p2, .int w2, .int (p2 / (nI 16))]) (st' := [.int (p2 / (nI 16)), .int w2, .ref 88]) (E' := E) (I' := I) (J' := J) (S' := S) am_e150 rfl rfl rfl rfl ?_
    have hf6 := h.1
    replace h := h.2
    refine w_is (k := 88) (n := 4) (jn := w2.toNatClampNeg) am_e150 rfl rfl (by decide) hf6 rfl ?_
    show am_ww 150 20 [.ref 87, .ref 12, .int p2, .int w2, .int (p2 / (nI 16))] [] E (u_I I 88 (upd (I 88) w2.toNatClampNeg (p2 / (nI 16)))) J S _
    refine w_st (i' := 31) (ls' := [.ref 87, .ref 12, .int p2, .int w2, .int (p2 / (nI 16))]) (st' := []) (E' := E) (I' := (u_I I 88 (upd (I 88) w2.toNatClampNeg (p2 / (nI 16))))) (J' := J) (S' := S) am_e150 rfl rfl rfl rfl ?_
    exact w_end am_e150 rfl rfl rfl h
-- 149 isRelease
theorem g149_0 {p2 : Int32} {E : am_Ev} {I : Nat → Nat → Int32} {J : Nat → Nat → Int64} {S : Nat → Nat → Option Nat} {Q : am_Qt}  (h : vp_in p2 64 ∧ ((((I 13) p2.toNatClampNeg) = (nI 14) → (vp_in ((p2 * (nI 3)) + (nI 0)) 192 ∧ (∀ w3 : Int32, w3 = ((I 14) (((p2 * (nI 3)) + (nI 0)).toNatClampNeg)) → (vp_in w3 4 ∧ ((((I 88) w3.toNatClampNeg) = (p2 / (nI 16)) → (Q (.inl (some (.int (nI 1)))) E I J S)) ∧ (¬ ((I 88) w3.toNatClampNeg) = (p2 / (nI 16)) → (Q (.inl (some (.int (nI 0)))) E I J S))))))) ∧ (¬ ((I 13) p2.toNatClampNeg) = (nI 14) → (Q (.inl (some (.int (nI 0)))) E I J S)))) : am_ww 149 0 [.ref 87, .ref 12, .int p2] [] E I J S Q := by
  refine w_st (i' := 1) (ls' := [.ref 87, .ref 12, .int p2]) (st' := [.ref 12]) (E' := E) (I' := I) (J' := J) (S' := S) am_e149 rfl rfl rfl rfl ?_
  refine w_st (i' := 2) (ls' := [.ref 87, .ref 12, .int p2]) (st' := [.ref 13]) (E' := E) (I' := I) (J' := J) (S' := S) am_e149 rfl rfl rfl rfl ?_
  refine w_st (i' := 3) (ls' := [.ref 87, .ref 12, .int p2]) (st' := [.int p2, .ref 13]) (E' := E) (I' := I) (J' := J) (S' := S) am_e149 rfl rfl rfl rfl ?_
  have hf1 := h.1
  replace h := h.2
  refine w_ia (k := 13) (n := 64) (jn := p2.toNatClampNeg) am_e149 rfl rfl (by decide) hf1 rfl ?_
  refine w_st (i' := 5) (ls' := [.ref 87, .ref 12, .int p2]) (st' := [.int (nI 14), .int ((I 13) p2.toNatClampNeg)]) (E' := E) (I' := I) (J' := J) (S' := S) am_e149 rfl rfl rfl rfl ?_
  refine w_if2 am_e149 rfl rfl (fun c => ?_) (fun c => ?_)
  · replace h := h.2 (of_decide_eq_true c)
    refine w_st (i' := 20) (ls' := [.ref 87, .ref 12, .int p2]) (st' := [.int (nI 0)]) (E' := E) (I' := I) (J' := J) (S' := S) am_e149 rfl rfl rfl rfl ?_
    exact w_end am_e149 rfl rfl rfl h
  · replace h := h.1 (Decidable.not_not.mp (of_decide_eq_false c))
    refine w_st (i' := 7) (ls' := [.ref 87, .ref 12, .int p2]) (st' := [.ref 87]) (E' := E) (I' := I) (J' := J) (S' := S) am_e149 rfl rfl rfl rfl ?_
    refine w_st (i' := 8) (ls' := [.ref 87, .ref 12, .int p2]) (st' := [.ref 88]) (E' := E) (I' := I) (J' := J) (S' := S) am_e149 rfl rfl rfl rfl ?_
    refine w_st (i' := 9) (ls' := [.ref 87, .ref 12, .int p2]) (st' := [.ref 12, .ref 88]) (E' := E) (I' := I) (J' := J) (S' := S) am_e149 rfl rfl rfl rfl ?_
    refine w_st (i' := 10) (ls' := [.ref 87, .ref 12, .int p2]) (st' := [.int p2, .ref 12, .ref 88]) (E' := E) (I' := I) (J' := J) (S' := S) am_e149 rfl rfl rfl rfl ?_
    refine w_st (i' := 11) (ls' := [.ref 87, .ref 12, .int p2]) (st' := [.int (nI 0), .int p2, .ref 12, .ref 88]) (E' := E) (I' := I) (J' := J) (S' := S) am_e149 rfl rfl rfl rfl ?_
    refine w_cI am_e149 rfl rfl (as := [.ref 12, .int p2, .int (nI 0)]) (rest := [.ref 88]) rfl rfl ?_
    show am_ww 26 0 [.ref 12, .int p2, .int (nI 0)] [] E I J S _
    refine w_st (i' := 1) (ls' := [.ref 12, .int p2, .int (nI 0)]) (st' := [.ref 12]) (E' := E) (I' := I) (J' := J) (S' := S) am_e26 rfl rfl rfl rfl ?_
    refine w_st (i' := 2) (ls' := [.ref 12, .int p2, .int (nI 0)]) (st' := [.ref 14]) (E' := E) (I' := I) (J' := J) (S' := S) am_e26 rfl rfl rfl rfl ?_
    refine w_st (i' := 3) (ls' := [.ref 12, .int p2, .int (nI 0)]) (st' := [.int p2, .ref 14]) (E' := E) (I' := I) (J' := J) (S' := S) am_e26 rfl rfl rfl rfl ?_
    refine w_st (i' := 4) (ls' := [.ref 12, .int p2, .int (nI 0)]) (st' := [.int (nI 3), .int p2, .ref 14]) (E' := E) (I' := I) (J' := J) (S' := S) am_e26 rfl rfl rfl rfl ?_
    refine w_st (i' := 5) (ls' := [.ref 12, .int p2, .int (nI 0)]) (st' := [.int (p2 * (nI 3)), .ref 14]) (E' := E) (I' := I) (J' := J) (S' := S) am_e26 rfl rfl rfl rfl ?_
    refine w_st (i' := 6) (ls' := [.ref 12, .int p2, .int (nI 0)]) (st' := [.int (nI 0), .int (p2 * (nI 3)), .ref 14]) (E' := E) (I' := I) (J' := J) (S' := S) am_e26 rfl rfl rfl rfl ?_
    refine w_st (i' := 7) (ls' := [.ref 12, .int p2, .int (nI 0)]) (st' := [.int ((p2 * (nI 3)) + (nI 0)), .ref 14]) (E' := E) (I' := I) (J' := J) (S' := S) am_e26 rfl rfl rfl rfl ?_
    have hf2 := h.1
    replace h := h.2
    refine w_ia (k := 14) (n := 192) (jn := ((p2 * (nI 3)) + (nI 0)).toNatClampNeg) am_e26 rfl rfl (by decide) hf2 rfl ?_
    refine w_ri am_e26 rfl rfl (q_mkI ?_)
    show am_ww 149 12 [.ref 87, .ref 12, .int p2] [.int ((I 14) (((p2 * (nI 3)) + (nI 0)).toNatClampNeg)), .ref 88] E I J S _
    refine w_var (fun w3 => am_ww 149 12 [.ref 87, .ref 12, .int p2] [.int w3, .ref 88] E I J S _) ((I 14) (((p2 * (nI 3)) + (nI 0)).toNatClampNeg)) (fun w3 hw3 => ?_)
    replace h := h w3 hw3
    have hf4 := h.1
    replace h := h.2
    refine w_ia (k := 88) (n := 4) (jn := w3.toNatClampNeg) am_e149 rfl rfl (by decide) hf4 rfl ?_
    refine w_st (i' := 14) (ls' := [.ref 87, .ref 12, .int p2]) (st' := [.int p2, .int ((I 88) w3.toNatClampNeg)]) (E' := E) (I' := I) (J' := J) (S' := S) am_e149 rfl rfl rfl rfl ?_
    refine w_st (i' := 15) (ls' := [.ref 87, .ref 12, .int p2]) (st' := [.int (nI 16), .int p2, .int ((I 88) w3.toNatClampNeg)]) (E' := E) (I' := I) (J' := J) (S' := S) am_e149 rfl rfl rfl rfl ?_
    refine w_dv (by decide) am_e149 rfl ?_
    refine w_if2 am_e149 rfl rfl (fun c => ?_) (fun c => ?_)
    · replace h := h.2 (of_decide_eq_true c)
      refine w_st (i' := 20) (ls' := [.ref 87, .ref 12, .int p2]) (st' := [.int (nI 0)]) (E' := E) (I' := I) (J' := J) (S' := S) am_e149 rfl rfl rfl rfl ?_
      exact w_end am_e149 rfl rfl rfl h
    · replace h := h.1 (Decidable.not_not.mp (of_decide_eq_false c))
      refine w_st (i' := 18) (ls' := [.ref 87, .ref 12, .int p2]) (st' := [.int (nI 1)]) (E' := E) (I' := I) (J' := J) (S' := S) am_e149 rfl rfl rfl rfl ?_
      refine w_st (i' := 20) (ls' := [.ref 87, .ref 12, .int p2]) (st' := [.int (nI 1)]) (E' := E) (I' := I) (J' := J) (S' := S) am_e149 rfl rfl rfl rfl ?_
      exact w_end am_e149 rfl rfl rfl h
-- 162 heldBy
theorem g162_0 {p1 : Int32} {E : am_Ev} {I : Nat → Nat → Int32} {J : Nat → Nat → Int64} {S : Nat → Nat → Option Nat} {Q : am_Qt}  (h : am_ww 162 4 [.ref 87, .int p1, .int (nI 0), .int (nI 0)] [] E I J S Q) : am_ww 162 0 [.ref 87, .int p1, am_U, am_U] [] E I J S Q := by
  refine w_st (i' := 1) (ls' := [.ref 87, .int p1, am_U, am_U]) (st' := [.int (nI 0)]) (E' := E) (I' := I) (J' := J) (S' := S) am_e162 rfl rfl rfl rfl ?_
  refine w_st (i' := 2) (ls' := [.ref 87, .int p1, .int (nI 0), am_U]) (st' := []) (E' := E) (I' := I) (J' := J) (S' := S) am_e162 rfl rfl rfl rfl ?_
  refine w_st (i' := 3) (ls' := [.ref 87, .int p1, .int (nI 0), am_U]) (st' := [.int (nI 0)]) (E' := E) (I' := I) (J' := J) (S' := S) am_e162 rfl rfl rfl rfl ?_
  refine w_st (i' := 4) (ls' := [.ref 87, .int p1, .int (nI 0), .int (nI 0)]) (st' := []) (E' := E) (I' := I) (J' := J) (S' := S) am_e162 rfl rfl rfl rfl ?_
  exact h
theorem g162_4 {x1 : Int32} {x2 : Int32} {x3 : Int32} {E : am_Ev} {I : Nat → Nat → Int32} {J : Nat → Nat → Int64} {S : Nat → Nat → Option Nat} {Q : am_Qt}  (h : ((nI 4) ≤ x3 → (Q (.inl (some (.int x2))) E I J S)) ∧ (¬ (nI 4) ≤ x3 → (vp_in x3 4 ∧ (∀ w3 : Int32, w3 = (if ((I 88) x3.toNatClampNeg) = x1 then (x2 ||| ((nI 1) <<< (x3 &&& 31))) else x2) → (am_ww 162 4 [.ref 87, .int x1, .int w3, .int (x3 + nI 1)] [] E I J S Q))))) : am_ww 162 4 [.ref 87, .int x1, .int x2, .int x3] [] E I J S Q := by
  refine w_st (i' := 5) (ls' := [.ref 87, .int x1, .int x2, .int x3]) (st' := [.int x3]) (E' := E) (I' := I) (J' := J) (S' := S) am_e162 rfl rfl rfl rfl ?_
  refine w_st (i' := 6) (ls' := [.ref 87, .int x1, .int x2, .int x3]) (st' := [.int (nI 4), .int x3]) (E' := E) (I' := I) (J' := J) (S' := S) am_e162 rfl rfl rfl rfl ?_
  refine w_if2 am_e162 rfl rfl (fun c => ?_) (fun c => ?_)
  · replace h := h.1 (of_decide_eq_true c)
    refine w_st (i' := 22) (ls' := [.ref 87, .int x1, .int x2, .int x3]) (st' := [.int x2]) (E' := E) (I' := I) (J' := J) (S' := S) am_e162 rfl rfl rfl rfl ?_
    exact w_ri am_e162 rfl rfl h
  · replace h := h.2 (of_decide_eq_false c)
    refine w_st (i' := 8) (ls' := [.ref 87, .int x1, .int x2, .int x3]) (st' := [.ref 87]) (E' := E) (I' := I) (J' := J) (S' := S) am_e162 rfl rfl rfl rfl ?_
    refine w_st (i' := 9) (ls' := [.ref 87, .int x1, .int x2, .int x3]) (st' := [.ref 88]) (E' := E) (I' := I) (J' := J) (S' := S) am_e162 rfl rfl rfl rfl ?_
    refine w_st (i' := 10) (ls' := [.ref 87, .int x1, .int x2, .int x3]) (st' := [.int x3, .ref 88]) (E' := E) (I' := I) (J' := J) (S' := S) am_e162 rfl rfl rfl rfl ?_
    have hf1 := h.1
    replace h := h.2
    refine w_ia (k := 88) (n := 4) (jn := x3.toNatClampNeg) am_e162 rfl rfl (by decide) hf1 rfl ?_
    refine w_st (i' := 12) (ls' := [.ref 87, .int x1, .int x2, .int x3]) (st' := [.int x1, .int ((I 88) x3.toNatClampNeg)]) (E' := E) (I' := I) (J' := J) (S' := S) am_e162 rfl rfl rfl rfl ?_
    refine w_mg (i := 19) (ls' := [.ref 87, .int x1, .int (if ((I 88) x3.toNatClampNeg) = x1 then (x2 ||| ((nI 1) <<< (x3 &&& 31))) else x2), .int x3]) (st' := []) (fun hm => ?_) ?_
    · clear h
      refine w_if2 am_e162 rfl rfl (fun c => ?_) (fun c => ?_)
      · have m2 : ¬ (((I 88) x3.toNatClampNeg) = x1) := (of_decide_eq_true c)
        first | exact hm | (simp only [if_neg m2] at hm; exact hm)
      · have m2 : ((I 88) x3.toNatClampNeg) = x1 := (Decidable.not_not.mp (of_decide_eq_false c))
        refine w_st (i' := 14) (ls' := [.ref 87, .int x1, .int x2, .int x3]) (st' := [.int x2]) (E' := E) (I' := I) (J' := J) (S' := S) am_e162 rfl rfl rfl rfl ?_
        refine w_st (i' := 15) (ls' := [.ref 87, .int x1, .int x2, .int x3]) (st' := [.int (nI 1), .int x2]) (E' := E) (I' := I) (J' := J) (S' := S) am_e162 rfl rfl rfl rfl ?_
        refine w_st (i' := 16) (ls' := [.ref 87, .int x1, .int x2, .int x3]) (st' := [.int x3, .int (nI 1), .int x2]) (E' := E) (I' := I) (J' := J) (S' := S) am_e162 rfl rfl rfl rfl ?_
        refine w_st (i' := 17) (ls' := [.ref 87, .int x1, .int x2, .int x3]) (st' := [.int ((nI 1) <<< (x3 &&& 31)), .int x2]) (E' := E) (I' := I) (J' := J) (S' := S) am_e162 rfl rfl rfl rfl ?_
        refine w_st (i' := 18) (ls' := [.ref 87, .int x1, .int x2, .int x3]) (st' := [.int (x2 ||| ((nI 1) <<< (x3 &&& 31)))]) (E' := E) (I' := I) (J' := J) (S' := S) am_e162 rfl rfl rfl rfl ?_
        refine w_st (i' := 19) (ls' := [.ref 87, .int x1, .int (x2 ||| ((nI 1) <<< (x3 &&& 31))), .int x3]) (st' := []) (E' := E) (I' := I) (J' := J) (S' := S) am_e162 rfl rfl rfl rfl ?_
        first | exact hm | (simp only [if_pos m2] at hm; exact hm)
    refine w_var (fun w3 => am_ww 162 19 [.ref 87, .int x1, .int w3, .int x3] [] E I J S _) (if ((I 88) x3.toNatClampNeg) = x1 then (x2 ||| ((nI 1) <<< (x3 &&& 31))) else x2) (fun w3 hw3 => ?_)
    replace h := h w3 hw3
    refine w_st (i' := 20) (ls' := [.ref 87, .int x1, .int w3, .int (x3 + nI 1)]) (st' := []) (E' := E) (I' := I) (J' := J) (S' := S) am_e162 rfl rfl rfl rfl ?_
    refine w_st (i' := 4) (ls' := [.ref 87, .int x1, .int w3, .int (x3 + nI 1)]) (st' := []) (E' := E) (I' := I) (J' := J) (S' := S) am_e162 rfl rfl rfl rfl ?_
    exact h
-- 138 cellTouched
theorem g138_0 {p1 : Int32} {E : am_Ev} {I : Nat → Nat → Int32} {J : Nat → Nat → Int64} {S : Nat → Nat → Option Nat} {Q : am_Qt}  (h : vp_in p1 64 ∧ ((((I 13) p1.toNatClampNeg) = (nI 7) → (vp_in ((p1 * (nI 3)) + (nI 1)) 192 ∧ (∀ w5 : Int32, w5 = ((I 14) (((p1 * (nI 3)) + (nI 1)).toNatClampNeg)) → (Q (.inl (some (.int w5))) E I J S)))) ∧ (¬ ((I 13) p1.toNatClampNeg) = (nI 7) → ((((I 13) p1.toNatClampNeg) = (nI 8) → (vp_in ((p1 * (nI 3)) + (nI 0)) 192 ∧ (∀ w3 : Int32, w3 = ((I 14) (((p1 * (nI 3)) + (nI 0)).toNatClampNeg)) → (Q (.inl (some (.int w3))) E I J S)))) ∧ (¬ ((I 13) p1.toNatClampNeg) = (nI 8) → (Q (.inl (some (.int (-1)))) E I J S)))))) : am_ww 138 0 [.ref 12, .int p1] [] E I J S Q := by
  refine w_st (i' := 1) (ls' := [.ref 12, .int p1]) (st' := [.ref 12]) (E' := E) (I' := I) (J' := J) (S' := S) am_e138 rfl rfl rfl rfl ?_
  refine w_st (i' := 2) (ls' := [.ref 12, .int p1]) (st' := [.ref 13]) (E' := E) (I' := I) (J' := J) (S' := S) am_e138 rfl rfl rfl rfl ?_
  refine w_st (i' := 3) (ls' := [.ref 12, .int p1]) (st' := [.int p1, .ref 13]) (E' := E) (I' := I) (J' := J) (S' := S) am_e138 rfl rfl rfl rfl ?_
  have hf1 := h.1
  replace h := h.2
  refine w_ia (k := 13) (n := 64) (jn := p1.toNatClampNeg) am_e138 rfl rfl (by decide) hf1 rfl ?_
  refine w_st (i' := 5) (ls' := [.ref 12, .int p1]) (st' := [.int (nI 7), .int ((I 13) p1.toNatClampNeg)]) (E' := E) (I' := I) (J' := J) (S' := S) am_e138 rfl rfl rfl rfl ?_
  refine w_if2 am_e138 rfl rfl (fun c => ?_) (fun c => ?_)
  · replace h := h.2 (of_decide_eq_true c)
    refine w_st (i' := 12) (ls' := [.ref 12, .int p1]) (st' := [.ref 12]) (E' := E) (I' := I) (J' := J) (S' := S) am_e138 rfl rfl rfl rfl ?_
    refine w_st (i' := 13) (ls' := [.ref 12, .int p1]) (st' := [.ref 13]) (E' := E) (I' := I) (J' := J) (S' := S) am_e138 rfl rfl rfl rfl ?_
    refine w_st (i' := 14) (ls' := [.ref 12, .int p1]) (st' := [.int p1, .ref 13]) (E' := E) (I' := I) (J' := J) (S' := S) am_e138 rfl rfl rfl rfl ?_
    refine w_ia (k := 13) (n := 64) (jn := p1.toNatClampNeg) am_e138 rfl rfl (by decide) hf1 rfl ?_
    refine w_st (i' := 16) (ls' := [.ref 12, .int p1]) (st' := [.int (nI 8), .int ((I 13) p1.toNatClampNeg)]) (E' := E) (I' := I) (J' := J) (S' := S) am_e138 rfl rfl rfl rfl ?_
    refine w_if2 am_e138 rfl rfl (fun c => ?_) (fun c => ?_)
    · replace h := h.2 (of_decide_eq_true c)
      refine w_st (i' := 23) (ls' := [.ref 12, .int p1]) (st' := [.int (-1)]) (E' := E) (I' := I) (J' := J) (S' := S) am_e138 rfl rfl rfl rfl ?_
      exact w_end am_e138 rfl rfl rfl h
    · replace h := h.1 (Decidable.not_not.mp (of_decide_eq_false c))
      refine w_st (i' := 18) (ls' := [.ref 12, .int p1]) (st' := [.ref 12]) (E' := E) (I' := I) (J' := J) (S' := S) am_e138 rfl rfl rfl rfl ?_
      refine w_st (i' := 19) (ls' := [.ref 12, .int p1]) (st' := [.int p1, .ref 12]) (E' := E) (I' := I) (J' := J) (S' := S) am_e138 rfl rfl rfl rfl ?_
      refine w_st (i' := 20) (ls' := [.ref 12, .int p1]) (st' := [.int (nI 0), .int p1, .ref 12]) (E' := E) (I' := I) (J' := J) (S' := S) am_e138 rfl rfl rfl rfl ?_
      refine w_cI am_e138 rfl rfl (as := [.ref 12, .int p1, .int (nI 0)]) (rest := []) rfl rfl ?_
      show am_ww 26 0 [.ref 12, .int p1, .int (nI 0)] [] E I J S _
      refine w_st (i' := 1) (ls' := [.ref 12, .int p1, .int (nI 0)]) (st' := [.ref 12]) (E' := E) (I' := I) (J' := J) (S' := S) am_e26 rfl rfl rfl rfl ?_
      refine w_st (i' := 2) (ls' := [.ref 12, .int p1, .int (nI 0)]) (st' := [.ref 14]) (E' := E) (I' := I) (J' := J) (S' := S) am_e26 rfl rfl rfl rfl ?_
      refine w_st (i' := 3) (ls' := [.ref 12, .int p1, .int (nI 0)]) (st' := [.int p1, .ref 14]) (E' := E) (I' := I) (J' := J) (S' := S) am_e26 rfl rfl rfl rfl ?_
      refine w_st (i' := 4) (ls' := [.ref 12, .int p1, .int (nI 0)]) (st' := [.int (nI 3), .int p1, .ref 14]) (E' := E) (I' := I) (J' := J) (S' := S) am_e26 rfl rfl rfl rfl ?_
      refine w_st (i' := 5) (ls' := [.ref 12, .int p1, .int (nI 0)]) (st' := [.int (p1 * (nI 3)), .ref 14]) (E' := E) (I' := I) (J' := J) (S' := S) am_e26 rfl rfl rfl rfl ?_
      refine w_st (i' := 6) (ls' := [.ref 12, .int p1, .int (nI 0)]) (st' := [.int (nI 0), .int (p1 * (nI 3)), .ref 14]) (E' := E) (I' := I) (J' := J) (S' := S) am_e26 rfl rfl rfl rfl ?_
      refine w_st (i' := 7) (ls' := [.ref 12, .int p1, .int (nI 0)]) (st' := [.int ((p1 * (nI 3)) + (nI 0)), .ref 14]) (E' := E) (I' := I) (J' := J) (S' := S) am_e26 rfl rfl rfl rfl ?_
      have hf2 := h.1
      replace h := h.2
      refine w_ia (k := 14) (n := 192) (jn := ((p1 * (nI 3)) + (nI 0)).toNatClampNeg) am_e26 rfl rfl (by decide) hf2 rfl ?_
      refine w_ri am_e26 rfl rfl (q_mkI ?_)
      show am_ww 138 21 [.ref 12, .int p1] [.int ((I 14) (((p1 * (nI 3)) + (nI 0)).toNatClampNeg))] E I J S _
      refine w_var (fun w3 => am_ww 138 21 [.ref 12, .int p1] [.int w3] E I J S _) ((I 14) (((p1 * (nI 3)) + (nI 0)).toNatClampNeg)) (fun w3 hw3 => ?_)
      replace h := h w3 hw3
      refine w_st (i' := 23) (ls' := [.ref 12, .int p1]) (st' := [.int w3]) (E' := E) (I' := I) (J' := J) (S' := S) am_e138 rfl rfl rfl rfl ?_
      exact w_ri am_e138 rfl rfl h
  · replace h := h.1 (Decidable.not_not.mp (of_decide_eq_false c))
    refine w_st (i' := 7) (ls' := [.ref 12, .int p1]) (st' := [.ref 12]) (E' := E) (I' := I) (J' := J) (S' := S) am_e138 rfl rfl rfl rfl ?_
    refine w_st (i' := 8) (ls' := [.ref 12, .int p1]) (st' := [.int p1, .ref 12]) (E' := E) (I' := I) (J' := J) (S' := S) am_e138 rfl rfl rfl rfl ?_
    refine w_st (i' := 9) (ls' := [.ref 12, .int p1]) (st' := [.int (nI 1), .int p1, .ref 12]) (E' := E) (I' := I) (J' := J) (S' := S) am_e138 rfl rfl rfl rfl ?_
    refine w_cI am_e138 rfl rfl (as := [.ref 12, .int p1, .int (nI 1)]) (rest := []) rfl rfl ?_
    show am_ww 26 0 [.ref 12, .int p1, .int (nI 1)] [] E I J S _
    refine w_st (i' := 1) (ls' := [.ref 12, .int p1, .int (nI 1)]) (st' := [.ref 12]) (E' := E) (I' := I) (J' := J) (S' := S) am_e26 rfl rfl rfl rfl ?_
    refine w_st (i' := 2) (ls' := [.ref 12, .int p1, .int (nI 1)]) (st' := [.ref 14]) (E' := E) (I' := I) (J' := J) (S' := S) am_e26 rfl rfl rfl rfl ?_
    refine w_st (i' := 3) (ls' := [.ref 12, .int p1, .int (nI 1)]) (st' := [.int p1, .ref 14]) (E' := E) (I' := I) (J' := J) (S' := S) am_e26 rfl rfl rfl rfl ?_
    refine w_st (i' := 4) (ls' := [.ref 12, .int p1, .int (nI 1)]) (st' := [.int (nI 3), .int p1, .ref 14]) (E' := E) (I' := I) (J' := J) (S' := S) am_e26 rfl rfl rfl rfl ?_
    refine w_st (i' := 5) (ls' := [.ref 12, .int p1, .int (nI 1)]) (st' := [.int (p1 * (nI 3)), .ref 14]) (E' := E) (I' := I) (J' := J) (S' := S) am_e26 rfl rfl rfl rfl ?_
    refine w_st (i' := 6) (ls' := [.ref 12, .int p1, .int (nI 1)]) (st' := [.int (nI 1), .int (p1 * (nI 3)), .ref 14]) (E' := E) (I' := I) (J' := J) (S' := S) am_e26 rfl rfl rfl rfl ?_
    refine w_st (i' := 7) (ls' := [.ref 12, .int p1, .int (nI 1)]) (st' := [.int ((p1 * (nI 3)) + (nI 1)), .ref 14]) (E' := E) (I' := I) (J' := J) (S' := S) am_e26 rfl rfl rfl rfl ?_
    have hf4 := h.1
    replace h := h.2
    refine w_ia (k := 14) (n := 192) (jn := ((p1 * (nI 3)) + (nI 1)).toNatClampNeg) am_e26 rfl rfl (by decide) hf4 rfl ?_
    refine w_ri am_e26 rfl rfl (q_mkI ?_)
    show am_ww 138 10 [.ref 12, .int p1] [.int ((I 14) (((p1 * (nI 3)) + (nI 1)).toNatClampNeg))] E I J S _
    refine w_var (fun w5 => am_ww 138 10 [.ref 12, .int p1] [.int w5] E I J S _) ((I 14) (((p1 * (nI 3)) + (nI 1)).toNatClampNeg)) (fun w5 hw5 => ?_)
    replace h := h w5 hw5
    exact w_ri am_e138 rfl rfl h
-- 146 clear
theorem g146_0  {E : am_Ev} {I : Nat → Nat → Int32} {J : Nat → Nat → Int64} {S : Nat → Nat → Option Nat} {Q : am_Qt}  (h : am_cl 13 [.ref 90, .int (nI 0)] E I J S (q_V fun E1 I1 J1 S1 => am_cl 13 [.ref 93, .int (nI 0)] E1 I1 J1 S1 (q_V fun E2 I2 J2 S2 => am_cl 13 [.ref 94, .int (nI 0)] E2 I2 J2 S2 (q_V fun E3 I3 J3 S3 => am_cl 62 [.ref 95, .long (lN 0)] E3 I3 J3 S3 (q_V fun E4 I4 J4 S4 => Q (.inl none) E4 (u_I I4 89 (upd (upd (I4 89) 6 (nI 0)) 7 (nI 0))) J4 S4))))) : am_ww 146 0 [.ref 89] [] E I J S Q := by
  refine w_st (i' := 1) (ls' := [.ref 89]) (st' := [.ref 89]) (E' := E) (I' := I) (J' := J) (S' := S) am_e146 rfl rfl rfl rfl ?_
  refine w_st (i' := 2) (ls' := [.ref 89]) (st' := [.ref 90]) (E' := E) (I' := I) (J' := J) (S' := S) am_e146 rfl rfl rfl rfl ?_
  refine w_st (i' := 3) (ls' := [.ref 89]) (st' := [.int (nI 0), .ref 90]) (E' := E) (I' := I) (J' := J) (S' := S) am_e146 rfl rfl rfl rfl ?_
  refine w_cV am_e146 rfl rfl (as := [.ref 90, .int (nI 0)]) (rest := []) rfl rfl (am_ww.mono h ?_)
  rintro _ E1 I1 J1 S1 ⟨rfl, h⟩
  refine q_mkV ?_
  refine w_st (i' := 5) (ls' := [.ref 89]) (st' := [.ref 89]) (E' := E1) (I' := I1) (J' := J1) (S' := S1) am_e146 rfl rfl rfl rfl ?_
  refine w_st (i' := 6) (ls' := [.ref 89]) (st' := [.ref 93]) (E' := E1) (I' := I1) (J' := J1) (S' := S1) am_e146 rfl rfl rfl rfl ?_
  refine w_st (i' := 7) (ls' := [.ref 89]) (st' := [.int (nI 0), .ref 93]) (E' := E1) (I' := I1) (J' := J1) (S' := S1) am_e146 rfl rfl rfl rfl ?_
  refine w_cV am_e146 rfl rfl (as := [.ref 93, .int (nI 0)]) (rest := []) rfl rfl (am_ww.mono h ?_)
  rintro _ E2 I2 J2 S2 ⟨rfl, h⟩
  refine q_mkV ?_
  refine w_st (i' := 9) (ls' := [.ref 89]) (st' := [.ref 89]) (E' := E2) (I' := I2) (J' := J2) (S' := S2) am_e146 rfl rfl rfl rfl ?_
  refine w_st (i' := 10) (ls' := [.ref 89]) (st' := [.ref 94]) (E' := E2) (I' := I2) (J' := J2) (S' := S2) am_e146 rfl rfl rfl rfl ?_
  refine w_st (i' := 11) (ls' := [.ref 89]) (st' := [.int (nI 0), .ref 94]) (E' := E2) (I' := I2) (J' := J2) (S' := S2) am_e146 rfl rfl rfl rfl ?_
  refine w_cV am_e146 rfl rfl (as := [.ref 94, .int (nI 0)]) (rest := []) rfl rfl (am_ww.mono h ?_)
  rintro _ E3 I3 J3 S3 ⟨rfl, h⟩
  refine q_mkV ?_
  refine w_st (i' := 13) (ls' := [.ref 89]) (st' := [.ref 89]) (E' := E3) (I' := I3) (J' := J3) (S' := S3) am_e146 rfl rfl rfl rfl ?_
  refine w_st (i' := 14) (ls' := [.ref 89]) (st' := [.ref 95]) (E' := E3) (I' := I3) (J' := J3) (S' := S3) am_e146 rfl rfl rfl rfl ?_
  refine w_st (i' := 15) (ls' := [.ref 89]) (st' := [.long (lN 0), .ref 95]) (E' := E3) (I' := I3) (J' := J3) (S' := S3) am_e146 rfl rfl rfl rfl ?_
  refine w_cV am_e146 rfl rfl (as := [.ref 95, .long (lN 0)]) (rest := []) rfl rfl (am_ww.mono h ?_)
  rintro _ E4 I4 J4 S4 ⟨rfl, h⟩
  refine q_mkV ?_
  refine w_st (i' := 17) (ls' := [.ref 89]) (st' := [.ref 89]) (E' := E4) (I' := I4) (J' := J4) (S' := S4) am_e146 rfl rfl rfl rfl ?_
  refine w_st (i' := 18) (ls' := [.ref 89]) (st' := [.int (nI 0), .ref 89]) (E' := E4) (I' := I4) (J' := J4) (S' := S4) am_e146 rfl rfl rfl rfl ?_
  refine w_st (i' := 19) (ls' := [.ref 89]) (st' := []) (E' := E4) (I' := (u_I I4 89 (upd (I4 89) 6 (nI 0)))) (J' := J4) (S' := S4) am_e146 rfl rfl rfl rfl ?_
  refine w_st (i' := 20) (ls' := [.ref 89]) (st' := [.ref 89]) (E' := E4) (I' := (u_I I4 89 (upd (I4 89) 6 (nI 0)))) (J' := J4) (S' := S4) am_e146 rfl rfl rfl rfl ?_
  refine w_st (i' := 21) (ls' := [.ref 89]) (st' := [.int (nI 0), .ref 89]) (E' := E4) (I' := (u_I I4 89 (upd (I4 89) 6 (nI 0)))) (J' := J4) (S' := S4) am_e146 rfl rfl rfl rfl ?_
  refine w_st (i' := 22) (ls' := [.ref 89]) (st' := []) (E' := E4) (I' := (u_I (u_I I4 89 (upd (I4 89) 6 (nI 0))) 89 (upd (upd (I4 89) 6 (nI 0)) 7 (nI 0)))) (J' := J4) (S' := S4) am_e146 rfl rfl rfl rfl ?_
  refine w_eI (uI_0 ..) ?_
  show am_ww 146 22 [.ref 89] [] E4 (u_I I4 89 (upd (upd (I4 89) 6 (nI 0)) 7 (nI 0))) J4 S4 _
  exact w_end am_e146 rfl rfl rfl h
-- 148 order
theorem g148_0 {p2 : Int32} {p3 : Int32} {E : am_Ev} {I : Nat → Nat → Int32} {J : Nat → Nat → Int64} {S : Nat → Nat → Option Nat} {Q : am_Qt}  (h : vp_in ((p2 * (nI 3)) + (nI 0)) 192 ∧ (∀ w2 : Int32, w2 = ((I 14) (((p2 * (nI 3)) + (nI 0)).toNatClampNeg)) → (vp_in (((p2 / (nI 16)) * (nI 4)) + (p2 / (nI 16))) 16 ∧ (vp_in p2 64 ∧ ((((I 13) p2.toNatClampNeg) = (nI 13) → (am_ww 148 26 [.ref 89, .ref 12, .int p2, .int p3, .ref 87, .int (p2 / (nI 16)), .int w2, .int (nI 0), am_U] [] E (u_I I 93 (upd (I 93) ((((p2 / (nI 16)) * (nI 4)) + (p2 / (nI 16))).toNatClampNeg) p3)) J S Q)) ∧ (¬ ((I 13) p2.toNatClampNeg) = (nI 13) → (am_cl 149 [.ref 87, .ref 12, .int p2] E (u_I I 93 (upd (I 93) ((((p2 / (nI 16)) * (nI 4)) + (p2 / (nI 16))).toNatClampNeg) p3)) J S (q_I fun v5 E5 I5 J5 S5 => (v5 = 0 → (am_cpOk ((p2 / (nI 16)) * (nI 4)) (p3 * (nI 4)) (nI 4) 16 1604 ∧ (Q (.inl none) E5 (u_I I5 92 (va_cpy (I5 93) (I5 92) (((p2 / (nI 16)) * (nI 4)).toNatClampNeg) ((p3 * (nI 4)).toNatClampNeg) 4)) J5 S5))) ∧ (¬ v5 = 0 → (am_cpOk ((p2 / (nI 16)) * (nI 4)) (w2 * (nI 4)) (nI 4) 16 16 ∧ (am_cpOk ((p2 / (nI 16)) * (nI 4)) (p3 * (nI 4)) (nI 4) 16 1604 ∧ (Q (.inl none) E5 (u_I (u_I I5 94 (va_cpy (I5 93) (I5 94) (((p2 / (nI 16)) * (nI 4)).toNatClampNeg) ((w2 * (nI 4)).toNatClampNeg) 4)) 92 (va_cpy (I5 93) (I5 92) (((p2 / (nI 16)) * (nI 4)).toNatClampNeg) ((p3 * (nI 4)).toNatClampNeg) 4)) J5 S5)))))))))))) : am_ww 148 0 [.ref 89, .ref 12, .int p2, .int p3, .ref 87, am_U, am_U, am_U, am_U] [] E I J S Q := by
  refine w_st (i' := 1) (ls' := [.ref 89, .ref 12, .int p2, .int p3, .ref 87, am_U, am_U, am_U, am_U]) (st' := [.int p2]) (E' := E) (I' := I) (J' := J) (S' := S) am_e148 rfl rfl rfl rfl ?_
  refine w_st (i' := 2) (ls' := [.ref 89, .ref 12, .int p2, .int p3, .ref 87, am_U, am_U, am_U, am_U]) (st' := [.int (nI 16), .int p2]) (E' := E) (I' := I) (J' := J) (S' := S) am_e148 rfl rfl rfl rfl ?_
  refine w_dv (by decide) am_e148 rfl ?_
  refine w_st (i' := 4) (ls' := [.ref 89, .ref 12, .int p2, .int p3, .ref 87, .int (p2 / (nI 16)), am_U, am_U, am_U]) (st' := []) (E' := E) (I' := I) (J' := J) (S' := S) am_e148 rfl rfl rfl rfl ?_
  refine w_st (i' := 5) (ls' := [.ref 89, .ref 12, .int p2, .int p3, .ref 87, .int (p2 / (nI 16)), am_U, am_U, am_U]) (st' := [.ref 12]) (E' := E) (I' := I) (J' := J) (S' := S) am_e148 rfl rfl rfl rfl ?_
  refine w_st (i' := 6) (ls' := [.ref 89, .ref 12, .int p2, .int p3, .ref 87, .int (p2 / (nI 16)), am_U, am_U, am_U]) (st' := [.int p2, .ref 12]) (E' := E) (I' := I) (J' := J) (S' := S) am_e148 rfl rfl rfl rfl ?_
  refine w_st (i' := 7) (ls' := [.ref 89, .ref 12, .int p2, .int p3, .ref 87, .int (p2 / (nI 16)), am_U, am_U, am_U]) (st' := [.int (nI 0), .int p2, .ref 12]) (E' := E) (I' := I) (J' := J) (S' := S) am_e148 rfl rfl rfl rfl ?_
  refine w_cI am_e148 rfl rfl (as := [.ref 12, .int p2, .int (nI 0)]) (rest := []) rfl rfl ?_
  show am_ww 26 0 [.ref 12, .int p2, .int (nI 0)] [] E I J S _
  refine w_st (i' := 1) (ls' := [.ref 12, .int p2, .int (nI 0)]) (st' := [.ref 12]) (E' := E) (I' := I) (J' := J) (S' := S) am_e26 rfl rfl rfl rfl ?_
  refine w_st (i' := 2) (ls' := [.ref 12, .int p2, .int (nI 0)]) (st' := [.ref 14]) (E' := E) (I' := I) (J' := J) (S' := S) am_e26 rfl rfl rfl rfl ?_
  refine w_st (i' := 3) (ls' := [.ref 12, .int p2, .int (nI 0)]) (st' := [.int p2, .ref 14]) (E' := E) (I' := I) (J' := J) (S' := S) am_e26 rfl rfl rfl rfl ?_
  refine w_st (i' := 4) (ls' := [.ref 12, .int p2, .int (nI 0)]) (st' := [.int (nI 3), .int p2, .ref 14]) (E' := E) (I' := I) (J' := J) (S' := S) am_e26 rfl rfl rfl rfl ?_
  refine w_st (i' := 5) (ls' := [.ref 12, .int p2, .int (nI 0)]) (st' := [.int (p2 * (nI 3)), .ref 14]) (E' := E) (I' := I) (J' := J) (S' := S) am_e26 rfl rfl rfl rfl ?_
  refine w_st (i' := 6) (ls' := [.ref 12, .int p2, .int (nI 0)]) (st' := [.int (nI 0), .int (p2 * (nI 3)), .ref 14]) (E' := E) (I' := I) (J' := J) (S' := S) am_e26 rfl rfl rfl rfl ?_
  refine w_st (i' := 7) (ls' := [.ref 12, .int p2, .int (nI 0)]) (st' := [.int ((p2 * (nI 3)) + (nI 0)), .ref 14]) (E' := E) (I' := I) (J' := J) (S' := S) am_e26 rfl rfl rfl rfl ?_
  have hf1 := h.1
  replace h := h.2
  refine w_ia (k := 14) (n := 192) (jn := ((p2 * (nI 3)) + (nI 0)).toNatClampNeg) am_e26 rfl rfl (by decide) hf1 rfl ?_
  refine w_ri am_e26 rfl rfl (q_mkI ?_)
  show am_ww 148 8 [.ref 89, .ref 12, .int p2, .int p3, .ref 87, .int (p2 / (nI 16)), am_U, am_U, am_U] [.int ((I 14) (((p2 * (nI 3)) + (nI 0)).toNatClampNeg))] E I J S _
  refine w_var (fun w2 => am_ww 148 8 [.ref 89, .ref 12, .int p2, .int p3, .ref 87, .int (p2 / (nI 16)), am_U, am_U, am_U] [.int w2] E I J S _) ((I 14) (((p2 * (nI 3)) + (nI 0)).toNatClampNeg)) (fun w2 hw2 => ?_)
  replace h := h w2 hw2
  refine w_st (i' := 9) (ls' := [.ref 89, .ref 12, .int p2, .int p3, .ref 87, .int (p2 / (nI 16)), .int w2, am_U, am_U]) (st' := []) (E' := E) (I' := I) (J' := J) (S' := S) am_e148 rfl rfl rfl rfl ?_
  refine w_st (i' := 10) (ls' := [.ref 89, .ref 12, .int p2, .int p3, .ref 87, .int (p2 / (nI 16)), .int w2, am_U, am_U]) (st' := [.ref 89]) (E' := E) (I' := I) (J' := J) (S' := S) am_e148 rfl rfl rfl rfl ?_
  refine w_st (i' := 11) (ls' := [.ref 89, .ref 12, .int p2, .int p3, .ref 87, .int (p2 / (nI 16)), .int w2, am_U, am_U]) (st' := [.ref 93]) (E' := E) (I' := I) (J' := J) (S' := S) am_e148 rfl rfl rfl rfl ?_
  refine w_st (i' := 12) (ls' := [.ref 89, .ref 12, .int p2, .int p3, .ref 87, .int (p2 / (nI 16)), .int w2, am_U, am_U]) (st' := [.int (p2 / (nI 16)), .ref 93]) (E' := E) (I' := I) (J' := J) (S' := S) am_e148 rfl rfl rfl rfl ?_
  refine w_st (i' := 13) (ls' := [.ref 89, .ref 12, .int p2, .int p3, .ref 87, .int (p2 / (nI 16)), .int w2, am_U, am_U]) (st' := [.int (nI 4), .int (p2 / (nI 16)), .ref 93]) (E' := E) (I' := I) (J' := J) (S' := S) am_e148 rfl rfl rfl rfl ?_
  refine w_st (i' := 14) (ls' := [.ref 89, .ref 12, .int p2, .int p3, .ref 87, .int (p2 / (nI 16)), .int w2, am_U, am_U]) (st' := [.int ((p2 / (nI 16)) * (nI 4)), .ref 93]) (E' := E) (I' := I) (J' := J) (S' := S) am_e148 rfl rfl rfl rfl ?_
  refine w_st (i' := 15) (ls' := [.ref 89, .ref 12, .int p2, .int p3, .ref 87, .int (p2 / (nI 16)), .int w2, am_U, am_U]) (st' := [.int (p2 / (nI 16)), .int ((p2 / (nI 16)) * (nI 4)), .ref 93]) (E' := E) (I' := I) (J' := J) (S' := S) am_e148 rfl rfl rfl rfl ?_
  refine w_st (i' := 16) (ls' := [.ref 89, .ref 12, .int p2, .int p3, .ref 87, .int (p2 / (nI 16)), .int w2, am_U, am_U]) (st' := [.int (((p2 / (nI 16)) * (nI 4)) + (p2 / (nI 16))), .ref 93]) (E' := E) (I' := I) (J' := J) (S' := S) am_e148 rfl rfl rfl rfl ?_
  refine w_st (i' := 17) (ls' := [.ref 89, .ref 12, .int p2, .int p3, .ref 87, .int (p2 / (nI 16)), .int w2, am_U, am_U]) (st' := [.int p3, .int (((p2 / (nI 16)) * (nI 4)) + (p2 / (nI 16))), .ref 93]) (E' := E) (I' := I) (J' := J) (S' := S) am_e148 rfl rfl rfl rfl ?_
  have hf3 := h.1
  replace h := h.2
  refine w_is (k := 93) (n := 16) (jn := (((p2 / (nI 16)) * (nI 4)) + (p2 / (nI 16))).toNatClampNeg) am_e148 rfl rfl (by decide) hf3 rfl ?_
  show am_ww 148 18 [.ref 89, .ref 12, .int p2, .int p3, .ref 87, .int (p2 / (nI 16)), .int w2, am_U, am_U] [] E (u_I I 93 (upd (I 93) ((((p2 / (nI 16)) * (nI 4)) + (p2 / (nI 16))).toNatClampNeg) p3)) J S _
  refine w_st (i' := 19) (ls' := [.ref 89, .ref 12, .int p2, .int p3, .ref 87, .int (p2 / (nI 16)), .int w2, am_U, am_U]) (st' := [.ref 12]) (E' := E) (I' := (u_I I 93 (upd (I 93) ((((p2 / (nI 16)) * (nI 4)) + (p2 / (nI 16))).toNatClampNeg) p3))) (J' := J) (S' := S) am_e148 rfl rfl rfl rfl ?_
  refine w_st (i' := 20) (ls' := [.ref 89, .ref 12, .int p2, .int p3, .ref 87, .int (p2 / (nI 16)), .int w2, am_U, am_U]) (st' := [.ref 13]) (E' := E) (I' := (u_I I 93 (upd (I 93) ((((p2 / (nI 16)) * (nI 4)) + (p2 / (nI 16))).toNatClampNeg) p3))) (J' := J) (S' := S) am_e148 rfl rfl rfl rfl ?_
  refine w_st (i' := 21) (ls' := [.ref 89, .ref 12, .int p2, .int p3, .ref 87, .int (p2 / (nI 16)), .int w2, am_U, am_U]) (st' := [.int p2, .ref 13]) (E' := E) (I' := (u_I I 93 (upd (I 93) ((((p2 / (nI 16)) * (nI 4)) + (p2 / (nI 16))).toNatClampNeg) p3))) (J' := J) (S' := S) am_e148 rfl rfl rfl rfl ?_
  have hf4 := h.1
  replace h := h.2
  refine w_ia (k := 13) (n := 64) (jn := p2.toNatClampNeg) am_e148 rfl rfl (by decide) hf4 rfl ?_
  show am_ww 148 22 [.ref 89, .ref 12, .int p2, .int p3, .ref 87, .int (p2 / (nI 16)), .int w2, am_U, am_U] [.int ((I 13) p2.toNatClampNeg)] E (u_I I 93 (upd (I 93) ((((p2 / (nI 16)) * (nI 4)) + (p2 / (nI 16))).toNatClampNeg) p3)) J S _
  refine w_st (i' := 23) (ls' := [.ref 89, .ref 12, .int p2, .int p3, .ref 87, .int (p2 / (nI 16)), .int w2, am_U, am_U]) (st' := [.int (nI 13), .int ((I 13) p2.toNatClampNeg)]) (E' := E) (I' := (u_I I 93 (upd (I 93) ((((p2 / (nI 16)) * (nI 4)) + (p2 / (nI 16))).toNatClampNeg) p3))) (J' := J) (S' := S) am_e148 rfl rfl rfl rfl ?_
  refine w_if2 am_e148 rfl rfl (fun c => ?_) (fun c => ?_)
  · replace h := h.2 (of_decide_eq_true c)
    refine w_st (i' := 56) (ls' := [.ref 89, .ref 12, .int p2, .int p3, .ref 87, .int (p2 / (nI 16)), .int w2, am_U, am_U]) (st' := [.ref 87]) (E' := E) (I' := (u_I I 93 (upd (I 93) ((((p2 / (nI 16)) * (nI 4)) + (p2 / (nI 16))).toNatClampNeg) p3))) (J' := J) (S' := S) am_e148 rfl rfl rfl rfl ?_
    refine w_st (i' := 57) (ls' := [.ref 89, .ref 12, .int p2, .int p3, .ref 87, .int (p2 / (nI 16)), .int w2, am_U, am_U]) (st' := [.ref 12, .ref 87]) (E' := E) (I' := (u_I I 93 (upd (I 93) ((((p2 / (nI 16)) * (nI 4)) + (p2 / (nI 16))).toNatClampNeg) p3))) (J' := J) (S' := S) am_e148 rfl rfl rfl rfl ?_
    refine w_st (i' := 58) (ls' := [.ref 89, .ref 12, .int p2, .int p3, .ref 87, .int (p2 / (nI 16)), .int w2, am_U, am_U]) (st' := [.int p2, .ref 12, .ref 87]) (E' := E) (I' := (u_I I 93 (upd (I 93) ((((p2 / (nI 16)) * (nI 4)) + (p2 / (nI 16))).toNatClampNeg) p3))) (J' := J) (S' := S) am_e148 rfl rfl rfl rfl ?_
    refine w_cI am_e148 rfl rfl (as := [.ref 87, .ref 12, .int p2]) (rest := []) rfl rfl (am_ww.mono h ?_)
    rintro _ E5 I5 J5 S5 ⟨v5, rfl, h⟩
    refine q_mkI ?_
    refine w_if1 am_e148 rfl rfl (fun c => ?_) (fun c => ?_)
    · replace h := h.1 (of_decide_eq_true c)
      refine w_st (i' := 73) (ls' := [.ref 89, .ref 12, .int p2, .int p3, .ref 87, .int (p2 / (nI 16)), .int w2, am_U, am_U]) (st' := [.ref 89]) (E' := E5) (I' := I5) (J' := J5) (S' := S5) am_e148 rfl rfl rfl rfl ?_
      refine w_st (i' := 74) (ls' := [.ref 89, .ref 12, .int p2, .int p3, .ref 87, .int (p2 / (nI 16)), .int w2, am_U, am_U]) (st' := [.ref 93]) (E' := E5) (I' := I5) (J' := J5) (S' := S5) am_e148 rfl rfl rfl rfl ?_
      refine w_st (i' := 75) (ls' := [.ref 89, .ref 12, .int p2, .int p3, .ref 87, .int (p2 / (nI 16)), .int w2, am_U, am_U]) (st' := [.int (p2 / (nI 16)), .ref 93]) (E' := E5) (I' := I5) (J' := J5) (S' := S5) am_e148 rfl rfl rfl rfl ?_
      refine w_st (i' := 76) (ls' := [.ref 89, .ref 12, .int p2, .int p3, .ref 87, .int (p2 / (nI 16)), .int w2, am_U, am_U]) (st' := [.int (nI 4), .int (p2 / (nI 16)), .ref 93]) (E' := E5) (I' := I5) (J' := J5) (S' := S5) am_e148 rfl rfl rfl rfl ?_
      refine w_st (i' := 77) (ls' := [.ref 89, .ref 12, .int p2, .int p3, .ref 87, .int (p2 / (nI 16)), .int w2, am_U, am_U]) (st' := [.int ((p2 / (nI 16)) * (nI 4)), .ref 93]) (E' := E5) (I' := I5) (J' := J5) (S' := S5) am_e148 rfl rfl rfl rfl ?_
      refine w_st (i' := 78) (ls' := [.ref 89, .ref 12, .int p2, .int p3, .ref 87, .int (p2 / (nI 16)), .int w2, am_U, am_U]) (st' := [.ref 89, .int ((p2 / (nI 16)) * (nI 4)), .ref 93]) (E' := E5) (I' := I5) (J' := J5) (S' := S5) am_e148 rfl rfl rfl rfl ?_
      refine w_st (i' := 79) (ls' := [.ref 89, .ref 12, .int p2, .int p3, .ref 87, .int (p2 / (nI 16)), .int w2, am_U, am_U]) (st' := [.ref 92, .int ((p2 / (nI 16)) * (nI 4)), .ref 93]) (E' := E5) (I' := I5) (J' := J5) (S' := S5) am_e148 rfl rfl rfl rfl ?_
      refine w_st (i' := 80) (ls' := [.ref 89, .ref 12, .int p2, .int p3, .ref 87, .int (p2 / (nI 16)), .int w2, am_U, am_U]) (st' := [.int p3, .ref 92, .int ((p2 / (nI 16)) * (nI 4)), .ref 93]) (E' := E5) (I' := I5) (J' := J5) (S' := S5) am_e148 rfl rfl rfl rfl ?_
      refine w_st (i' := 81) (ls' := [.ref 89, .ref 12, .int p2, .int p3, .ref 87, .int (p2 / (nI 16)), .int w2, am_U, am_U]) (st' := [.int (nI 4), .int p3, .ref 92, .int ((p2 / (nI 16)) * (nI 4)), .ref 93]) (E' := E5) (I' := I5) (J' := J5) (S' := S5) am_e148 rfl rfl rfl rfl ?_
      refine w_st (i' := 82) (ls' := [.ref 89, .ref 12, .int p2, .int p3, .ref 87, .int (p2 / (nI 16)), .int w2, am_U, am_U]) (st' := [.int (p3 * (nI 4)), .ref 92, .int ((p2 / (nI 16)) * (nI 4)), .ref 93]) (E' := E5) (I' := I5) (J' := J5) (S' := S5) am_e148 rfl rfl rfl rfl ?_
      refine w_st (i' := 83) (ls' := [.ref 89, .ref 12, .int p2, .int p3, .ref 87, .int (p2 / (nI 16)), .int w2, am_U, am_U]) (st' := [.int (nI 4), .int (p3 * (nI 4)), .ref 92, .int ((p2 / (nI 16)) * (nI 4)), .ref 93]) (E' := E5) (I' := I5) (J' := J5) (S' := S5) am_e148 rfl rfl rfl rfl ?_
      refine w_cp (k := 93) (a := 92) (nk := 16) (na := 1604) am_e148 rfl (by decide) (by decide) rfl rfl (by decide) h.1 ?_
      replace h := h.2
      show am_ww 148 84 [.ref 89, .ref 12, .int p2, .int p3, .ref 87, .int (p2 / (nI 16)), .int w2, am_U, am_U] [] E5 (u_I I5 92 (va_cpy (I5 93) (I5 92) (((p2 / (nI 16)) * (nI 4)).toNatClampNeg) ((p3 * (nI 4)).toNatClampNeg) 4)) J5 S5 _
      exact w_end am_e148 rfl rfl rfl h
    · replace h := h.2 (of_decide_eq_false c)
      refine w_st (i' := 61) (ls' := [.ref 89, .ref 12, .int p2, .int p3, .ref 87, .int (p2 / (nI 16)), .int w2, am_U, am_U]) (st' := [.ref 89]) (E' := E5) (I' := I5) (J' := J5) (S' := S5) am_e148 rfl rfl rfl rfl ?_
      refine w_st (i' := 62) (ls' := [.ref 89, .ref 12, .int p2, .int p3, .ref 87, .int (p2 / (nI 16)), .int w2, am_U, am_U]) (st' := [.ref 93]) (E' := E5) (I' := I5) (J' := J5) (S' := S5) am_e148 rfl rfl rfl rfl ?_
      refine w_st (i' := 63) (ls' := [.ref 89, .ref 12, .int p2, .int p3, .ref 87, .int (p2 / (nI 16)), .int w2, am_U, am_U]) (st' := [.int (p2 / (nI 16)), .ref 93]) (E' := E5) (I' := I5) (J' := J5) (S' := S5) am_e148 rfl rfl rfl rfl ?_
      refine w_st (i' := 64) (ls' := [.ref 89, .ref 12, .int p2, .int p3, .ref 87, .int (p2 / (nI 16)), .int w2, am_U, am_U]) (st' := [.int (nI 4), .int (p2 / (nI 16)), .ref 93]) (E' := E5) (I' := I5) (J' := J5) (S' := S5) am_e148 rfl rfl rfl rfl ?_
      refine w_st (i' := 65) (ls' := [.ref 89, .ref 12, .int p2, .int p3, .ref 87, .int (p2 / (nI 16)), .int w2, am_U, am_U]) (st' := [.int ((p2 / (nI 16)) * (nI 4)), .ref 93]) (E' := E5) (I' := I5) (J' := J5) (S' := S5) am_e148 rfl rfl rfl rfl ?_
      refine w_st (i' := 66) (ls' := [.ref 89, .ref 12, .int p2, .int p3, .ref 87, .int (p2 / (nI 16)), .int w2, am_U, am_U]) (st' := [.ref 89, .int ((p2 / (nI 16)) * (nI 4)), .ref 93]) (E' := E5) (I' := I5) (J' := J5) (S' := S5) am_e148 rfl rfl rfl rfl ?_
      refine w_st (i' := 67) (ls' := [.ref 89, .ref 12, .int p2, .int p3, .ref 87, .int (p2 / (nI 16)), .int w2, am_U, am_U]) (st' := [.ref 94, .int ((p2 / (nI 16)) * (nI 4)), .ref 93]) (E' := E5) (I' := I5) (J' := J5) (S' := S5) am_e148 rfl rfl rfl rfl ?_
      refine w_st (i' := 68) (ls' := [.ref 89, .ref 12, .int p2, .int p3, .ref 87, .int (p2 / (nI 16)), .int w2, am_U, am_U]) (st' := [.int w2, .ref 94, .int ((p2 / (nI 16)) * (nI 4)), .ref 93]) (E' := E5) (I' := I5) (J' := J5) (S' := S5) am_e148 rfl rfl rfl rfl ?_
      refine w_st (i' := 69) (ls' := [.ref 89, .ref 12, .int p2, .int p3, .ref 87, .int (p2 / (nI 16)), .int w2, am_U, am_U]) (st' := [.int (nI 4), .int w2, .ref 94, .int ((p2 / (nI 16)) * (nI 4)), .ref 93]) (E' := E5) (I' := I5) (J' := J5) (S' := S5) am_e148 rfl rfl rfl rfl ?_
      refine w_st (i' := 70) (ls' := [.ref 89, .ref 12, .int p2, .int p3, .ref 87, .int (p2 / (nI 16)), .int w2, am_U, am_U]) (st' := [.int (w2 * (nI 4)), .ref 94, .int ((p2 / (nI 16)) * (nI 4)), .ref 93]) (E' := E5) (I' := I5) (J' := J5) (S' := S5) am_e148 rfl rfl rfl rfl ?_
      refine w_st (i' := 71) (ls' := [.ref 89, .ref 12, .int p2, .int p3, .ref 87, .int (p2 / (nI 16)), .int w2, am_U, am_U]) (st' := [.int (nI 4), .int (w2 * (nI 4)), .ref 94, .int ((p2 / (nI 16)) * (nI 4)), .ref 93]) (E' := E5) (I' := I5) (J' := J5) (S' := S5) am_e148 rfl rfl rfl rfl ?_
      refine w_cp (k := 93) (a := 94) (nk := 16) (na := 16) am_e148 rfl (by decide) (by decide) rfl rfl (by decide) h.1 ?_
      replace h := h.2
      show am_ww 148 72 [.ref 89, .ref 12, .int p2, .int p3, .ref 87, .int (p2 / (nI 16)), .int w2, am_U, am_U] [] E5 (u_I I5 94 (va_cpy (I5 93) (I5 94) (((p2 / (nI 16)) * (nI 4)).toNatClampNeg) ((w2 * (nI 4)).toNatClampNeg) 4)) J5 S5 _
      refine w_st (i' := 73) (ls' := [.ref 89, .ref 12, .int p2, .int p3, .ref 87, .int (p2 / (nI 16)), .int w2, am_U, am_U]) (st' := [.ref 89]) (E' := E5) (I' := (u_I I5 94 (va_cpy (I5 93) (I5 94) (((p2 / (nI 16)) * (nI 4)).toNatClampNeg) ((w2 * (nI 4)).toNatClampNeg) 4))) (J' := J5) (S' := S5) am_e148 rfl rfl rfl rfl ?_
      refine w_st (i' := 74) (ls' := [.ref 89, .ref 12, .int p2, .int p3, .ref 87, .int (p2 / (nI 16)), .int w2, am_U, am_U]) (st' := [.ref 93]) (E' := E5) (I' := (u_I I5 94 (va_cpy (I5 93) (I5 94) (((p2 / (nI 16)) * (nI 4)).toNatClampNeg) ((w2 * (nI 4)).toNatClampNeg) 4))) (J' := J5) (S' := S5) am_e148 rfl rfl rfl rfl ?_
      refine w_st (i' := 75) (ls' := [.ref 89, .ref 12, .int p2, .int p3, .ref 87, .int (p2 / (nI 16)), .int w2, am_U, am_U]) (st' := [.int (p2 / (nI 16)), .ref 93]) (E' := E5) (I' := (u_I I5 94 (va_cpy (I5 93) (I5 94) (((p2 / (nI 16)) * (nI 4)).toNatClampNeg) ((w2 * (nI 4)).toNatClampNeg) 4))) (J' := J5) (S' := S5) am_e148 rfl rfl rfl rfl ?_
      refine w_st (i' := 76) (ls' := [.ref 89, .ref 12, .int p2, .int p3, .ref 87, .int (p2 / (nI 16)), .int w2, am_U, am_U]) (st' := [.int (nI 4), .int (p2 / (nI 16)), .ref 93]) (E' := E5) (I' := (u_I I5 94 (va_cpy (I5 93) (I5 94) (((p2 / (nI 16)) * (nI 4)).toNatClampNeg) ((w2 * (nI 4)).toNatClampNeg) 4))) (J' := J5) (S' := S5) am_e148 rfl rfl rfl rfl ?_
      refine w_st (i' := 77) (ls' := [.ref 89, .ref 12, .int p2, .int p3, .ref 87, .int (p2 / (nI 16)), .int w2, am_U, am_U]) (st' := [.int ((p2 / (nI 16)) * (nI 4)), .ref 93]) (E' := E5) (I' := (u_I I5 94 (va_cpy (I5 93) (I5 94) (((p2 / (nI 16)) * (nI 4)).toNatClampNeg) ((w2 * (nI 4)).toNatClampNeg) 4))) (J' := J5) (S' := S5) am_e148 rfl rfl rfl rfl ?_
      refine w_st (i' := 78) (ls' := [.ref 89, .ref 12, .int p2, .int p3, .ref 87, .int (p2 / (nI 16)), .int w2, am_U, am_U]) (st' := [.ref 89, .int ((p2 / (nI 16)) * (nI 4)), .ref 93]) (E' := E5) (I' := (u_I I5 94 (va_cpy (I5 93) (I5 94) (((p2 / (nI 16)) * (nI 4)).toNatClampNeg) ((w2 * (nI 4)).toNatClampNeg) 4))) (J' := J5) (S' := S5) am_e148 rfl rfl rfl rfl ?_
      refine w_st (i' := 79) (ls' := [.ref 89, .ref 12, .int p2, .int p3, .ref 87, .int (p2 / (nI 16)), .int w2, am_U, am_U]) (st' := [.ref 92, .int ((p2 / (nI 16)) * (nI 4)), .ref 93]) (E' := E5) (I' := (u_I I5 94 (va_cpy (I5 93) (I5 94) (((p2 / (nI 16)) * (nI 4)).toNatClampNeg) ((w2 * (nI 4)).toNatClampNeg) 4))) (J' := J5) (S' := S5) am_e148 rfl rfl rfl rfl ?_
      refine w_st (i' := 80) (ls' := [.ref 89, .ref 12, .int p2, .int p3, .ref 87, .int (p2 / (nI 16)), .int w2, am_U, am_U]) (st' := [.int p3, .ref 92, .int ((p2 / (nI 16)) * (nI 4)), .ref 93]) (E' := E5) (I' := (u_I I5 94 (va_cpy (I5 93) (I5 94) (((p2 / (nI 16)) * (nI 4)).toNatClampNeg) ((w2 * (nI 4)).toNatClampNeg) 4))) (J' := J5) (S' := S5) am_e148 rfl rfl rfl rfl ?_
      refine w_st (i' := 81) (ls' := [.ref 89, .ref 12, .int p2, .int p3, .ref 87, .int (p2 / (nI 16)), .int w2, am_U, am_U]) (st' := [.int (nI 4), .int p3, .ref 92, .int ((p2 / (nI 16)) * (nI 4)), .ref 93]) (E' := E5) (I' := (u_I I5 94 (va_cpy (I5 93) (I5 94) (((p2 / (nI 16)) * (nI 4)).toNatClampNeg) ((w2 * (nI 4)).toNatClampNeg) 4))) (J' := J5) (S' := S5) am_e148 rfl rfl rfl rfl ?_
      refine w_st (i' := 82) (ls' := [.ref 89, .ref 12, .int p2, .int p3, .ref 87, .int (p2 / (nI 16)), .int w2, am_U, am_U]) (st' := [.int (p3 * (nI 4)), .ref 92, .int ((p2 / (nI 16)) * (nI 4)), .ref 93]) (E' := E5) (I' := (u_I I5 94 (va_cpy (I5 93) (I5 94) (((p2 / (nI 16)) * (nI 4)).toNatClampNeg) ((w2 * (nI 4)).toNatClampNeg) 4))) (J' := J5) (S' := S5) am_e148 rfl rfl rfl rfl ?_
      refine w_st (i' := 83) (ls' := [.ref 89, .ref 12, .int p2, .int p3, .ref 87, .int (p2 / (nI 16)), .int w2, am_U, am_U]) (st' := [.int (nI 4), .int (p3 * (nI 4)), .ref 92, .int ((p2 / (nI 16)) * (nI 4)), .ref 93]) (E' := E5) (I' := (u_I I5 94 (va_cpy (I5 93) (I5 94) (((p2 / (nI 16)) * (nI 4)).toNatClampNeg) ((w2 * (nI 4)).toNatClampNeg) 4))) (J' := J5) (S' := S5) am_e148 rfl rfl rfl rfl ?_
      refine w_cp (k := 93) (a := 92) (nk := 16) (na := 1604) am_e148 rfl (by decide) (by decide) rfl rfl (by decide) h.1 ?_
      replace h := h.2
      show am_ww 148 84 [.ref 89, .ref 12, .int p2, .int p3, .ref 87, .int (p2 / (nI 16)), .int w2, am_U, am_U] [] E5 (u_I (u_I I5 94 (va_cpy (I5 93) (I5 94) (((p2 / (nI 16)) * (nI 4)).toNatClampNeg) ((w2 * (nI 4)).toNatClampNeg) 4)) 92 (va_cpy (I5 93) (I5 92) (((p2 / (nI 16)) * (nI 4)).toNatClampNeg) ((p3 * (nI 4)).toNatClampNeg) 4)) J5 S5 _
      exact w_end am_e148 rfl rfl rfl h
  · replace h := h.1 (Decidable.not_not.mp (of_decide_eq_false c))
    refine w_st (i' := 25) (ls' := [.ref 89, .ref 12, .int p2, .int p3, .ref 87, .int (p2 / (nI 16)), .int w2, am_U, am_U]) (st' := [.int (nI 0)]) (E' := E) (I' := (u_I I 93 (upd (I 93) ((((p2 / (nI 16)) * (nI 4)) + (p2 / (nI 16))).toNatClampNeg) p3))) (J' := J) (S' := S) am_e148 rfl rfl rfl rfl ?_
    refine w_st (i' := 26) (ls' := [.ref 89, .ref 12, .int p2, .int p3, .ref 87, .int (p2 / (nI 16)), .int w2, .int (nI 0), am_U]) (st' := []) (E' := E) (I' := (u_I I 93 (upd (I 93) ((((p2 / (nI 16)) * (nI 4)) + (p2 / (nI 16))).toNatClampNeg) p3))) (J' := J) (S' := S) am_e148 rfl rfl rfl rfl ?_
    exact h
theorem g148_26 {d1 : Value} {d2 : Value} {x3 : Int32} {d4 : Value} {x5 : Int32} {x6 : Int32} {x7 : Int32} {d8 : Value} {E : am_Ev} {I : Nat → Nat → Int32} {J : Nat → Nat → Int64} {S : Nat → Nat → Option Nat} {Q : am_Qt} (hd1 : am_isL d1 = false) (hd2 : am_isL d2 = false) (hd4 : am_isL d4 = false) (hd8 : am_isL d8 = false) (h : ((nI 4) ≤ x7 → (am_cpOk (x5 * (nI 4)) (x3 * (nI 4)) (nI 4) 16 1604 ∧ (Q (.inl none) E (u_I I 92 (va_cpy (I 93) (I 92) ((x5 * (nI 4)).toNatClampNeg) ((x3 * (nI 4)).toNatClampNeg) 4)) J S))) ∧ (¬ (nI 4) ≤ x7 → (vp_in ((x5 * (nI 4)) + x7) 16 ∧ (vp_in ((x6 * (nI 4)) + x7) 16 ∧ (am_ww 148 26 [.ref 89, d1, d2, .int x3, d4, .int x5, .int x6, .int (x7 + nI 1), .int ((x5 * (nI 4)) + x7)] [] E (u_I I 93 (upd (I 93) (((x5 * (nI 4)) + x7).toNatClampNeg) (if ((I 93) (((x5 * (nI 4)) + x7).toNatClampNeg)) < ((I 94) (((x6 * (nI 4)) + x7).toNatClampNeg)) then ((I 94) (((x6 * (nI 4)) + x7).toNatClampNeg)) else ((I 93) (((x5 * (nI 4)) + x7).toNatClampNeg))))) J S Q))))) : am_ww 148 26 [.ref 89, d1, d2, .int x3, d4, .int x5, .int x6, .int x7, d8] [] E I J S Q := by
  refine w_st (i' := 27) (ls' := [.ref 89, d1, d2, .int x3, d4, .int x5, .int x6, .int x7, d8]) (st' := [.int x7]) (E' := E) (I' := I) (J' := J) (S' := S) am_e148 rfl rfl rfl rfl ?_
  refine w_st (i' := 28) (ls' := [.ref 89, d1, d2, .int x3, d4, .int x5, .int x6, .int x7, d8]) (st' := [.int (nI 4), .int x7]) (E' := E) (I' := I) (J' := J) (S' := S) am_e148 rfl rfl rfl rfl ?_
  refine w_if2 am_e148 rfl rfl (fun c => ?_) (fun c => ?_)
  · replace h := h.1 (of_decide_eq_true c)
    refine w_st (i' := 72) (ls' := [.ref 89, d1, d2, .int x3, d4, .int x5, .int x6, .int x7, d8]) (st' := []) (E' := E) (I' := I) (J' := J) (S' := S) am_e148 rfl rfl rfl rfl ?_
    refine w_st (i' := 73) (ls' := [.ref 89, d1, d2, .int x3, d4, .int x5, .int x6, .int x7, d8]) (st' := [.ref 89]) (E' := E) (I' := I) (J' := J) (S' := S) am_e148 rfl rfl rfl rfl ?_
    refine w_st (i' := 74) (ls' := [.ref 89, d1, d2, .int x3, d4, .int x5, .int x6, .int x7, d8]) (st' := [.ref 93]) (E' := E) (I' := I) (J' := J) (S' := S) am_e148 rfl rfl rfl rfl ?_
    refine w_st (i' := 75) (ls' := [.ref 89, d1, d2, .int x3, d4, .int x5, .int x6, .int x7, d8]) (st' := [.int x5, .ref 93]) (E' := E) (I' := I) (J' := J) (S' := S) am_e148 rfl rfl rfl rfl ?_
    refine w_st (i' := 76) (ls' := [.ref 89, d1, d2, .int x3, d4, .int x5, .int x6, .int x7, d8]) (st' := [.int (nI 4), .int x5, .ref 93]) (E' := E) (I' := I) (J' := J) (S' := S) am_e148 rfl rfl rfl rfl ?_
    refine w_st (i' := 77) (ls' := [.ref 89, d1, d2, .int x3, d4, .int x5, .int x6, .int x7, d8]) (st' := [.int (x5 * (nI 4)), .ref 93]) (E' := E) (I' := I) (J' := J) (S' := S) am_e148 rfl rfl rfl rfl ?_
    refine w_st (i' := 78) (ls' := [.ref 89, d1, d2, .int x3, d4, .int x5, .int x6, .int x7, d8]) (st' := [.ref 89, .int (x5 * (nI 4)), .ref 93]) (E' := E) (I' := I) (J' := J) (S' := S) am_e148 rfl rfl rfl rfl ?_
    refine w_st (i' := 79) (ls' := [.ref 89, d1, d2, .int x3, d4, .int x5, .int x6, .int x7, d8]) (st' := [.ref 92, .int (x5 * (nI 4)), .ref 93]) (E' := E) (I' := I) (J' := J) (S' := S) am_e148 rfl rfl rfl rfl ?_
    refine w_st (i' := 80) (ls' := [.ref 89, d1, d2, .int x3, d4, .int x5, .int x6, .int x7, d8]) (st' := [.int x3, .ref 92, .int (x5 * (nI 4)), .ref 93]) (E' := E) (I' := I) (J' := J) (S' := S) am_e148 rfl rfl rfl rfl ?_
    refine w_st (i' := 81) (ls' := [.ref 89, d1, d2, .int x3, d4, .int x5, .int x6, .int x7, d8]) (st' := [.int (nI 4), .int x3, .ref 92, .int (x5 * (nI 4)), .ref 93]) (E' := E) (I' := I) (J' := J) (S' := S) am_e148 rfl rfl rfl rfl ?_
    refine w_st (i' := 82) (ls' := [.ref 89, d1, d2, .int x3, d4, .int x5, .int x6, .int x7, d8]) (st' := [.int (x3 * (nI 4)), .ref 92, .int (x5 * (nI 4)), .ref 93]) (E' := E) (I' := I) (J' := J) (S' := S) am_e148 rfl rfl rfl rfl ?_
    refine w_st (i' := 83) (ls' := [.ref 89, d1, d2, .int x3, d4, .int x5, .int x6, .int x7, d8]) (st' := [.int (nI 4), .int (x3 * (nI 4)), .ref 92, .int (x5 * (nI 4)), .ref 93]) (E' := E) (I' := I) (J' := J) (S' := S) am_e148 rfl rfl rfl rfl ?_
    refine w_cp (k := 93) (a := 92) (nk := 16) (na := 1604) am_e148 rfl (by decide) (by decide) rfl rfl (by decide) h.1 ?_
    replace h := h.2
    show am_ww 148 84 [.ref 89, d1, d2, .int x3, d4, .int x5, .int x6, .int x7, d8] [] E (u_I I 92 (va_cpy (I 93) (I 92) ((x5 * (nI 4)).toNatClampNeg) ((x3 * (nI 4)).toNatClampNeg) 4)) J S _
    exact w_end am_e148 rfl rfl rfl h
  · replace h := h.2 (of_decide_eq_false c)
    refine w_st (i' := 30) (ls' := [.ref 89, d1, d2, .int x3, d4, .int x5, .int x6, .int x7, d8]) (st' := [.int x5]) (E' := E) (I' := I) (J' := J) (S' := S) am_e148 rfl rfl rfl rfl ?_
    refine w_st (i' := 31) (ls' := [.ref 89, d1, d2, .int x3, d4, .int x5, .int x6, .int x7, d8]) (st' := [.int (nI 4), .int x5]) (E' := E) (I' := I) (J' := J) (S' := S) am_e148 rfl rfl rfl rfl ?_
    refine w_st (i' := 32) (ls' := [.ref 89, d1, d2, .int x3, d4, .int x5, .int x6, .int x7, d8]) (st' := [.int (x5 * (nI 4))]) (E' := E) (I' := I) (J' := J) (S' := S) am_e148 rfl rfl rfl rfl ?_
    refine w_st (i' := 33) (ls' := [.ref 89, d1, d2, .int x3, d4, .int x5, .int x6, .int x7, d8]) (st' := [.int x7, .int (x5 * (nI 4))]) (E' := E) (I' := I) (J' := J) (S' := S) am_e148 rfl rfl rfl rfl ?_
    refine w_st (i' := 34) (ls' := [.ref 89, d1, d2, .int x3, d4, .int x5, .int x6, .int x7, d8]) (st' := [.int ((x5 * (nI 4)) + x7)]) (E' := E) (I' := I) (J' := J) (S' := S) am_e148 rfl rfl rfl rfl ?_
    refine w_st (i' := 35) (ls' := [.ref 89, d1, d2, .int x3, d4, .int x5, .int x6, .int x7, .int ((x5 * (nI 4)) + x7)]) (st' := []) (E' := E) (I' := I) (J' := J) (S' := S) am_e148 rfl rfl rfl rfl ?_
    refine w_st (i' := 36) (ls' := [.ref 89, d1, d2, .int x3, d4, .int x5, .int x6, .int x7, .int ((x5 * (nI 4)) + x7)]) (st' := [.ref 89]) (E' := E) (I' := I) (J' := J) (S' := S) am_e148 rfl rfl rfl rfl ?_
    refine w_st (i' := 37) (ls' := [.ref 89, d1, d2, .int x3, d4, .int x5, .int x6, .int x7, .int ((x5 * (nI 4)) + x7)]) (st' := [.ref 93]) (E' := E) (I' := I) (J' := J) (S' := S) am_e148 rfl rfl rfl rfl ?_
    refine w_st (i' := 38) (ls' := [.ref 89, d1, d2, .int x3, d4, .int x5, .int x6, .int x7, .int ((x5 * (nI 4)) + x7)]) (st' := [.int ((x5 * (nI 4)) + x7), .ref 93]) (E' := E) (I' := I) (J' := J) (S' := S) am_e148 rfl rfl rfl rfl ?_
    refine w_st (i' := 39) (ls' := [.ref 89, d1, d2, .int x3, d4, .int x5, .int x6, .int x7, .int ((x5 * (nI 4)) + x7)]) (st' := [.ref 89, .int ((x5 * (nI 4)) + x7), .ref 93]) (E' := E) (I' := I) (J' := J) (S' := S) am_e148 rfl rfl rfl rfl ?_
    refine w_st (i' := 40) (ls' := [.ref 89, d1, d2, .int x3, d4, .int x5, .int x6, .int x7, .int ((x5 * (nI 4)) + x7)]) (st' := [.ref 93, .int ((x5 * (nI 4)) + x7), .ref 93]) (E' := E) (I' := I) (J' := J) (S' := S) am_e148 rfl rfl rfl rfl ?_
    refine w_st (i' := 41) (ls' := [.ref 89, d1, d2, .int x3, d4, .int x5, .int x6, .int x7, .int ((x5 * (nI 4)) + x7)]) (st' := [.int ((x5 * (nI 4)) + x7), .ref 93, .int ((x5 * (nI 4)) + x7), .ref 93]) (E' := E) (I' := I) (J' := J) (S' := S) am_e148 rfl rfl rfl rfl ?_
    have hf1 := h.1
    replace h := h.2
    refine w_ia (k := 93) (n := 16) (jn := ((x5 * (nI 4)) + x7).toNatClampNeg) am_e148 rfl rfl (by decide) hf1 rfl ?_
    refine w_st (i' := 43) (ls' := [.ref 89, d1, d2, .int x3, d4, .int x5, .int x6, .int x7, .int ((x5 * (nI 4)) + x7)]) (st' := [.ref 89, .int ((I 93) (((x5 * (nI 4)) + x7).toNatClampNeg)), .int ((x5 * (nI 4)) + x7), .ref 93]) (E' := E) (I' := I) (J' := J) (S' := S) am_e148 rfl rfl rfl rfl ?_
    refine w_st (i' := 44) (ls' := [.ref 89, d1, d2, .int x3, d4, .int x5, .int x6, .int x7, .int ((x5 * (nI 4)) + x7)]) (st' := [.ref 94, .int ((I 93) (((x5 * (nI 4)) + x7).toNatClampNeg)), .int ((x5 * (nI 4)) + x7), .ref 93]) (E' := E) (I' := I) (J' := J) (S' := S) am_e148 rfl rfl rfl rfl ?_
    refine w_st (i' := 45) (ls' := [.ref 89, d1, d2, .int x3, d4, .int x5, .int x6, .int x7, .int ((x5 * (nI 4)) + x7)]) (st' := [.int x6, .ref 94, .int ((I 93) (((x5 * (nI 4)) + x7).toNatClampNeg)), .int ((x5 * (nI 4)) + x7), .ref 93]) (E' := E) (I' := I) (J' := J) (S' := S) am_e148 rfl rfl rfl rfl ?_
    refine w_st (i' := 46) (ls' := [.ref 89, d1, d2, .int x3, d4, .int x5, .int x6, .int x7, .int ((x5 * (nI 4)) + x7)]) (st' := [.int (nI 4), .int x6, .ref 94, .int ((I 93) (((x5 * (nI 4)) + x7).toNatClampNeg)), .int ((x5 * (nI 4)) + x7), .ref 93]) (E' := E) (I' := I) (J' := J) (S' := S) am_e148 rfl rfl rfl rfl ?_
    refine w_st (i' := 47) (ls' := [.ref 89, d1, d2, .int x3, d4, .int x5, .int x6, .int x7, .int ((x5 * (nI 4)) + x7)]) (st' := [.int (x6 * (nI 4)), .ref 94, .int ((I 93) (((x5 * (nI 4)) + x7).toNatClampNeg)), .int ((x5 * (nI 4)) + x7), .ref 93]) (E' := E) (I' := I) (J' := J) (S' := S) am_e148 rfl rfl rfl rfl ?_
    refine w_st (i' := 48) (ls' := [.ref 89, d1, d2, .int x3, d4, .int x5, .int x6, .int x7, .int ((x5 * (nI 4)) + x7)]) (st' := [.int x7, .int (x6 * (nI 4)), .ref 94, .int ((I 93) (((x5 * (nI 4)) + x7).toNatClampNeg)), .int ((x5 * (nI 4)) + x7), .ref 93]) (E' := E) (I' := I) (J' := J) (S' := S) am_e148 rfl rfl rfl rfl ?_
    refine w_st (i' := 49) (ls' := [.ref 89, d1, d2, .int x3, d4, .int x5, .int x6, .int x7, .int ((x5 * (nI 4)) + x7)]) (st' := [.int ((x6 * (nI 4)) + x7), .ref 94, .int ((I 93) (((x5 * (nI 4)) + x7).toNatClampNeg)), .int ((x5 * (nI 4)) + x7), .ref 93]) (E' := E) (I' := I) (J' := J) (S' := S) am_e148 rfl rfl rfl rfl ?_
    have hf2 := h.1
    replace h := h.2
    refine w_ia (k := 94) (n := 16) (jn := ((x6 * (nI 4)) + x7).toNatClampNeg) am_e148 rfl rfl (by decide) hf2 rfl ?_
    refine w_st (i' := 51) (ls' := [.ref 89, d1, d2, .int x3, d4, .int x5, .int x6, .int x7, .int ((x5 * (nI 4)) + x7)]) (st' := [.int (if ((I 93) (((x5 * (nI 4)) + x7).toNatClampNeg)) < ((I 94) (((x6 * (nI 4)) + x7).toNatClampNeg)) then ((I 94) (((x6 * (nI 4)) + x7).toNatClampNeg)) else ((I 93) (((x5 * (nI 4)) + x7).toNatClampNeg))), .int ((x5 * (nI 4)) + x7), .ref 93]) (E' := E) (I' := I) (J' := J) (S' := S) am_e148 rfl rfl rfl rfl ?_
    refine w_is (k := 93) (n := 16) (jn := ((x5 * (nI 4)) + x7).toNatClampNeg) am_e148 rfl rfl (by decide) hf1 rfl ?_
    show am_ww 148 52 [.ref 89, d1, d2, .int x3, d4, .int x5, .int x6, .int x7, .int ((x5 * (nI 4)) + x7)] [] E (u_I I 93 (upd (I 93) (((x5 * (nI 4)) + x7).toNatClampNeg) (if ((I 93) (((x5 * (nI 4)) + x7).toNatClampNeg)) < ((I 94) (((x6 * (nI 4)) + x7).toNatClampNeg)) then ((I 94) (((x6 * (nI 4)) + x7).toNatClampNeg)) else ((I 93) (((x5 * (nI 4)) + x7).toNatClampNeg))))) J S _
    refine w_st (i' := 53) (ls' := [.ref 89, d1, d2, .int x3, d4, .int x5, .int x6, .int (x7 + nI 1), .int ((x5 * (nI 4)) + x7)]) (st' := []) (E' := E) (I' := (u_I I 93 (upd (I 93) (((x5 * (nI 4)) + x7).toNatClampNeg) (if ((I 93) (((x5 * (nI 4)) + x7).toNatClampNeg)) < ((I 94) (((x6 * (nI 4)) + x7).toNatClampNeg)) then ((I 94) (((x6 * (nI 4)) + x7).toNatClampNeg)) else ((I 93) (((x5 * (nI 4)) + x7).toNatClampNeg)))))) (J' := J) (S' := S) am_e148 rfl rfl rfl rfl ?_
    refine w_st (i' := 26) (ls' := [.ref 89, d1, d2, .int x3, d4, .int x5, .int x6, .int (x7 + nI 1), .int ((x5 * (nI 4)) + x7)]) (st' := []) (E' := E) (I' := (u_I I 93 (upd (I 93) (((x5 * (nI 4)) + x7).toNatClampNeg) (if ((I 93) (((x5 * (nI 4)) + x7).toNatClampNeg)) < ((I 94) (((x6 * (nI 4)) + x7).toNatClampNeg)) then ((I 94) (((x6 * (nI 4)) + x7).toNatClampNeg)) else ((I 93) (((x5 * (nI 4)) + x7).toNatClampNeg)))))) (J' := J) (S' := S) am_e148 rfl rfl rfl rfl ?_
    exact h
-- 152 isRace
theorem g152_0 {p1 : Int32} {p2 : Int32} {E : am_Ev} {I : Nat → Nat → Int32} {J : Nat → Nat → Int64} {S : Nat → Nat → Option Nat} {Q : am_Qt}  (h : vp_in p1 401 ∧ (vp_in p2 401 ∧ ((((I 91) p1.toNatClampNeg) = ((I 91) p2.toNatClampNeg) → (vp_in ((I 33) p1.toNatClampNeg) 64 ∧ (((((I 13) (((I 33) p1.toNatClampNeg).toNatClampNeg)) = (nI 8) → (True)) ∧ (¬ ((I 13) (((I 33) p1.toNatClampNeg).toNatClampNeg)) = (nI 8) → (vp_in ((I 33) p2.toNatClampNeg) 64 ∧ True))) ∧ (∀ w6 : Int32, w6 = (if ((I 13) (((I 33) p1.toNatClampNeg).toNatClampNeg)) = (nI 8) then nI 1 else (if ((I 13) (((I 33) p2.toNatClampNeg).toNatClampNeg)) = (nI 8) then nI 1 else nI 0)) → ((w6 = 0 → (Q (.inl (some (.int (nI 0)))) E I J S)) ∧ (¬ w6 = 0 → (vp_in ((p2 * (nI 4)) + (((I 33) p1.toNatClampNeg) / (nI 16))) 1604 ∧ ((p1 ≤ ((I 92) (((p2 * (nI 4)) + (((I 33) p1.toNatClampNeg) / (nI 16))).toNatClampNeg)) → (Q (.inl (some (.int (nI 0)))) E I J S)) ∧ (¬ p1 ≤ ((I 92) (((p2 * (nI 4)) + (((I 33) p1.toNatClampNeg) / (nI 16))).toNatClampNeg)) → (Q (.inl (some (.int (nI 1)))) E I J S)))))))))) ∧ (¬ ((I 91) p1.toNatClampNeg) = ((I 91) p2.toNatClampNeg) → (Q (.inl (some (.int (nI 0)))) E I J S))))) : am_ww 152 0 [.ref 89, .int p1, .int p2, .ref 12, .ref 18, am_U, am_U] [] E I J S Q := by
  refine w_st (i' := 1) (ls' := [.ref 89, .int p1, .int p2, .ref 12, .ref 18, am_U, am_U]) (st' := [.ref 89]) (E' := E) (I' := I) (J' := J) (S' := S) am_e152 rfl rfl rfl rfl ?_
  refine w_st (i' := 2) (ls' := [.ref 89, .int p1, .int p2, .ref 12, .ref 18, am_U, am_U]) (st' := [.ref 91]) (E' := E) (I' := I) (J' := J) (S' := S) am_e152 rfl rfl rfl rfl ?_
  refine w_st (i' := 3) (ls' := [.ref 89, .int p1, .int p2, .ref 12, .ref 18, am_U, am_U]) (st' := [.int p1, .ref 91]) (E' := E) (I' := I) (J' := J) (S' := S) am_e152 rfl rfl rfl rfl ?_
  have hf1 := h.1
  replace h := h.2
  refine w_ia (k := 91) (n := 401) (jn := p1.toNatClampNeg) am_e152 rfl rfl (by decide) hf1 rfl ?_
  refine w_st (i' := 5) (ls' := [.ref 89, .int p1, .int p2, .ref 12, .ref 18, am_U, am_U]) (st' := [.ref 89, .int ((I 91) p1.toNatClampNeg)]) (E' := E) (I' := I) (J' := J) (S' := S) am_e152 rfl rfl rfl rfl ?_
  refine w_st (i' := 6) (ls' := [.ref 89, .int p1, .int p2, .ref 12, .ref 18, am_U, am_U]) (st' := [.ref 91, .int ((I 91) p1.toNatClampNeg)]) (E' := E) (I' := I) (J' := J) (S' := S) am_e152 rfl rfl rfl rfl ?_
  refine w_st (i' := 7) (ls' := [.ref 89, .int p1, .int p2, .ref 12, .ref 18, am_U, am_U]) (st' := [.int p2, .ref 91, .int ((I 91) p1.toNatClampNeg)]) (E' := E) (I' := I) (J' := J) (S' := S) am_e152 rfl rfl rfl rfl ?_
  have hf2 := h.1
  replace h := h.2
  refine w_ia (k := 91) (n := 401) (jn := p2.toNatClampNeg) am_e152 rfl rfl (by decide) hf2 rfl ?_
  refine w_if2 am_e152 rfl rfl (fun c => ?_) (fun c => ?_)
  · replace h := h.1 (of_decide_eq_true c)
    refine w_st (i' := 12) (ls' := [.ref 89, .int p1, .int p2, .ref 12, .ref 18, am_U, am_U]) (st' := [.ref 18]) (E' := E) (I' := I) (J' := J) (S' := S) am_e152 rfl rfl rfl rfl ?_
    refine w_st (i' := 13) (ls' := [.ref 89, .int p1, .int p2, .ref 12, .ref 18, am_U, am_U]) (st' := [.ref 33]) (E' := E) (I' := I) (J' := J) (S' := S) am_e152 rfl rfl rfl rfl ?_
    refine w_st (i' := 14) (ls' := [.ref 89, .int p1, .int p2, .ref 12, .ref 18, am_U, am_U]) (st' := [.int p1, .ref 33]) (E' := E) (I' := I) (J' := J) (S' := S) am_e152 rfl rfl rfl rfl ?_
    refine w_ia (k := 33) (n := 401) (jn := p1.toNatClampNeg) am_e152 rfl rfl (by decide) hf1 rfl ?_
    refine w_st (i' := 16) (ls' := [.ref 89, .int p1, .int p2, .ref 12, .ref 18, .int ((I 33) p1.toNatClampNeg), am_U]) (st' := []) (E' := E) (I' := I) (J' := J) (S' := S) am_e152 rfl rfl rfl rfl ?_
    refine w_st (i' := 17) (ls' := [.ref 89, .int p1, .int p2, .ref 12, .ref 18, .int ((I 33) p1.toNatClampNeg), am_U]) (st' := [.ref 12]) (E' := E) (I' := I) (J' := J) (S' := S) am_e152 rfl rfl rfl rfl ?_
    refine w_st (i' := 18) (ls' := [.ref 89, .int p1, .int p2, .ref 12, .ref 18, .int ((I 33) p1.toNatClampNeg), am_U]) (st' := [.ref 13]) (E' := E) (I' := I) (J' := J) (S' := S) am_e152 rfl rfl rfl rfl ?_
    refine w_st (i' := 19) (ls' := [.ref 89, .int p1, .int p2, .ref 12, .ref 18, .int ((I 33) p1.toNatClampNeg), am_U]) (st' := [.int ((I 33) p1.toNatClampNeg), .ref 13]) (E' := E) (I' := I) (J' := J) (S' := S) am_e152 rfl rfl rfl rfl ?_
    have hf3 := h.1
    replace h := h.2
    refine w_ia (k := 13) (n := 64) (jn := ((I 33) p1.toNatClampNeg).toNatClampNeg) am_e152 rfl rfl (by decide) hf3 rfl ?_
    refine w_st (i' := 21) (ls' := [.ref 89, .int p1, .int p2, .ref 12, .ref 18, .int ((I 33) p1.toNatClampNeg), am_U]) (st' := [.int (nI 8), .int ((I 13) (((I 33) p1.toNatClampNeg).toNatClampNeg))]) (E' := E) (I' := I) (J' := J) (S' := S) am_e152 rfl rfl rfl rfl ?_
    refine w_mg (i := 34) (ls' := [.ref 89, .int p1, .int p2, .ref 12, .ref 18, .int ((I 33) p1.toNatClampNeg), am_U]) (st' := [.int (if ((I 13) (((I 33) p1.toNatClampNeg).toNatClampNeg)) = (nI 8) then nI 1 else (if ((I 13) (((I 33) p2.toNatClampNeg).toNatClampNeg)) = (nI 8) then nI 1 else nI 0))]) (fun hm => ?_) ?_
    · replace h := h.1
      refine w_if2 am_e152 rfl rfl (fun c => ?_) (fun c => ?_)
      · have m4 : ((I 13) (((I 33) p1.toNatClampNeg).toNatClampNeg)) = (nI 8) := (of_decide_eq_true c)
        replace h := h.1 m4
        refine w_st (i' := 32) (ls' := [.ref 89, .int p1, .int p2, .ref 12, .ref 18, .int ((I 33) p1.toNatClampNeg), am_U]) (st' := [.int (nI 1)]) (E' := E) (I' := I) (J' := J) (S' := S) am_e152 rfl rfl rfl rfl ?_
        refine w_st (i' := 34) (ls' := [.ref 89, .int p1, .int p2, .ref 12, .ref 18, .int ((I 33) p1.toNatClampNeg), am_U]) (st' := [.int (nI 1)]) (E' := E) (I' := I) (J' := J) (S' := S) am_e152 rfl rfl rfl rfl ?_
        first | exact hm | (simp only [if_pos m4] at hm; exact hm)
      · have m4 : ¬ (((I 13) (((I 33) p1.toNatClampNeg).toNatClampNeg)) = (nI 8)) := (of_decide_eq_false c)
        replace h := h.2 m4
        refine w_st (i' := 23) (ls' := [.ref 89, .int p1, .int p2, .ref 12, .ref 18, .int ((I 33) p1.toNatClampNeg), am_U]) (st' := [.ref 12]) (E' := E) (I' := I) (J' := J) (S' := S) am_e152 rfl rfl rfl rfl ?_
        refine w_st (i' := 24) (ls' := [.ref 89, .int p1, .int p2, .ref 12, .ref 18, .int ((I 33) p1.toNatClampNeg), am_U]) (st' := [.ref 13]) (E' := E) (I' := I) (J' := J) (S' := S) am_e152 rfl rfl rfl rfl ?_
        refine w_st (i' := 25) (ls' := [.ref 89, .int p1, .int p2, .ref 12, .ref 18, .int ((I 33) p1.toNatClampNeg), am_U]) (st' := [.ref 18, .ref 13]) (E' := E) (I' := I) (J' := J) (S' := S) am_e152 rfl rfl rfl rfl ?_
        refine w_st (i' := 26) (ls' := [.ref 89, .int p1, .int p2, .ref 12, .ref 18, .int ((I 33) p1.toNatClampNeg), am_U]) (st' := [.ref 33, .ref 13]) (E' := E) (I' := I) (J' := J) (S' := S) am_e152 rfl rfl rfl rfl ?_
        refine w_st (i' := 27) (ls' := [.ref 89, .int p1, .int p2, .ref 12, .ref 18, .int ((I 33) p1.toNatClampNeg), am_U]) (st' := [.int p2, .ref 33, .ref 13]) (E' := E) (I' := I) (J' := J) (S' := S) am_e152 rfl rfl rfl rfl ?_
        refine w_ia (k := 33) (n := 401) (jn := p2.toNatClampNeg) am_e152 rfl rfl (by decide) hf2 rfl ?_
        show am_ww 152 28 [.ref 89, .int p1, .int p2, .ref 12, .ref 18, .int ((I 33) p1.toNatClampNeg), am_U] [.int ((I 33) p2.toNatClampNeg), .ref 13] E I J S _
        refine w_ia (k := 13) (n := 64) (jn := ((I 33) p2.toNatClampNeg).toNatClampNeg) am_e152 rfl rfl (by decide) h.1 rfl ?_
        replace h := h.2
        show am_ww 152 29 [.ref 89, .int p1, .int p2, .ref 12, .ref 18, .int ((I 33) p1.toNatClampNeg), am_U] [.int ((I 13) (((I 33) p2.toNatClampNeg).toNatClampNeg))] E I J S _
        refine w_st (i' := 30) (ls' := [.ref 89, .int p1, .int p2, .ref 12, .ref 18, .int ((I 33) p1.toNatClampNeg), am_U]) (st' := [.int (nI 8), .int ((I 13) (((I 33) p2.toNatClampNeg).toNatClampNeg))]) (E' := E) (I' := I) (J' := J) (S' := S) am_e152 rfl rfl rfl rfl ?_
        refine w_if2 am_e152 rfl rfl (fun c => ?_) (fun c => ?_)
        · have m5 : ¬ (((I 13) (((I 33) p2.toNatClampNeg).toNatClampNeg)) = (nI 8)) := (of_decide_eq_true c)
          refine w_st (i' := 34) (ls' := [.ref 89, .int p1, .int p2, .ref 12, .ref 18, .int ((I 33) p1.toNatClampNeg), am_U]) (st' := [.int (nI 0)]) (E' := E) (I' := I) (J' := J) (S' := S) am_e152 rfl rfl rfl rfl ?_
          first | exact hm | (simp only [if_neg m4, if_neg m5] at hm; exact hm)
        · have m5 : ((I 13) (((I 33) p2.toNatClampNeg).toNatClampNeg)) = (nI 8) := (Decidable.not_not.mp (of_decide_eq_false c))
          refine w_st (i' := 32) (ls' := [.ref 89, .int p1, .int p2, .ref 12, .ref 18, .int ((I 33) p1.toNatClampNeg), am_U]) (st' := [.int (nI 1)]) (E' := E) (I' := I) (J' := J) (S' := S) am_e152 rfl rfl rfl rfl ?_
          refine w_st (i' := 34) (ls' := [.ref 89, .int p1, .int p2, .ref 12, .ref 18, .int ((I 33) p1.toNatClampNeg), am_U]) (st' := [.int (nI 1)]) (E' := E) (I' := I) (J' := J) (S' := S) am_e152 rfl rfl rfl rfl ?_
          first | exact hm | (simp only [if_neg m4, if_pos m5] at hm; exact hm)
    replace h := h.2
    refine w_var (fun w6 => am_ww 152 34 [.ref 89, .int p1, .int p2, .ref 12, .ref 18, .int ((I 33) p1.toNatClampNeg), am_U] [.int w6] E I J S _) (if ((I 13) (((I 33) p1.toNatClampNeg).toNatClampNeg)) = (nI 8) then nI 1 else (if ((I 13) (((I 33) p2.toNatClampNeg).toNatClampNeg)) = (nI 8) then nI 1 else nI 0)) (fun w6 hw6 => ?_)
    replace h := h w6 hw6
    refine w_st (i' := 35) (ls' := [.ref 89, .int p1, .int p2, .ref 12, .ref 18, .int ((I 33) p1.toNatClampNeg), .int w6]) (st' := []) (E' := E) (I' := I) (J' := J) (S' := S) am_e152 rfl rfl rfl rfl ?_
    refine w_st (i' := 36) (ls' := [.ref 89, .int p1, .int p2, .ref 12, .ref 18, .int ((I 33) p1.toNatClampNeg), .int w6]) (st' := [.int w6]) (E' := E) (I' := I) (J' := J) (S' := S) am_e152 rfl rfl rfl rfl ?_
    refine w_if1 am_e152 rfl rfl (fun c => ?_) (fun c => ?_)
    · replace h := h.1 (of_decide_eq_true c)
      refine w_st (i' := 52) (ls' := [.ref 89, .int p1, .int p2, .ref 12, .ref 18, .int ((I 33) p1.toNatClampNeg), .int w6]) (st' := [.int (nI 0)]) (E' := E) (I' := I) (J' := J) (S' := S) am_e152 rfl rfl rfl rfl ?_
      exact w_end am_e152 rfl rfl rfl h
    · replace h := h.2 (of_decide_eq_false c)
      refine w_st (i' := 38) (ls' := [.ref 89, .int p1, .int p2, .ref 12, .ref 18, .int ((I 33) p1.toNatClampNeg), .int w6]) (st' := [.ref 89]) (E' := E) (I' := I) (J' := J) (S' := S) am_e152 rfl rfl rfl rfl ?_
      refine w_st (i' := 39) (ls' := [.ref 89, .int p1, .int p2, .ref 12, .ref 18, .int ((I 33) p1.toNatClampNeg), .int w6]) (st' := [.ref 92]) (E' := E) (I' := I) (J' := J) (S' := S) am_e152 rfl rfl rfl rfl ?_
      refine w_st (i' := 40) (ls' := [.ref 89, .int p1, .int p2, .ref 12, .ref 18, .int ((I 33) p1.toNatClampNeg), .int w6]) (st' := [.int p2, .ref 92]) (E' := E) (I' := I) (J' := J) (S' := S) am_e152 rfl rfl rfl rfl ?_
      refine w_st (i' := 41) (ls' := [.ref 89, .int p1, .int p2, .ref 12, .ref 18, .int ((I 33) p1.toNatClampNeg), .int w6]) (st' := [.int (nI 4), .int p2, .ref 92]) (E' := E) (I' := I) (J' := J) (S' := S) am_e152 rfl rfl rfl rfl ?_
      refine w_st (i' := 42) (ls' := [.ref 89, .int p1, .int p2, .ref 12, .ref 18, .int ((I 33) p1.toNatClampNeg), .int w6]) (st' := [.int (p2 * (nI 4)), .ref 92]) (E' := E) (I' := I) (J' := J) (S' := S) am_e152 rfl rfl rfl rfl ?_
      refine w_st (i' := 43) (ls' := [.ref 89, .int p1, .int p2, .ref 12, .ref 18, .int ((I 33) p1.toNatClampNeg), .int w6]) (st' := [.int ((I 33) p1.toNatClampNeg), .int (p2 * (nI 4)), .ref 92]) (E' := E) (I' := I) (J' := J) (S' := S) am_e152 rfl rfl rfl rfl ?_
      refine w_st (i' := 44) (ls' := [.ref 89, .int p1, .int p2, .ref 12, .ref 18, .int ((I 33) p1.toNatClampNeg), .int w6]) (st' := [.int (nI 16), .int ((I 33) p1.toNatClampNeg), .int (p2 * (nI 4)), .ref 92]) (E' := E) (I' := I) (J' := J) (S' := S) am_e152 rfl rfl rfl rfl ?_
      refine w_dv (by decide) am_e152 rfl ?_
      refine w_st (i' := 46) (ls' := [.ref 89, .int p1, .int p2, .ref 12, .ref 18, .int ((I 33) p1.toNatClampNeg), .int w6]) (st' := [.int ((p2 * (nI 4)) + (((I 33) p1.toNatClampNeg) / (nI 16))), .ref 92]) (E' := E) (I' := I) (J' := J) (S' := S) am_e152 rfl rfl rfl rfl ?_
      have hf7 := h.1
      replace h := h.2
      refine w_ia (k := 92) (n := 1604) (jn := ((p2 * (nI 4)) + (((I 33) p1.toNatClampNeg) / (nI 16))).toNatClampNeg) am_e152 rfl rfl (by decide) hf7 rfl ?_
      refine w_st (i' := 48) (ls' := [.ref 89, .int p1, .int p2, .ref 12, .ref 18, .int ((I 33) p1.toNatClampNeg), .int w6]) (st' := [.int p1, .int ((I 92) (((p2 * (nI 4)) + (((I 33) p1.toNatClampNeg) / (nI 16))).toNatClampNeg))]) (E' := E) (I' := I) (J' := J) (S' := S) am_e152 rfl rfl rfl rfl ?_
      refine w_if2 am_e152 rfl rfl (fun c => ?_) (fun c => ?_)
      · replace h := h.1 (of_decide_eq_true c)
        refine w_st (i' := 52) (ls' := [.ref 89, .int p1, .int p2, .ref 12, .ref 18, .int ((I 33) p1.toNatClampNeg), .int w6]) (st' := [.int (nI 0)]) (E' := E) (I' := I) (J' := J) (S' := S) am_e152 rfl rfl rfl rfl ?_
        exact w_end am_e152 rfl rfl rfl h
      · replace h := h.2 (of_decide_eq_false c)
        refine w_st (i' := 50) (ls' := [.ref 89, .int p1, .int p2, .ref 12, .ref 18, .int ((I 33) p1.toNatClampNeg), .int w6]) (st' := [.int (nI 1)]) (E' := E) (I' := I) (J' := J) (S' := S) am_e152 rfl rfl rfl rfl ?_
        refine w_st (i' := 52) (ls' := [.ref 89, .int p1, .int p2, .ref 12, .ref 18, .int ((I 33) p1.toNatClampNeg), .int w6]) (st' := [.int (nI 1)]) (E' := E) (I' := I) (J' := J) (S' := S) am_e152 rfl rfl rfl rfl ?_
        exact w_end am_e152 rfl rfl rfl h
  · replace h := h.2 (of_decide_eq_false c)
    refine w_st (i' := 10) (ls' := [.ref 89, .int p1, .int p2, .ref 12, .ref 18, am_U, am_U]) (st' := [.int (nI 0)]) (E' := E) (I' := I) (J' := J) (S' := S) am_e152 rfl rfl rfl rfl ?_
    exact w_end am_e152 rfl rfl rfl h
-- 151 countAt
theorem g151_0 {p1 : Int32} {E : am_Ev} {I : Nat → Nat → Int32} {J : Nat → Nat → Int64} {S : Nat → Nat → Option Nat} {Q : am_Qt}  (h : am_ww 151 2 [.ref 89, .int p1, .ref 12, .ref 18, .int (nI 1)] [] E I J S Q) : am_ww 151 0 [.ref 89, .int p1, .ref 12, .ref 18, am_U] [] E I J S Q := by
  refine w_st (i' := 1) (ls' := [.ref 89, .int p1, .ref 12, .ref 18, am_U]) (st' := [.int (nI 1)]) (E' := E) (I' := I) (J' := J) (S' := S) am_e151 rfl rfl rfl rfl ?_
  refine w_st (i' := 2) (ls' := [.ref 89, .int p1, .ref 12, .ref 18, .int (nI 1)]) (st' := []) (E' := E) (I' := I) (J' := J) (S' := S) am_e151 rfl rfl rfl rfl ?_
  exact h
theorem g151_2 {x1 : Int32} {x4 : Int32} {E : am_Ev} {I : Nat → Nat → Int32} {J : Nat → Nat → Int64} {S : Nat → Nat → Option Nat} {Q : am_Qt}  (h : (x1 ≤ x4 → (Q (.inl none) E I J S)) ∧ (¬ x1 ≤ x4 → (am_cl 152 [.ref 89, .int x4, .int x1, .ref 12, .ref 18] E I J S (q_I fun v1 E1 I1 J1 S1 => (v1 = 0 → (am_ww 151 2 [.ref 89, .int x1, .ref 12, .ref 18, .int (x4 + nI 1)] [] E1 I1 J1 S1 Q)) ∧ (¬ v1 = 0 → (vp_in x1 401 ∧ (vp_in x4 401 ∧ (vp_in ((I1 33) x4.toNatClampNeg) 64 ∧ (am_ww 151 2 [.ref 89, .int x1, .ref 12, .ref 18, .int (x4 + nI 1)] [] E1 (u_I (u_I I1 90 (upd (I1 90) x1.toNatClampNeg (((I1 90) x1.toNatClampNeg) + (nI 1)))) 89 (upd (upd (I1 89) 6 (((I1 89) 6) + (nI 1))) 7 (((I1 89) 7) ||| ((nI 1) <<< (((I1 91) x1.toNatClampNeg) &&& 31))))) (u_J J1 95 (vp_updL (J1 95) (((I1 33) x4.toNatClampNeg).toNatClampNeg) (((J1 95) (((I1 33) x4.toNatClampNeg).toNatClampNeg)) ||| ((lN 1) <<< (((I1 33) x1.toNatClampNeg).toInt64 &&& 63))))) S1 Q))))))))) : am_ww 151 2 [.ref 89, .int x1, .ref 12, .ref 18, .int x4] [] E I J S Q := by
  refine w_st (i' := 3) (ls' := [.ref 89, .int x1, .ref 12, .ref 18, .int x4]) (st' := [.int x4]) (E' := E) (I' := I) (J' := J) (S' := S) am_e151 rfl rfl rfl rfl ?_
  refine w_st (i' := 4) (ls' := [.ref 89, .int x1, .ref 12, .ref 18, .int x4]) (st' := [.int x1, .int x4]) (E' := E) (I' := I) (J' := J) (S' := S) am_e151 rfl rfl rfl rfl ?_
  refine w_if2 am_e151 rfl rfl (fun c => ?_) (fun c => ?_)
  · replace h := h.1 (of_decide_eq_true c)
    exact w_end am_e151 rfl rfl rfl h
  · replace h := h.2 (of_decide_eq_false c)
    refine w_st (i' := 6) (ls' := [.ref 89, .int x1, .ref 12, .ref 18, .int x4]) (st' := [.ref 89]) (E' := E) (I' := I) (J' := J) (S' := S) am_e151 rfl rfl rfl rfl ?_
    refine w_st (i' := 7) (ls' := [.ref 89, .int x1, .ref 12, .ref 18, .int x4]) (st' := [.int x4, .ref 89]) (E' := E) (I' := I) (J' := J) (S' := S) am_e151 rfl rfl rfl rfl ?_
    refine w_st (i' := 8) (ls' := [.ref 89, .int x1, .ref 12, .ref 18, .int x4]) (st' := [.int x1, .int x4, .ref 89]) (E' := E) (I' := I) (J' := J) (S' := S) am_e151 rfl rfl rfl rfl ?_
    refine w_st (i' := 9) (ls' := [.ref 89, .int x1, .ref 12, .ref 18, .int x4]) (st' := [.ref 12, .int x1, .int x4, .ref 89]) (E' := E) (I' := I) (J' := J) (S' := S) am_e151 rfl rfl rfl rfl ?_
    refine w_st (i' := 10) (ls' := [.ref 89, .int x1, .ref 12, .ref 18, .int x4]) (st' := [.ref 18, .ref 12, .int x1, .int x4, .ref 89]) (E' := E) (I' := I) (J' := J) (S' := S) am_e151 rfl rfl rfl rfl ?_
    refine w_cI am_e151 rfl rfl (as := [.ref 89, .int x4, .int x1, .ref 12, .ref 18]) (rest := []) rfl rfl (am_ww.mono h ?_)
    rintro _ E1 I1 J1 S1 ⟨v1, rfl, h⟩
    refine q_mkI ?_
    refine w_if1 am_e151 rfl rfl (fun c => ?_) (fun c => ?_)
    · replace h := h.1 (of_decide_eq_true c)
      refine w_st (i' := 54) (ls' := [.ref 89, .int x1, .ref 12, .ref 18, .int (x4 + nI 1)]) (st' := []) (E' := E1) (I' := I1) (J' := J1) (S' := S1) am_e151 rfl rfl rfl rfl ?_
      refine w_st (i' := 2) (ls' := [.ref 89, .int x1, .ref 12, .ref 18, .int (x4 + nI 1)]) (st' := []) (E' := E1) (I' := I1) (J' := J1) (S' := S1) am_e151 rfl rfl rfl rfl ?_
      exact h
    · replace h := h.2 (of_decide_eq_false c)
      refine w_st (i' := 13) (ls' := [.ref 89, .int x1, .ref 12, .ref 18, .int x4]) (st' := [.ref 89]) (E' := E1) (I' := I1) (J' := J1) (S' := S1) am_e151 rfl rfl rfl rfl ?_
      refine w_st (i' := 14) (ls' := [.ref 89, .int x1, .ref 12, .ref 18, .int x4]) (st' := [.ref 90]) (E' := E1) (I' := I1) (J' := J1) (S' := S1) am_e151 rfl rfl rfl rfl ?_
      refine w_st (i' := 15) (ls' := [.ref 89, .int x1, .ref 12, .ref 18, .int x4]) (st' := [.int x1, .ref 90]) (E' := E1) (I' := I1) (J' := J1) (S' := S1) am_e151 rfl rfl rfl rfl ?_
      refine w_st (i' := 16) (ls' := [.ref 89, .int x1, .ref 12, .ref 18, .int x4]) (st' := [.int x1, .ref 90, .int x1, .ref 90]) (E' := E1) (I' := I1) (J' := J1) (S' := S1) am_e151 rfl rfl rfl rfl ?_
      have hf2 := h.1
      replace h := h.2
      refine w_ia (k := 90) (n := 401) (jn := x1.toNatClampNeg) am_e151 rfl rfl (by decide) hf2 rfl ?_
      refine w_st (i' := 18) (ls' := [.ref 89, .int x1, .ref 12, .ref 18, .int x4]) (st' := [.int (nI 1), .int ((I1 90) x1.toNatClampNeg), .int x1, .ref 90]) (E' := E1) (I' := I1) (J' := J1) (S' := S1) am_e151 rfl rfl rfl rfl ?_
      refine w_st (i' := 19) (ls' := [.ref 89, .int x1, .ref 12, .ref 18, .int x4]) (st' := [.int (((I1 90) x1.toNatClampNeg) + (nI 1)), .int x1, .ref 90]) (E' := E1) (I' := I1) (J' := J1) (S' := S1) am_e151 rfl rfl rfl rfl ?_
      refine w_is (k := 90) (n := 401) (jn := x1.toNatClampNeg) am_e151 rfl rfl (by decide) hf2 rfl ?_
      show am_ww 151 20 [.ref 89, .int x1, .ref 12, .ref 18, .int x4] [] E1 (u_I I1 90 (upd (I1 90) x1.toNatClampNeg (((I1 90) x1.toNatClampNeg) + (nI 1)))) J1 S1 _
      refine w_st (i' := 21) (ls' := [.ref 89, .int x1, .ref 12, .ref 18, .int x4]) (st' := [.ref 89]) (E' := E1) (I' := (u_I I1 90 (upd (I1 90) x1.toNatClampNeg (((I1 90) x1.toNatClampNeg) + (nI 1))))) (J' := J1) (S' := S1) am_e151 rfl rfl rfl rfl ?_
      refine w_st (i' := 22) (ls' := [.ref 89, .int x1, .ref 12, .ref 18, .int x4]) (st' := [.ref 89, .ref 89]) (E' := E1) (I' := (u_I I1 90 (upd (I1 90) x1.toNatClampNeg (((I1 90) x1.toNatClampNeg) + (nI 1))))) (J' := J1) (S' := S1) am_e151 rfl rfl rfl rfl ?_
      refine w_st (i' := 23) (ls' := [.ref 89, .int x1, .ref 12, .ref 18, .int x4]) (st' := [.int ((I1 89) 6), .ref 89]) (E' := E1) (I' := (u_I I1 90 (upd (I1 90) x1.toNatClampNeg (((I1 90) x1.toNatClampNeg) + (nI 1))))) (J' := J1) (S' := S1) am_e151 rfl rfl rfl rfl ?_
      refine w_st (i' := 24) (ls' := [.ref 89, .int x1, .ref 12, .ref 18, .int x4]) (st' := [.int (nI 1), .int ((I1 89) 6), .ref 89]) (E' := E1) (I' := (u_I I1 90 (upd (I1 90) x1.toNatClampNeg (((I1 90) x1.toNatClampNeg) + (nI 1))))) (J' := J1) (S' := S1) am_e151 rfl rfl rfl rfl ?_
      refine w_st (i' := 25) (ls' := [.ref 89, .int x1, .ref 12, .ref 18, .int x4]) (st' := [.int (((I1 89) 6) + (nI 1)), .ref 89]) (E' := E1) (I' := (u_I I1 90 (upd (I1 90) x1.toNatClampNeg (((I1 90) x1.toNatClampNeg) + (nI 1))))) (J' := J1) (S' := S1) am_e151 rfl rfl rfl rfl ?_
      refine w_st (i' := 26) (ls' := [.ref 89, .int x1, .ref 12, .ref 18, .int x4]) (st' := []) (E' := E1) (I' := (u_I (u_I I1 90 (upd (I1 90) x1.toNatClampNeg (((I1 90) x1.toNatClampNeg) + (nI 1)))) 89 (upd (I1 89) 6 (((I1 89) 6) + (nI 1))))) (J' := J1) (S' := S1) am_e151 rfl rfl rfl rfl ?_
      refine w_st (i' := 27) (ls' := [.ref 89, .int x1, .ref 12, .ref 18, .int x4]) (st' := [.ref 89]) (E' := E1) (I' := (u_I (u_I I1 90 (upd (I1 90) x1.toNatClampNeg (((I1 90) x1.toNatClampNeg) + (nI 1)))) 89 (upd (I1 89) 6 (((I1 89) 6) + (nI 1))))) (J' := J1) (S' := S1) am_e151 rfl rfl rfl rfl ?_
      refine w_st (i' := 28) (ls' := [.ref 89, .int x1, .ref 12, .ref 18, .int x4]) (st' := [.ref 89, .ref 89]) (E' := E1) (I' := (u_I (u_I I1 90 (upd (I1 90) x1.toNatClampNeg (((I1 90) x1.toNatClampNeg) + (nI 1)))) 89 (upd (I1 89) 6 (((I1 89) 6) + (nI 1))))) (J' := J1) (S' := S1) am_e151 rfl rfl rfl rfl ?_
      refine w_st (i' := 29) (ls' := [.ref 89, .int x1, .ref 12, .ref 18, .int x4]) (st' := [.int ((I1 89) 7), .ref 89]) (E' := E1) (I' := (u_I (u_I I1 90 (upd (I1 90) x1.toNatClampNeg (((I1 90) x1.toNatClampNeg) + (nI 1)))) 89 (upd (I1 89) 6 (((I1 89) 6) + (nI 1))))) (J' := J1) (S' := S1) am_e151 rfl rfl rfl rfl ?_
      refine w_st (i' := 30) (ls' := [.ref 89, .int x1, .ref 12, .ref 18, .int x4]) (st' := [.int (nI 1), .int ((I1 89) 7), .ref 89]) (E' := E1) (I' := (u_I (u_I I1 90 (upd (I1 90) x1.toNatClampNeg (((I1 90) x1.toNatClampNeg) + (nI 1)))) 89 (upd (I1 89) 6 (((I1 89) 6) + (nI 1))))) (J' := J1) (S' := S1) am_e151 rfl rfl rfl rfl ?_
      refine w_st (i' := 31) (ls' := [.ref 89, .int x1, .ref 12, .ref 18, .int x4]) (st' := [.ref 89, .int (nI 1), .int ((I1 89) 7), .ref 89]) (E' := E1) (I' := (u_I (u_I I1 90 (upd (I1 90) x1.toNatClampNeg (((I1 90) x1.toNatClampNeg) + (nI 1)))) 89 (upd (I1 89) 6 (((I1 89) 6) + (nI 1))))) (J' := J1) (S' := S1) am_e151 rfl rfl rfl rfl ?_
      refine w_st (i' := 32) (ls' := [.ref 89, .int x1, .ref 12, .ref 18, .int x4]) (st' := [.ref 91, .int (nI 1), .int ((I1 89) 7), .ref 89]) (E' := E1) (I' := (u_I (u_I I1 90 (upd (I1 90) x1.toNatClampNeg (((I1 90) x1.toNatClampNeg) + (nI 1)))) 89 (upd (I1 89) 6 (((I1 89) 6) + (nI 1))))) (J' := J1) (S' := S1) am_e151 rfl rfl rfl rfl ?_
      refine w_st (i' := 33) (ls' := [.ref 89, .int x1, .ref 12, .ref 18, .int x4]) (st' := [.int x1, .ref 91, .int (nI 1), .int ((I1 89) 7), .ref 89]) (E' := E1) (I' := (u_I (u_I I1 90 (upd (I1 90) x1.toNatClampNeg (((I1 90) x1.toNatClampNeg) + (nI 1)))) 89 (upd (I1 89) 6 (((I1 89) 6) + (nI 1))))) (J' := J1) (S' := S1) am_e151 rfl rfl rfl rfl ?_
      refine w_ia (k := 91) (n := 401) (jn := x1.toNatClampNeg) am_e151 rfl rfl (by decide) hf2 rfl ?_
      show am_ww 151 34 [.ref 89, .int x1, .ref 12, .ref 18, .int x4] [.int ((I1 91) x1.toNatClampNeg), .int (nI 1), .int ((I1 89) 7), .ref 89] E1 (u_I (u_I I1 90 (upd (I1 90) x1.toNatClampNeg (((I1 90) x1.toNatClampNeg) + (nI 1)))) 89 (upd (I1 89) 6 (((I1 89) 6) + (nI 1)))) J1 S1 _
      refine w_st (i' := 35) (ls' := [.ref 89, .int x1, .ref 12, .ref 18, .int x4]) (st' := [.int ((nI 1) <<< (((I1 91) x1.toNatClampNeg) &&& 31)), .int ((I1 89) 7), .ref 89]) (E' := E1) (I' := (u_I (u_I I1 90 (upd (I1 90) x1.toNatClampNeg (((I1 90) x1.toNatClampNeg) + (nI 1)))) 89 (upd (I1 89) 6 (((I1 89) 6) + (nI 1))))) (J' := J1) (S' := S1) am_e151 rfl rfl rfl rfl ?_
      refine w_st (i' := 36) (ls' := [.ref 89, .int x1, .ref 12, .ref 18, .int x4]) (st' := [.int (((I1 89) 7) ||| ((nI 1) <<< (((I1 91) x1.toNatClampNeg) &&& 31))), .ref 89]) (E' := E1) (I' := (u_I (u_I I1 90 (upd (I1 90) x1.toNatClampNeg (((I1 90) x1.toNatClampNeg) + (nI 1)))) 89 (upd (I1 89) 6 (((I1 89) 6) + (nI 1))))) (J' := J1) (S' := S1) am_e151 rfl rfl rfl rfl ?_
      refine w_st (i' := 37) (ls' := [.ref 89, .int x1, .ref 12, .ref 18, .int x4]) (st' := []) (E' := E1) (I' := (u_I (u_I (u_I I1 90 (upd (I1 90) x1.toNatClampNeg (((I1 90) x1.toNatClampNeg) + (nI 1)))) 89 (upd (I1 89) 6 (((I1 89) 6) + (nI 1)))) 89 (upd (upd (I1 89) 6 (((I1 89) 6) + (nI 1))) 7 (((I1 89) 7) ||| ((nI 1) <<< (((I1 91) x1.toNatClampNeg) &&& 31)))))) (J' := J1) (S' := S1) am_e151 rfl rfl rfl rfl ?_
      refine w_eI (uI_0 ..) ?_
      show am_ww 151 37 [.ref 89, .int x1, .ref 12, .ref 18, .int x4] [] E1 (u_I (u_I I1 90 (upd (I1 90) x1.toNatClampNeg (((I1 90) x1.toNatClampNeg) + (nI 1)))) 89 (upd (upd (I1 89) 6 (((I1 89) 6) + (nI 1))) 7 (((I1 89) 7) ||| ((nI 1) <<< (((I1 91) x1.toNatClampNeg) &&& 31))))) J1 S1 _
      refine w_st (i' := 38) (ls' := [.ref 89, .int x1, .ref 12, .ref 18, .int x4]) (st' := [.ref 89]) (E' := E1) (I' := (u_I (u_I I1 90 (upd (I1 90) x1.toNatClampNeg (((I1 90) x1.toNatClampNeg) + (nI 1)))) 89 (upd (upd (I1 89) 6 (((I1 89) 6) + (nI 1))) 7 (((I1 89) 7) ||| ((nI 1) <<< (((I1 91) x1.toNatClampNeg) &&& 31)))))) (J' := J1) (S' := S1) am_e151 rfl rfl rfl rfl ?_
      refine w_st (i' := 39) (ls' := [.ref 89, .int x1, .ref 12, .ref 18, .int x4]) (st' := [.ref 95]) (E' := E1) (I' := (u_I (u_I I1 90 (upd (I1 90) x1.toNatClampNeg (((I1 90) x1.toNatClampNeg) + (nI 1)))) 89 (upd (upd (I1 89) 6 (((I1 89) 6) + (nI 1))) 7 (((I1 89) 7) ||| ((nI 1) <<< (((I1 91) x1.toNatClampNeg) &&& 31)))))) (J' := J1) (S' := S1) am_e151 rfl rfl rfl rfl ?_
      refine w_st (i' := 40) (ls' := [.ref 89, .int x1, .ref 12, .ref 18, .int x4]) (st' := [.ref 18, .ref 95]) (E' := E1) (I' := (u_I (u_I I1 90 (upd (I1 90) x1.toNatClampNeg (((I1 90) x1.toNatClampNeg) + (nI 1)))) 89 (upd (upd (I1 89) 6 (((I1 89) 6) + (nI 1))) 7 (((I1 89) 7) ||| ((nI 1) <<< (((I1 91) x1.toNatClampNeg) &&& 31)))))) (J' := J1) (S' := S1) am_e151 rfl rfl rfl rfl ?_
      refine w_st (i' := 41) (ls' := [.ref 89, .int x1, .ref 12, .ref 18, .int x4]) (st' := [.ref 33, .ref 95]) (E' := E1) (I' := (u_I (u_I I1 90 (upd (I1 90) x1.toNatClampNeg (((I1 90) x1.toNatClampNeg) + (nI 1)))) 89 (upd (upd (I1 89) 6 (((I1 89) 6) + (nI 1))) 7 (((I1 89) 7) ||| ((nI 1) <<< (((I1 91) x1.toNatClampNeg) &&& 31)))))) (J' := J1) (S' := S1) am_e151 rfl rfl rfl rfl ?_
      refine w_st (i' := 42) (ls' := [.ref 89, .int x1, .ref 12, .ref 18, .int x4]) (st' := [.int x4, .ref 33, .ref 95]) (E' := E1) (I' := (u_I (u_I I1 90 (upd (I1 90) x1.toNatClampNeg (((I1 90) x1.toNatClampNeg) + (nI 1)))) 89 (upd (upd (I1 89) 6 (((I1 89) 6) + (nI 1))) 7 (((I1 89) 7) ||| ((nI 1) <<< (((I1 91) x1.toNatClampNeg) &&& 31)))))) (J' := J1) (S' := S1) am_e151 rfl rfl rfl rfl ?_
      have hf3 := h.1
      replace h := h.2
      refine w_ia (k := 33) (n := 401) (jn := x4.toNatClampNeg) am_e151 rfl rfl (by decide) hf3 rfl ?_
      show am_ww 151 43 [.ref 89, .int x1, .ref 12, .ref 18, .int x4] [.int ((I1 33) x4.toNatClampNeg), .ref 95] E1 (u_I (u_I I1 90 (upd (I1 90) x1.toNatClampNeg (((I1 90) x1.toNatClampNeg) + (nI 1)))) 89 (upd (upd (I1 89) 6 (((I1 89) 6) + (nI 1))) 7 (((I1 89) 7) ||| ((nI 1) <<< (((I1 91) x1.toNatClampNeg) &&& 31))))) J1 S1 _
      refine w_st (i' := 44) (ls' := [.ref 89, .int x1, .ref 12, .ref 18, .int x4]) (st' := [.int ((I1 33) x4.toNatClampNeg), .ref 95, .int ((I1 33) x4.toNatClampNeg), .ref 95]) (E' := E1) (I' := (u_I (u_I I1 90 (upd (I1 90) x1.toNatClampNeg (((I1 90) x1.toNatClampNeg) + (nI 1)))) 89 (upd (upd (I1 89) 6 (((I1 89) 6) + (nI 1))) 7 (((I1 89) 7) ||| ((nI 1) <<< (((I1 91) x1.toNatClampNeg) &&& 31)))))) (J' := J1) (S' := S1) am_e151 rfl rfl rfl rfl ?_
      have hf4 := h.1
      replace h := h.2
      refine w_la (k := 95) (n := 64) (jn := ((I1 33) x4.toNatClampNeg).toNatClampNeg) am_e151 rfl rfl (by decide) hf4 rfl ?_
      show am_ww 151 45 [.ref 89, .int x1, .ref 12, .ref 18, .int x4] [.long ((J1 95) (((I1 33) x4.toNatClampNeg).toNatClampNeg)), .int ((I1 33) x4.toNatClampNeg), .ref 95] E1 (u_I (u_I I1 90 (upd (I1 90) x1.toNatClampNeg (((I1 90) x1.toNatClampNeg) + (nI 1)))) 89 (upd (upd (I1 89) 6 (((I1 89) 6) + (nI 1))) 7 (((I1 89) 7) ||| ((nI 1) <<< (((I1 91) x1.toNatClampNeg) &&& 31))))) J1 S1 _
      refine w_st (i' := 46) (ls' := [.ref 89, .int x1, .ref 12, .ref 18, .int x4]) (st' := [.long (lN 1), .long ((J1 95) (((I1 33) x4.toNatClampNeg).toNatClampNeg)), .int ((I1 33) x4.toNatClampNeg), .ref 95]) (E' := E1) (I' := (u_I (u_I I1 90 (upd (I1 90) x1.toNatClampNeg (((I1 90) x1.toNatClampNeg) + (nI 1)))) 89 (upd (upd (I1 89) 6 (((I1 89) 6) + (nI 1))) 7 (((I1 89) 7) ||| ((nI 1) <<< (((I1 91) x1.toNatClampNeg) &&& 31)))))) (J' := J1) (S' := S1) am_e151 rfl rfl rfl rfl ?_
      refine w_st (i' := 47) (ls' := [.ref 89, .int x1, .ref 12, .ref 18, .int x4]) (st' := [.ref 18, .long (lN 1), .long ((J1 95) (((I1 33) x4.toNatClampNeg).toNatClampNeg)), .int ((I1 33) x4.toNatClampNeg), .ref 95]) (E' := E1) (I' := (u_I (u_I I1 90 (upd (I1 90) x1.toNatClampNeg (((I1 90) x1.toNatClampNeg) + (nI 1)))) 89 (upd (upd (I1 89) 6 (((I1 89) 6) + (nI 1))) 7 (((I1 89) 7) ||| ((nI 1) <<< (((I1 91) x1.toNatClampNeg) &&& 31)))))) (J' := J1) (S' := S1) am_e151 rfl rfl rfl rfl ?_
      refine w_st (i' := 48) (ls' := [.ref 89, .int x1, .ref 12, .ref 18, .int x4]) (st' := [.ref 33, .long (lN 1), .long ((J1 95) (((I1 33) x4.toNatClampNeg).toNatClampNeg)), .int ((I1 33) x4.toNatClampNeg), .ref 95]) (E' := E1) (I' := (u_I (u_I I1 90 (upd (I1 90) x1.toNatClampNeg (((I1 90) x1.toNatClampNeg) + (nI 1)))) 89 (upd (upd (I1 89) 6 (((I1 89) 6) + (nI 1))) 7 (((I1 89) 7) ||| ((nI 1) <<< (((I1 91) x1.toNatClampNeg) &&& 31)))))) (J' := J1) (S' := S1) am_e151 rfl rfl rfl rfl ?_
      refine w_st (i' := 49) (ls' := [.ref 89, .int x1, .ref 12, .ref 18, .int x4]) (st' := [.int x1, .ref 33, .long (lN 1), .long ((J1 95) (((I1 33) x4.toNatClampNeg).toNatClampNeg)), .int ((I1 33) x4.toNatClampNeg), .ref 95]) (E' := E1) (I' := (u_I (u_I I1 90 (upd (I1 90) x1.toNatClampNeg (((I1 90) x1.toNatClampNeg) + (nI 1)))) 89 (upd (upd (I1 89) 6 (((I1 89) 6) + (nI 1))) 7 (((I1 89) 7) ||| ((nI 1) <<< (((I1 91) x1.toNatClampNeg) &&& 31)))))) (J' := J1) (S' := S1) am_e151 rfl rfl rfl rfl ?_
      refine w_ia (k := 33) (n := 401) (jn := x1.toNatClampNeg) am_e151 rfl rfl (by decide) hf2 rfl ?_
      show am_ww 151 50 [.ref 89, .int x1, .ref 12, .ref 18, .int x4] [.int ((I1 33) x1.toNatClampNeg), .long (lN 1), .long ((J1 95) (((I1 33) x4.toNatClampNeg).toNatClampNeg)), .int ((I1 33) x4.toNatClampNeg), .ref 95] E1 (u_I (u_I I1 90 (upd (I1 90) x1.toNatClampNeg (((I1 90) x1.toNatClampNeg) + (nI 1)))) 89 (upd (upd (I1 89) 6 (((I1 89) 6) + (nI 1))) 7 (((I1 89) 7) ||| ((nI 1) <<< (((I1 91) x1.toNatClampNeg) &&& 31))))) J1 S1 _
      refine w_st (i' := 51) (ls' := [.ref 89, .int x1, .ref 12, .ref 18, .int x4]) (st' := [.long ((lN 1) <<< (((I1 33) x1.toNatClampNeg).toInt64 &&& 63)), .long ((J1 95) (((I1 33) x4.toNatClampNeg).toNatClampNeg)), .int ((I1 33) x4.toNatClampNeg), .ref 95]) (E' := E1) (I' := (u_I (u_I I1 90 (upd (I1 90) x1.toNatClampNeg (((I1 90) x1.toNatClampNeg) + (nI 1)))) 89 (upd (upd (I1 89) 6 (((I1 89) 6) + (nI 1))) 7 (((I1 89) 7) ||| ((nI 1) <<< (((I1 91) x1.toNatClampNeg) &&& 31)))))) (J' := J1) (S' := S1) am_e151 rfl rfl rfl rfl ?_
      refine w_st (i' := 52) (ls' := [.ref 89, .int x1, .ref 12, .ref 18, .int x4]) (st' := [.long (((J1 95) (((I1 33) x4.toNatClampNeg).toNatClampNeg)) ||| ((lN 1) <<< (((I1 33) x1.toNatClampNeg).toInt64 &&& 63))), .int ((I1 33) x4.toNatClampNeg), .ref 95]) (E' := E1) (I' := (u_I (u_I I1 90 (upd (I1 90) x1.toNatClampNeg (((I1 90) x1.toNatClampNeg) + (nI 1)))) 89 (upd (upd (I1 89) 6 (((I1 89) 6) + (nI 1))) 7 (((I1 89) 7) ||| ((nI 1) <<< (((I1 91) x1.toNatClampNeg) &&& 31)))))) (J' := J1) (S' := S1) am_e151 rfl rfl rfl rfl ?_
      refine w_ls (k := 95) (n := 64) (jn := ((I1 33) x4.toNatClampNeg).toNatClampNeg) am_e151 rfl rfl (by decide) hf4 rfl ?_
      show am_ww 151 53 [.ref 89, .int x1, .ref 12, .ref 18, .int x4] [] E1 (u_I (u_I I1 90 (upd (I1 90) x1.toNatClampNeg (((I1 90) x1.toNatClampNeg) + (nI 1)))) 89 (upd (upd (I1 89) 6 (((I1 89) 6) + (nI 1))) 7 (((I1 89) 7) ||| ((nI 1) <<< (((I1 91) x1.toNatClampNeg) &&& 31))))) (u_J J1 95 (vp_updL (J1 95) (((I1 33) x4.toNatClampNeg).toNatClampNeg) (((J1 95) (((I1 33) x4.toNatClampNeg).toNatClampNeg)) ||| ((lN 1) <<< (((I1 33) x1.toNatClampNeg).toInt64 &&& 63))))) S1 _
      refine w_st (i' := 54) (ls' := [.ref 89, .int x1, .ref 12, .ref 18, .int (x4 + nI 1)]) (st' := []) (E' := E1) (I' := (u_I (u_I I1 90 (upd (I1 90) x1.toNatClampNeg (((I1 90) x1.toNatClampNeg) + (nI 1)))) 89 (upd (upd (I1 89) 6 (((I1 89) 6) + (nI 1))) 7 (((I1 89) 7) ||| ((nI 1) <<< (((I1 91) x1.toNatClampNeg) &&& 31)))))) (J' := (u_J J1 95 (vp_updL (J1 95) (((I1 33) x4.toNatClampNeg).toNatClampNeg) (((J1 95) (((I1 33) x4.toNatClampNeg).toNatClampNeg)) ||| ((lN 1) <<< (((I1 33) x1.toNatClampNeg).toInt64 &&& 63)))))) (S' := S1) am_e151 rfl rfl rfl rfl ?_
      refine w_st (i' := 2) (ls' := [.ref 89, .int x1, .ref 12, .ref 18, .int (x4 + nI 1)]) (st' := []) (E' := E1) (I' := (u_I (u_I I1 90 (upd (I1 90) x1.toNatClampNeg (((I1 90) x1.toNatClampNeg) + (nI 1)))) 89 (upd (upd (I1 89) 6 (((I1 89) 6) + (nI 1))) 7 (((I1 89) 7) ||| ((nI 1) <<< (((I1 91) x1.toNatClampNeg) &&& 31)))))) (J' := (u_J J1 95 (vp_updL (J1 95) (((I1 33) x4.toNatClampNeg).toNatClampNeg) (((J1 95) (((I1 33) x4.toNatClampNeg).toNatClampNeg)) ||| ((lN 1) <<< (((I1 33) x1.toNatClampNeg).toInt64 &&& 63)))))) (S' := S1) am_e151 rfl rfl rfl rfl ?_
      exact h
-- 145 find
theorem g145_0  {E : am_Ev} {I : Nat → Nat → Int32} {J : Nat → Nat → Int64} {S : Nat → Nat → Option Nat} {Q : am_Qt}  (h : (((I 89) 8) = 0 → (am_cl 13 [.ref 90, .int (nI 0)] E I J S (q_V fun E1 I1 J1 S1 => am_cl 13 [.ref 93, .int (nI 0)] E1 I1 J1 S1 (q_V fun E2 I2 J2 S2 => am_cl 13 [.ref 94, .int (nI 0)] E2 I2 J2 S2 (q_V fun E3 I3 J3 S3 => am_cl 62 [.ref 95, .long (lN 0)] E3 I3 J3 S3 (q_V fun E4 I4 J4 S4 => am_cl 13 [.ref 88, .int (-1)] E4 (u_I I4 89 (upd (upd (I4 89) 6 (nI 0)) 7 (nI 0))) J4 S4 (q_V fun E5 I5 J5 S5 => am_ww 145 10 [.ref 89, .ref 12, .ref 18, .ref 87, .int (nI 1), am_U] [] E5 I5 J5 S5 Q))))))) ∧ (¬ ((I 89) 8) = 0 → (Q (.inl none) E I J S))) : am_ww 145 0 [.ref 89, .ref 12, .ref 18, .ref 87, am_U, am_U] [] E I J S Q := by
  refine w_st (i' := 1) (ls' := [.ref 89, .ref 12, .ref 18, .ref 87, am_U, am_U]) (st' := [.ref 89]) (E' := E) (I' := I) (J' := J) (S' := S) am_e145 rfl rfl rfl rfl ?_
  refine w_st (i' := 2) (ls' := [.ref 89, .ref 12, .ref 18, .ref 87, am_U, am_U]) (st' := [.int ((I 89) 8)]) (E' := E) (I' := I) (J' := J) (S' := S) am_e145 rfl rfl rfl rfl ?_
  refine w_if1 am_e145 rfl rfl (fun c => ?_) (fun c => ?_)
  · replace h := h.1 (of_decide_eq_true c)
    refine w_st (i' := 5) (ls' := [.ref 89, .ref 12, .ref 18, .ref 87, am_U, am_U]) (st' := [.ref 89]) (E' := E) (I' := I) (J' := J) (S' := S) am_e145 rfl rfl rfl rfl ?_
    refine w_cV am_e145 rfl rfl (as := [.ref 89]) (rest := []) rfl rfl ?_
    show am_ww 146 0 [.ref 89] [] E I J S _
    refine w_st (i' := 1) (ls' := [.ref 89]) (st' := [.ref 89]) (E' := E) (I' := I) (J' := J) (S' := S) am_e146 rfl rfl rfl rfl ?_
    refine w_st (i' := 2) (ls' := [.ref 89]) (st' := [.ref 90]) (E' := E) (I' := I) (J' := J) (S' := S) am_e146 rfl rfl rfl rfl ?_
    refine w_st (i' := 3) (ls' := [.ref 89]) (st' := [.int (nI 0), .ref 90]) (E' := E) (I' := I) (J' := J) (S' := S) am_e146 rfl rfl rfl rfl ?_
    refine w_cV am_e146 rfl rfl (as := [.ref 90, .int (nI 0)]) (rest := []) rfl rfl (am_ww.mono h ?_)
    rintro _ E1 I1 J1 S1 ⟨rfl, h⟩
    refine q_mkV ?_
    refine w_st (i' := 5) (ls' := [.ref 89]) (st' := [.ref 89]) (E' := E1) (I' := I1) (J' := J1) (S' := S1) am_e146 rfl rfl rfl rfl ?_
    refine w_st (i' := 6) (ls' := [.ref 89]) (st' := [.ref 93]) (E' := E1) (I' := I1) (J' := J1) (S' := S1) am_e146 rfl rfl rfl rfl ?_
    refine w_st (i' := 7) (ls' := [.ref 89]) (st' := [.int (nI 0), .ref 93]) (E' := E1) (I' := I1) (J' := J1) (S' := S1) am_e146 rfl rfl rfl rfl ?_
    refine w_cV am_e146 rfl rfl (as := [.ref 93, .int (nI 0)]) (rest := []) rfl rfl (am_ww.mono h ?_)
    rintro _ E2 I2 J2 S2 ⟨rfl, h⟩
    refine q_mkV ?_
    refine w_st (i' := 9) (ls' := [.ref 89]) (st' := [.ref 89]) (E' := E2) (I' := I2) (J' := J2) (S' := S2) am_e146 rfl rfl rfl rfl ?_
    refine w_st (i' := 10) (ls' := [.ref 89]) (st' := [.ref 94]) (E' := E2) (I' := I2) (J' := J2) (S' := S2) am_e146 rfl rfl rfl rfl ?_
    refine w_st (i' := 11) (ls' := [.ref 89]) (st' := [.int (nI 0), .ref 94]) (E' := E2) (I' := I2) (J' := J2) (S' := S2) am_e146 rfl rfl rfl rfl ?_
    refine w_cV am_e146 rfl rfl (as := [.ref 94, .int (nI 0)]) (rest := []) rfl rfl (am_ww.mono h ?_)
    rintro _ E3 I3 J3 S3 ⟨rfl, h⟩
    refine q_mkV ?_
    refine w_st (i' := 13) (ls' := [.ref 89]) (st' := [.ref 89]) (E' := E3) (I' := I3) (J' := J3) (S' := S3) am_e146 rfl rfl rfl rfl ?_
    refine w_st (i' := 14) (ls' := [.ref 89]) (st' := [.ref 95]) (E' := E3) (I' := I3) (J' := J3) (S' := S3) am_e146 rfl rfl rfl rfl ?_
    refine w_st (i' := 15) (ls' := [.ref 89]) (st' := [.long (lN 0), .ref 95]) (E' := E3) (I' := I3) (J' := J3) (S' := S3) am_e146 rfl rfl rfl rfl ?_
    refine w_cV am_e146 rfl rfl (as := [.ref 95, .long (lN 0)]) (rest := []) rfl rfl (am_ww.mono h ?_)
    rintro _ E4 I4 J4 S4 ⟨rfl, h⟩
    refine q_mkV ?_
    refine w_st (i' := 17) (ls' := [.ref 89]) (st' := [.ref 89]) (E' := E4) (I' := I4) (J' := J4) (S' := S4) am_e146 rfl rfl rfl rfl ?_
    refine w_st (i' := 18) (ls' := [.ref 89]) (st' := [.int (nI 0), .ref 89]) (E' := E4) (I' := I4) (J' := J4) (S' := S4) am_e146 rfl rfl rfl rfl ?_
    refine w_st (i' := 19) (ls' := [.ref 89]) (st' := []) (E' := E4) (I' := (u_I I4 89 (upd (I4 89) 6 (nI 0)))) (J' := J4) (S' := S4) am_e146 rfl rfl rfl rfl ?_
    refine w_st (i' := 20) (ls' := [.ref 89]) (st' := [.ref 89]) (E' := E4) (I' := (u_I I4 89 (upd (I4 89) 6 (nI 0)))) (J' := J4) (S' := S4) am_e146 rfl rfl rfl rfl ?_
    refine w_st (i' := 21) (ls' := [.ref 89]) (st' := [.int (nI 0), .ref 89]) (E' := E4) (I' := (u_I I4 89 (upd (I4 89) 6 (nI 0)))) (J' := J4) (S' := S4) am_e146 rfl rfl rfl rfl ?_
    refine w_st (i' := 22) (ls' := [.ref 89]) (st' := []) (E' := E4) (I' := (u_I (u_I I4 89 (upd (I4 89) 6 (nI 0))) 89 (upd (upd (I4 89) 6 (nI 0)) 7 (nI 0)))) (J' := J4) (S' := S4) am_e146 rfl rfl rfl rfl ?_
    refine w_eI (uI_0 ..) ?_
    show am_ww 146 22 [.ref 89] [] E4 (u_I I4 89 (upd (upd (I4 89) 6 (nI 0)) 7 (nI 0))) J4 S4 _
    refine w_end (E' := E4) (I' := (u_I I4 89 (upd (upd (I4 89) 6 (nI 0)) 7 (nI 0)))) (J' := J4) (S' := S4) am_e146 rfl rfl rfl (q_mkV ?_)
    show am_ww 145 6 [.ref 89, .ref 12, .ref 18, .ref 87, am_U, am_U] [] E4 (u_I I4 89 (upd (upd (I4 89) 6 (nI 0)) 7 (nI 0))) J4 S4 _
    refine w_st (i' := 7) (ls' := [.ref 89, .ref 12, .ref 18, .ref 87, am_U, am_U]) (st' := [.ref 87]) (E' := E4) (I' := (u_I I4 89 (upd (upd (I4 89) 6 (nI 0)) 7 (nI 0)))) (J' := J4) (S' := S4) am_e145 rfl rfl rfl rfl ?_
    refine w_cV am_e145 rfl rfl (as := [.ref 87]) (rest := []) rfl rfl ?_
    show am_ww 147 0 [.ref 87] [] E4 (u_I I4 89 (upd (upd (I4 89) 6 (nI 0)) 7 (nI 0))) J4 S4 _
    refine w_st (i' := 1) (ls' := [.ref 87]) (st' := [.ref 87]) (E' := E4) (I' := (u_I I4 89 (upd (upd (I4 89) 6 (nI 0)) 7 (nI 0)))) (J' := J4) (S' := S4) am_e147 rfl rfl rfl rfl ?_
    refine w_st (i' := 2) (ls' := [.ref 87]) (st' := [.ref 88]) (E' := E4) (I' := (u_I I4 89 (upd (upd (I4 89) 6 (nI 0)) 7 (nI 0)))) (J' := J4) (S' := S4) am_e147 rfl rfl rfl rfl ?_
    refine w_st (i' := 3) (ls' := [.ref 87]) (st' := [.int (-1), .ref 88]) (E' := E4) (I' := (u_I I4 89 (upd (upd (I4 89) 6 (nI 0)) 7 (nI 0)))) (J' := J4) (S' := S4) am_e147 rfl rfl rfl rfl ?_
    refine w_cV am_e147 rfl rfl (as := [.ref 88, .int (-1)]) (rest := []) rfl rfl (am_ww.mono h ?_)
    rintro _ E5 I5 J5 S5 ⟨rfl, h⟩
    refine q_mkV ?_
    refine w_end (E' := E5) (I' := I5) (J' := J5) (S' := S5) am_e147 rfl rfl rfl (q_mkV ?_)
    show am_ww 145 8 [.ref 89, .ref 12, .ref 18, .ref 87, am_U, am_U] [] E5 I5 J5 S5 _
    refine w_st (i' := 9) (ls' := [.ref 89, .ref 12, .ref 18, .ref 87, am_U, am_U]) (st' := [.int (nI 1)]) (E' := E5) (I' := I5) (J' := J5) (S' := S5) am_e145 rfl rfl rfl rfl ?_
    refine w_st (i' := 10) (ls' := [.ref 89, .ref 12, .ref 18, .ref 87, .int (nI 1), am_U]) (st' := []) (E' := E5) (I' := I5) (J' := J5) (S' := S5) am_e145 rfl rfl rfl rfl ?_
    exact h
  · replace h := h.2 (of_decide_eq_false c)
    exact w_end am_e145 rfl rfl rfl h
theorem g145_10 {x4 : Int32} {d5 : Value} {E : am_Ev} {I : Nat → Nat → Int32} {J : Nat → Nat → Int64} {S : Nat → Nat → Option Nat} {Q : am_Qt} (hd5 : am_isL d5 = false) (h : (((I 18) 10) < x4 → (Q (.inl none) E (u_I I 89 (upd (I 89) 8 (nI 1))) J S)) ∧ (¬ ((I 18) 10) < x4 → (vp_in x4 401 ∧ (am_cl 148 [.ref 89, .ref 12, .int ((I 33) x4.toNatClampNeg), .int x4, .ref 87] E I J S (q_V fun E2 I2 J2 S2 => am_cl 150 [.ref 87, .ref 12, .int ((I 33) x4.toNatClampNeg)] E2 I2 J2 S2 (q_V fun E3 I3 J3 S3 => am_cl 138 [.ref 12, .int ((I 33) x4.toNatClampNeg)] E3 I3 J3 S3 (q_I fun v4 E4 I4 J4 S4 => (((upd (I4 91) x4.toNatClampNeg v4) x4.toNatClampNeg) = (-1) → (am_ww 145 10 [.ref 89, .ref 12, .ref 18, .ref 87, .int (x4 + nI 1), .int ((I 33) x4.toNatClampNeg)] [] E4 (u_I I4 91 (upd (I4 91) x4.toNatClampNeg v4)) J4 S4 Q)) ∧ (¬ ((upd (I4 91) x4.toNatClampNeg v4) x4.toNatClampNeg) = (-1) → (am_cl 151 [.ref 89, .int x4, .ref 12, .ref 18] E4 (u_I I4 91 (upd (I4 91) x4.toNatClampNeg v4)) J4 S4 (q_V fun E5 I5 J5 S5 => am_ww 145 10 [.ref 89, .ref 12, .ref 18, .ref 87, .int (x4 + nI 1), .int ((I 33) x4.toNatClampNeg)] [] E5 I5 J5 S5 Q)))))))))) : am_ww 145 10 [.ref 89, .ref 12, .ref 18, .ref 87, .int x4, d5] [] E I J S Q := by
  refine w_st (i' := 11) (ls' := [.ref 89, .ref 12, .ref 18, .ref 87, .int x4, d5]) (st' := [.int x4]) (E' := E) (I' := I) (J' := J) (S' := S) am_e145 rfl rfl rfl rfl ?_
  refine w_st (i' := 12) (ls' := [.ref 89, .ref 12, .ref 18, .ref 87, .int x4, d5]) (st' := [.ref 18, .int x4]) (E' := E) (I' := I) (J' := J) (S' := S) am_e145 rfl rfl rfl rfl ?_
  refine w_st (i' := 13) (ls' := [.ref 89, .ref 12, .ref 18, .ref 87, .int x4, d5]) (st' := [.int ((I 18) 10), .int x4]) (E' := E) (I' := I) (J' := J) (S' := S) am_e145 rfl rfl rfl rfl ?_
  refine w_if2 am_e145 rfl rfl (fun c => ?_) (fun c => ?_)
  · replace h := h.1 (of_decide_eq_true c)
    refine w_st (i' := 50) (ls' := [.ref 89, .ref 12, .ref 18, .ref 87, .int x4, d5]) (st' := [.ref 89]) (E' := E) (I' := I) (J' := J) (S' := S) am_e145 rfl rfl rfl rfl ?_
    refine w_st (i' := 51) (ls' := [.ref 89, .ref 12, .ref 18, .ref 87, .int x4, d5]) (st' := [.int (nI 1), .ref 89]) (E' := E) (I' := I) (J' := J) (S' := S) am_e145 rfl rfl rfl rfl ?_
    refine w_st (i' := 52) (ls' := [.ref 89, .ref 12, .ref 18, .ref 87, .int x4, d5]) (st' := []) (E' := E) (I' := (u_I I 89 (upd (I 89) 8 (nI 1)))) (J' := J) (S' := S) am_e145 rfl rfl rfl rfl ?_
    exact w_end am_e145 rfl rfl rfl h
  · replace h := h.2 (of_decide_eq_false c)
    refine w_st (i' := 15) (ls' := [.ref 89, .ref 12, .ref 18, .ref 87, .int x4, d5]) (st' := [.ref 18]) (E' := E) (I' := I) (J' := J) (S' := S) am_e145 rfl rfl rfl rfl ?_
    refine w_st (i' := 16) (ls' := [.ref 89, .ref 12, .ref 18, .ref 87, .int x4, d5]) (st' := [.ref 33]) (E' := E) (I' := I) (J' := J) (S' := S) am_e145 rfl rfl rfl rfl ?_
    refine w_st (i' := 17) (ls' := [.ref 89, .ref 12, .ref 18, .ref 87, .int x4, d5]) (st' := [.int x4, .ref 33]) (E' := E) (I' := I) (J' := J) (S' := S) am_e145 rfl rfl rfl rfl ?_
    have hf1 := h.1
    replace h := h.2
    refine w_ia (k := 33) (n := 401) (jn := x4.toNatClampNeg) am_e145 rfl rfl (by decide) hf1 rfl ?_
    refine w_st (i' := 19) (ls' := [.ref 89, .ref 12, .ref 18, .ref 87, .int x4, .int ((I 33) x4.toNatClampNeg)]) (st' := []) (E' := E) (I' := I) (J' := J) (S' := S) am_e145 rfl rfl rfl rfl ?_
    refine w_st (i' := 20) (ls' := [.ref 89, .ref 12, .ref 18, .ref 87, .int x4, .int ((I 33) x4.toNatClampNeg)]) (st' := [.ref 89]) (E' := E) (I' := I) (J' := J) (S' := S) am_e145 rfl rfl rfl rfl ?_
    refine w_st (i' := 21) (ls' := [.ref 89, .ref 12, .ref 18, .ref 87, .int x4, .int ((I 33) x4.toNatClampNeg)]) (st' := [.ref 12, .ref 89]) (E' := E) (I' := I) (J' := J) (S' := S) am_e145 rfl rfl rfl rfl ?_
    refine w_st (i' := 22) (ls' := [.ref 89, .ref 12, .ref 18, .ref 87, .int x4, .int ((I 33) x4.toNatClampNeg)]) (st' := [.int ((I 33) x4.toNatClampNeg), .ref 12, .ref 89]) (E' := E) (I' := I) (J' := J) (S' := S) am_e145 rfl rfl rfl rfl ?_
    refine w_st (i' := 23) (ls' := [.ref 89, .ref 12, .ref 18, .ref 87, .int x4, .int ((I 33) x4.toNatClampNeg)]) (st' := [.int x4, .int ((I 33) x4.toNatClampNeg), .ref 12, .ref 89]) (E' := E) (I' := I) (J' := J) (S' := S) am_e145 rfl rfl rfl rfl ?_
    refine w_st (i' := 24) (ls' := [.ref 89, .ref 12, .ref 18, .ref 87, .int x4, .int ((I 33) x4.toNatClampNeg)]) (st' := [.ref 87, .int x4, .int ((I 33) x4.toNatClampNeg), .ref 12, .ref 89]) (E' := E) (I' := I) (J' := J) (S' := S) am_e145 rfl rfl rfl rfl ?_
    refine w_cV am_e145 rfl rfl (as := [.ref 89, .ref 12, .int ((I 33) x4.toNatClampNeg), .int x4, .ref 87]) (rest := []) rfl rfl (am_ww.mono h ?_)
    rintro _ E2 I2 J2 S2 ⟨rfl, h⟩
    refine q_mkV ?_
    refine w_st (i' := 26) (ls' := [.ref 89, .ref 12, .ref 18, .ref 87, .int x4, .int ((I 33) x4.toNatClampNeg)]) (st' := [.ref 87]) (E' := E2) (I' := I2) (J' := J2) (S' := S2) am_e145 rfl rfl rfl rfl ?_
    refine w_st (i' := 27) (ls' := [.ref 89, .ref 12, .ref 18, .ref 87, .int x4, .int ((I 33) x4.toNatClampNeg)]) (st' := [.ref 12, .ref 87]) (E' := E2) (I' := I2) (J' := J2) (S' := S2) am_e145 rfl rfl rfl rfl ?_
    refine w_st (i' := 28) (ls' := [.ref 89, .ref 12, .ref 18, .ref 87, .int x4, .int ((I 33) x4.toNatClampNeg)]) (st' := [.int ((I 33) x4.toNatClampNeg), .ref 12, .ref 87]) (E' := E2) (I' := I2) (J' := J2) (S' := S2) am_e145 rfl rfl rfl rfl ?_
    refine w_cV am_e145 rfl rfl (as := [.ref 87, .ref 12, .int ((I 33) x4.toNatClampNeg)]) (rest := []) rfl rfl (am_ww.mono h ?_)
    rintro _ E3 I3 J3 S3 ⟨rfl, h⟩
    refine q_mkV ?_
    refine w_st (i' := 30) (ls' := [.ref 89, .ref 12, .ref 18, .ref 87, .int x4, .int ((I 33) x4.toNatClampNeg)]) (st' := [.ref 89]) (E' := E3) (I' := I3) (J' := J3) (S' := S3) am_e145 rfl rfl rfl rfl ?_
    refine w_st (i' := 31) (ls' := [.ref 89, .ref 12, .ref 18, .ref 87, .int x4, .int ((I 33) x4.toNatClampNeg)]) (st' := [.ref 91]) (E' := E3) (I' := I3) (J' := J3) (S' := S3) am_e145 rfl rfl rfl rfl ?_
    refine w_st (i' := 32) (ls' := [.ref 89, .ref 12, .ref 18, .ref 87, .int x4, .int ((I 33) x4.toNatClampNeg)]) (st' := [.int x4, .ref 91]) (E' := E3) (I' := I3) (J' := J3) (S' := S3) am_e145 rfl rfl rfl rfl ?_
    refine w_st (i' := 33) (ls' := [.ref 89, .ref 12, .ref 18, .ref 87, .int x4, .int ((I 33) x4.toNatClampNeg)]) (st' := [.ref 12, .int x4, .ref 91]) (E' := E3) (I' := I3) (J' := J3) (S' := S3) am_e145 rfl rfl rfl rfl ?_
    refine w_st (i' := 34) (ls' := [.ref 89, .ref 12, .ref 18, .ref 87, .int x4, .int ((I 33) x4.toNatClampNeg)]) (st' := [.int ((I 33) x4.toNatClampNeg), .ref 12, .int x4, .ref 91]) (E' := E3) (I' := I3) (J' := J3) (S' := S3) am_e145 rfl rfl rfl rfl ?_
    refine w_cI am_e145 rfl rfl (as := [.ref 12, .int ((I 33) x4.toNatClampNeg)]) (rest := [.int x4, .ref 91]) rfl rfl (am_ww.mono h ?_)
    rintro _ E4 I4 J4 S4 ⟨v4, rfl, h⟩
    refine q_mkI ?_
    refine w_is (k := 91) (n := 401) (jn := x4.toNatClampNeg) am_e145 rfl rfl (by decide) hf1 rfl ?_
    show am_ww 145 36 [.ref 89, .ref 12, .ref 18, .ref 87, .int x4, .int ((I 33) x4.toNatClampNeg)] [] E4 (u_I I4 91 (upd (I4 91) x4.toNatClampNeg v4)) J4 S4 _
    refine w_st (i' := 37) (ls' := [.ref 89, .ref 12, .ref 18, .ref 87, .int x4, .int ((I 33) x4.toNatClampNeg)]) (st' := [.ref 89]) (E' := E4) (I' := (u_I I4 91 (upd (I4 91) x4.toNatClampNeg v4))) (J' := J4) (S' := S4) am_e145 rfl rfl rfl rfl ?_
    refine w_st (i' := 38) (ls' := [.ref 89, .ref 12, .ref 18, .ref 87, .int x4, .int ((I 33) x4.toNatClampNeg)]) (st' := [.ref 91]) (E' := E4) (I' := (u_I I4 91 (upd (I4 91) x4.toNatClampNeg v4))) (J' := J4) (S' := S4) am_e145 rfl rfl rfl rfl ?_
    refine w_st (i' := 39) (ls' := [.ref 89, .ref 12, .ref 18, .ref 87, .int x4, .int ((I 33) x4.toNatClampNeg)]) (st' := [.int x4, .ref 91]) (E' := E4) (I' := (u_I I4 91 (upd (I4 91) x4.toNatClampNeg v4))) (J' := J4) (S' := S4) am_e145 rfl rfl rfl rfl ?_
    refine w_ia (k := 91) (n := 401) (jn := x4.toNatClampNeg) am_e145 rfl rfl (by decide) hf1 rfl ?_
    show am_ww 145 40 [.ref 89, .ref 12, .ref 18, .ref 87, .int x4, .int ((I 33) x4.toNatClampNeg)] [.int ((upd (I4 91) x4.toNatClampNeg v4) x4.toNatClampNeg)] E4 (u_I I4 91 (upd (I4 91) x4.toNatClampNeg v4)) J4 S4 _
    refine w_st (i' := 41) (ls' := [.ref 89, .ref 12, .ref 18, .ref 87, .int x4, .int ((I 33) x4.toNatClampNeg)]) (st' := [.int (-1), .int ((upd (I4 91) x4.toNatClampNeg v4) x4.toNatClampNeg)]) (E' := E4) (I' := (u_I I4 91 (upd (I4 91) x4.toNatClampNeg v4))) (J' := J4) (S' := S4) am_e145 rfl rfl rfl rfl ?_
    refine w_if2 am_e145 rfl rfl (fun c => ?_) (fun c => ?_)
    · replace h := h.1 (of_decide_eq_true c)
      refine w_st (i' := 48) (ls' := [.ref 89, .ref 12, .ref 18, .ref 87, .int (x4 + nI 1), .int ((I 33) x4.toNatClampNeg)]) (st' := []) (E' := E4) (I' := (u_I I4 91 (upd (I4 91) x4.toNatClampNeg v4))) (J' := J4) (S' := S4) am_e145 rfl rfl rfl rfl ?_
      refine w_st (i' := 10) (ls' := [.ref 89, .ref 12, .ref 18, .ref 87, .int (x4 + nI 1), .int ((I 33) x4.toNatClampNeg)]) (st' := []) (E' := E4) (I' := (u_I I4 91 (upd (I4 91) x4.toNatClampNeg v4))) (J' := J4) (S' := S4) am_e145 rfl rfl rfl rfl ?_
      exact h
    · replace h := h.2 (of_decide_eq_false c)
      refine w_st (i' := 43) (ls' := [.ref 89, .ref 12, .ref 18, .ref 87, .int x4, .int ((I 33) x4.toNatClampNeg)]) (st' := [.ref 89]) (E' := E4) (I' := (u_I I4 91 (upd (I4 91) x4.toNatClampNeg v4))) (J' := J4) (S' := S4) am_e145 rfl rfl rfl rfl ?_
      refine w_st (i' := 44) (ls' := [.ref 89, .ref 12, .ref 18, .ref 87, .int x4, .int ((I 33) x4.toNatClampNeg)]) (st' := [.int x4, .ref 89]) (E' := E4) (I' := (u_I I4 91 (upd (I4 91) x4.toNatClampNeg v4))) (J' := J4) (S' := S4) am_e145 rfl rfl rfl rfl ?_
      refine w_st (i' := 45) (ls' := [.ref 89, .ref 12, .ref 18, .ref 87, .int x4, .int ((I 33) x4.toNatClampNeg)]) (st' := [.ref 12, .int x4, .ref 89]) (E' := E4) (I' := (u_I I4 91 (upd (I4 91) x4.toNatClampNeg v4))) (J' := J4) (S' := S4) am_e145 rfl rfl rfl rfl ?_
      refine w_st (i' := 46) (ls' := [.ref 89, .ref 12, .ref 18, .ref 87, .int x4, .int ((I 33) x4.toNatClampNeg)]) (st' := [.ref 18, .ref 12, .int x4, .ref 89]) (E' := E4) (I' := (u_I I4 91 (upd (I4 91) x4.toNatClampNeg v4))) (J' := J4) (S' := S4) am_e145 rfl rfl rfl rfl ?_
      refine w_cV am_e145 rfl rfl (as := [.ref 89, .int x4, .ref 12, .ref 18]) (rest := []) rfl rfl (am_ww.mono h ?_)
      rintro _ E5 I5 J5 S5 ⟨rfl, h⟩
      refine q_mkV ?_
      refine w_st (i' := 48) (ls' := [.ref 89, .ref 12, .ref 18, .ref 87, .int (x4 + nI 1), .int ((I 33) x4.toNatClampNeg)]) (st' := []) (E' := E5) (I' := I5) (J' := J5) (S' := S5) am_e145 rfl rfl rfl rfl ?_
      refine w_st (i' := 10) (ls' := [.ref 89, .ref 12, .ref 18, .ref 87, .int (x4 + nI 1), .int ((I 33) x4.toNatClampNeg)]) (st' := []) (E' := E5) (I' := I5) (J' := J5) (S' := S5) am_e145 rfl rfl rfl rfl ?_
      exact h
-- 154 countCouples
theorem g154_0  {E : am_Ev} {I : Nat → Nat → Int32} {J : Nat → Nat → Int64} {S : Nat → Nat → Option Nat} {Q : am_Qt}  (h : am_ww 154 10 [.ref 89, .int (nI 0), .ref 95, .int (nI 64), .int (nI 0), am_U, am_U] [] E I J S Q) : am_ww 154 0 [.ref 89, am_U, am_U, am_U, am_U, am_U, am_U] [] E I J S Q := by
  refine w_st (i' := 1) (ls' := [.ref 89, am_U, am_U, am_U, am_U, am_U, am_U]) (st' := [.int (nI 0)]) (E' := E) (I' := I) (J' := J) (S' := S) am_e154 rfl rfl rfl rfl ?_
  refine w_st (i' := 2) (ls' := [.ref 89, .int (nI 0), am_U, am_U, am_U, am_U, am_U]) (st' := []) (E' := E) (I' := I) (J' := J) (S' := S) am_e154 rfl rfl rfl rfl ?_
  refine w_st (i' := 3) (ls' := [.ref 89, .int (nI 0), am_U, am_U, am_U, am_U, am_U]) (st' := [.ref 89]) (E' := E) (I' := I) (J' := J) (S' := S) am_e154 rfl rfl rfl rfl ?_
  refine w_st (i' := 4) (ls' := [.ref 89, .int (nI 0), am_U, am_U, am_U, am_U, am_U]) (st' := [.ref 95]) (E' := E) (I' := I) (J' := J) (S' := S) am_e154 rfl rfl rfl rfl ?_
  refine w_st (i' := 5) (ls' := [.ref 89, .int (nI 0), .ref 95, am_U, am_U, am_U, am_U]) (st' := []) (E' := E) (I' := I) (J' := J) (S' := S) am_e154 rfl rfl rfl rfl ?_
  refine w_st (i' := 6) (ls' := [.ref 89, .int (nI 0), .ref 95, am_U, am_U, am_U, am_U]) (st' := [.ref 95]) (E' := E) (I' := I) (J' := J) (S' := S) am_e154 rfl rfl rfl rfl ?_
  refine w_st (i' := 7) (ls' := [.ref 89, .int (nI 0), .ref 95, am_U, am_U, am_U, am_U]) (st' := [.int (nI 64)]) (E' := E) (I' := I) (J' := J) (S' := S) am_e154 rfl rfl rfl rfl ?_
  refine w_st (i' := 8) (ls' := [.ref 89, .int (nI 0), .ref 95, .int (nI 64), am_U, am_U, am_U]) (st' := []) (E' := E) (I' := I) (J' := J) (S' := S) am_e154 rfl rfl rfl rfl ?_
  refine w_st (i' := 9) (ls' := [.ref 89, .int (nI 0), .ref 95, .int (nI 64), am_U, am_U, am_U]) (st' := [.int (nI 0)]) (E' := E) (I' := I) (J' := J) (S' := S) am_e154 rfl rfl rfl rfl ?_
  refine w_st (i' := 10) (ls' := [.ref 89, .int (nI 0), .ref 95, .int (nI 64), .int (nI 0), am_U, am_U]) (st' := []) (E' := E) (I' := I) (J' := J) (S' := S) am_e154 rfl rfl rfl rfl ?_
  exact h
theorem g154_10 {d0 : Value} {x1 : Int32} {x3 : Int32} {x4 : Int32} {d5 : Value} {d6 : Value} {E : am_Ev} {I : Nat → Nat → Int32} {J : Nat → Nat → Int64} {S : Nat → Nat → Option Nat} {Q : am_Qt} (hd0 : am_isL d0 = false) (hd5 : am_isL d5 = false) (hd6 : am_isL d6 = false) (h : (x3 ≤ x4 → (Q (.inl (some (.int x1))) E I J S)) ∧ (¬ x3 ≤ x4 → (vp_in x4 64 ∧ (am_cl 155 [.long ((J 95) x4.toNatClampNeg)] E I J S (q_I fun v2 E2 I2 J2 S2 => am_ww 154 10 [d0, .int (x1 + v2), .ref 95, .int x3, .int (x4 + nI 1), .long ((J 95) x4.toNatClampNeg), am_U] [] E2 I2 J2 S2 Q))))) : am_ww 154 10 [d0, .int x1, .ref 95, .int x3, .int x4, d5, d6] [] E I J S Q := by
  refine w_st (i' := 11) (ls' := [d0, .int x1, .ref 95, .int x3, .int x4, d5, d6]) (st' := [.int x4]) (E' := E) (I' := I) (J' := J) (S' := S) am_e154 rfl rfl rfl rfl ?_
  refine w_st (i' := 12) (ls' := [d0, .int x1, .ref 95, .int x3, .int x4, d5, d6]) (st' := [.int x3, .int x4]) (E' := E) (I' := I) (J' := J) (S' := S) am_e154 rfl rfl rfl rfl ?_
  refine w_if2 am_e154 rfl rfl (fun c => ?_) (fun c => ?_)
  · replace h := h.1 (of_decide_eq_true c)
    refine w_st (i' := 25) (ls' := [d0, .int x1, .ref 95, .int x3, .int x4, d5, d6]) (st' := [.int x1]) (E' := E) (I' := I) (J' := J) (S' := S) am_e154 rfl rfl rfl rfl ?_
    exact w_ri am_e154 rfl rfl h
  · replace h := h.2 (of_decide_eq_false c)
    refine w_st (i' := 14) (ls' := [d0, .int x1, .ref 95, .int x3, .int x4, d5, d6]) (st' := [.ref 95]) (E' := E) (I' := I) (J' := J) (S' := S) am_e154 rfl rfl rfl rfl ?_
    refine w_st (i' := 15) (ls' := [d0, .int x1, .ref 95, .int x3, .int x4, d5, d6]) (st' := [.int x4, .ref 95]) (E' := E) (I' := I) (J' := J) (S' := S) am_e154 rfl rfl rfl rfl ?_
    have hf1 := h.1
    replace h := h.2
    refine w_la (k := 95) (n := 64) (jn := x4.toNatClampNeg) am_e154 rfl rfl (by decide) hf1 rfl ?_
    refine w_st (i' := 17) (ls' := [d0, .int x1, .ref 95, .int x3, .int x4, .long ((J 95) x4.toNatClampNeg), am_U]) (st' := []) (E' := E) (I' := I) (J' := J) (S' := S) am_e154 rfl rfl rfl rfl ?_
    refine w_st (i' := 18) (ls' := [d0, .int x1, .ref 95, .int x3, .int x4, .long ((J 95) x4.toNatClampNeg), am_U]) (st' := [.int x1]) (E' := E) (I' := I) (J' := J) (S' := S) am_e154 rfl rfl rfl rfl ?_
    refine w_st (i' := 19) (ls' := [d0, .int x1, .ref 95, .int x3, .int x4, .long ((J 95) x4.toNatClampNeg), am_U]) (st' := [.long ((J 95) x4.toNatClampNeg), .int x1]) (E' := E) (I' := I) (J' := J) (S' := S) am_e154 rfl rfl rfl rfl ?_
    refine w_cI am_e154 rfl rfl (as := [.long ((J 95) x4.toNatClampNeg)]) (rest := [.int x1]) rfl rfl (am_ww.mono h ?_)
    rintro _ E2 I2 J2 S2 ⟨v2, rfl, h⟩
    refine q_mkI ?_
    refine w_st (i' := 21) (ls' := [d0, .int x1, .ref 95, .int x3, .int x4, .long ((J 95) x4.toNatClampNeg), am_U]) (st' := [.int (x1 + v2)]) (E' := E2) (I' := I2) (J' := J2) (S' := S2) am_e154 rfl rfl rfl rfl ?_
    refine w_st (i' := 22) (ls' := [d0, .int (x1 + v2), .ref 95, .int x3, .int x4, .long ((J 95) x4.toNatClampNeg), am_U]) (st' := []) (E' := E2) (I' := I2) (J' := J2) (S' := S2) am_e154 rfl rfl rfl (by simp [am_step, am_sto, hd0]) ?_
    refine w_st (i' := 23) (ls' := [d0, .int (x1 + v2), .ref 95, .int x3, .int (x4 + nI 1), .long ((J 95) x4.toNatClampNeg), am_U]) (st' := []) (E' := E2) (I' := I2) (J' := J2) (S' := S2) am_e154 rfl rfl rfl rfl ?_
    refine w_st (i' := 10) (ls' := [d0, .int (x1 + v2), .ref 95, .int x3, .int (x4 + nI 1), .long ((J 95) x4.toNatClampNeg), am_U]) (st' := []) (E' := E2) (I' := I2) (J' := J2) (S' := S2) am_e154 rfl rfl rfl rfl ?_
    exact h
-- 158 laterStep
theorem g158_0 {p1 : Int32} {p2 : Int32} {E : am_Ev} {I : Nat → Nat → Int32} {J : Nat → Nat → Int64} {S : Nat → Nat → Option Nat} {Q : am_Qt}  (h : am_ww 158 4 [.ref 89, .int p1, .int p2, .int p1, .int (nI 1)] [] E I J S Q) : am_ww 158 0 [.ref 89, .int p1, .int p2, am_U, am_U] [] E I J S Q := by
  refine w_st (i' := 1) (ls' := [.ref 89, .int p1, .int p2, am_U, am_U]) (st' := [.int p1]) (E' := E) (I' := I) (J' := J) (S' := S) am_e158 rfl rfl rfl rfl ?_
  refine w_st (i' := 2) (ls' := [.ref 89, .int p1, .int p2, .int p1, am_U]) (st' := []) (E' := E) (I' := I) (J' := J) (S' := S) am_e158 rfl rfl rfl rfl ?_
  refine w_st (i' := 3) (ls' := [.ref 89, .int p1, .int p2, .int p1, am_U]) (st' := [.int (nI 1)]) (E' := E) (I' := I) (J' := J) (S' := S) am_e158 rfl rfl rfl rfl ?_
  refine w_st (i' := 4) (ls' := [.ref 89, .int p1, .int p2, .int p1, .int (nI 1)]) (st' := []) (E' := E) (I' := I) (J' := J) (S' := S) am_e158 rfl rfl rfl rfl ?_
  exact h
theorem g158_4 {d1 : Value} {x2 : Int32} {x3 : Int32} {x4 : Int32} {E : am_Ev} {I : Nat → Nat → Int32} {J : Nat → Nat → Int64} {S : Nat → Nat → Option Nat} {Q : am_Qt} (hd1 : am_isL d1 = false) (h : (x2 < x4 → (Q (.inl (some (.int (-1)))) E I J S)) ∧ (¬ x2 < x4 → (vp_in x4 401 ∧ ((((I 90) x4.toNatClampNeg) ≤ x3 → (∀ w2 : Int32, w2 = (x3 - ((I 90) x4.toNatClampNeg)) → (am_ww 158 4 [.ref 89, d1, .int x2, .int w2, .int (x4 + nI 1)] [] E I J S Q))) ∧ (¬ ((I 90) x4.toNatClampNeg) ≤ x3 → (Q (.inl (some (.int x4))) E I J S)))))) : am_ww 158 4 [.ref 89, d1, .int x2, .int x3, .int x4] [] E I J S Q := by
  refine w_st (i' := 5) (ls' := [.ref 89, d1, .int x2, .int x3, .int x4]) (st' := [.int x4]) (E' := E) (I' := I) (J' := J) (S' := S) am_e158 rfl rfl rfl rfl ?_
  refine w_st (i' := 6) (ls' := [.ref 89, d1, .int x2, .int x3, .int x4]) (st' := [.int x2, .int x4]) (E' := E) (I' := I) (J' := J) (S' := S) am_e158 rfl rfl rfl rfl ?_
  refine w_if2 am_e158 rfl rfl (fun c => ?_) (fun c => ?_)
  · replace h := h.1 (of_decide_eq_true c)
    refine w_st (i' := 25) (ls' := [.ref 89, d1, .int x2, .int x3, .int x4]) (st' := [.int (-1)]) (E' := E) (I' := I) (J' := J) (S' := S) am_e158 rfl rfl rfl rfl ?_
    exact w_end am_e158 rfl rfl rfl h
  · replace h := h.2 (of_decide_eq_false c)
    refine w_st (i' := 8) (ls' := [.ref 89, d1, .int x2, .int x3, .int x4]) (st' := [.int x3]) (E' := E) (I' := I) (J' := J) (S' := S) am_e158 rfl rfl rfl rfl ?_
    refine w_st (i' := 9) (ls' := [.ref 89, d1, .int x2, .int x3, .int x4]) (st' := [.ref 89, .int x3]) (E' := E) (I' := I) (J' := J) (S' := S) am_e158 rfl rfl rfl rfl ?_
    refine w_st (i' := 10) (ls' := [.ref 89, d1, .int x2, .int x3, .int x4]) (st' := [.ref 90, .int x3]) (E' := E) (I' := I) (J' := J) (S' := S) am_e158 rfl rfl rfl rfl ?_
    refine w_st (i' := 11) (ls' := [.ref 89, d1, .int x2, .int x3, .int x4]) (st' := [.int x4, .ref 90, .int x3]) (E' := E) (I' := I) (J' := J) (S' := S) am_e158 rfl rfl rfl rfl ?_
    have hf1 := h.1
    replace h := h.2
    refine w_ia (k := 90) (n := 401) (jn := x4.toNatClampNeg) am_e158 rfl rfl (by decide) hf1 rfl ?_
    refine w_if2 am_e158 rfl rfl (fun c => ?_) (fun c => ?_)
    · replace h := h.1 (of_decide_eq_true c)
      refine w_st (i' := 16) (ls' := [.ref 89, d1, .int x2, .int x3, .int x4]) (st' := [.int x3]) (E' := E) (I' := I) (J' := J) (S' := S) am_e158 rfl rfl rfl rfl ?_
      refine w_st (i' := 17) (ls' := [.ref 89, d1, .int x2, .int x3, .int x4]) (st' := [.ref 89, .int x3]) (E' := E) (I' := I) (J' := J) (S' := S) am_e158 rfl rfl rfl rfl ?_
      refine w_st (i' := 18) (ls' := [.ref 89, d1, .int x2, .int x3, .int x4]) (st' := [.ref 90, .int x3]) (E' := E) (I' := I) (J' := J) (S' := S) am_e158 rfl rfl rfl rfl ?_
      refine w_st (i' := 19) (ls' := [.ref 89, d1, .int x2, .int x3, .int x4]) (st' := [.int x4, .ref 90, .int x3]) (E' := E) (I' := I) (J' := J) (S' := S) am_e158 rfl rfl rfl rfl ?_
      refine w_ia (k := 90) (n := 401) (jn := x4.toNatClampNeg) am_e158 rfl rfl (by decide) hf1 rfl ?_
      refine w_st (i' := 21) (ls' := [.ref 89, d1, .int x2, .int x3, .int x4]) (st' := [.int (x3 - ((I 90) x4.toNatClampNeg))]) (E' := E) (I' := I) (J' := J) (S' := S) am_e158 rfl rfl rfl rfl ?_
      refine w_st (i' := 22) (ls' := [.ref 89, d1, .int x2, .int (x3 - ((I 90) x4.toNatClampNeg)), .int x4]) (st' := []) (E' := E) (I' := I) (J' := J) (S' := S) am_e158 rfl rfl rfl rfl ?_
      refine w_var (fun w2 => am_ww 158 22 [.ref 89, d1, .int x2, .int w2, .int x4] [] E I J S _) (x3 - ((I 90) x4.toNatClampNeg)) (fun w2 hw2 => ?_)
      replace h := h w2 hw2
      refine w_st (i' := 23) (ls' := [.ref 89, d1, .int x2, .int w2, .int (x4 + nI 1)]) (st' := []) (E' := E) (I' := I) (J' := J) (S' := S) am_e158 rfl rfl rfl rfl ?_
      refine w_st (i' := 4) (ls' := [.ref 89, d1, .int x2, .int w2, .int (x4 + nI 1)]) (st' := []) (E' := E) (I' := I) (J' := J) (S' := S) am_e158 rfl rfl rfl rfl ?_
      exact h
    · replace h := h.2 (of_decide_eq_false c)
      refine w_st (i' := 14) (ls' := [.ref 89, d1, .int x2, .int x3, .int x4]) (st' := [.int x4]) (E' := E) (I' := I) (J' := J) (S' := S) am_e158 rfl rfl rfl rfl ?_
      exact w_ri am_e158 rfl rfl h
-- 159 earlierStep
theorem g159_0 {p1 : Int32} {p2 : Int32} {E : am_Ev} {I : Nat → Nat → Int32} {J : Nat → Nat → Int64} {S : Nat → Nat → Option Nat} {Q : am_Qt}  (h : am_ww 159 4 [.ref 89, .int p1, .int p2, .ref 12, .ref 18, .int p1, .int (nI 1)] [] E I J S Q) : am_ww 159 0 [.ref 89, .int p1, .int p2, .ref 12, .ref 18, am_U, am_U] [] E I J S Q := by
  refine w_st (i' := 1) (ls' := [.ref 89, .int p1, .int p2, .ref 12, .ref 18, am_U, am_U]) (st' := [.int p1]) (E' := E) (I' := I) (J' := J) (S' := S) am_e159 rfl rfl rfl rfl ?_
  refine w_st (i' := 2) (ls' := [.ref 89, .int p1, .int p2, .ref 12, .ref 18, .int p1, am_U]) (st' := []) (E' := E) (I' := I) (J' := J) (S' := S) am_e159 rfl rfl rfl rfl ?_
  refine w_st (i' := 3) (ls' := [.ref 89, .int p1, .int p2, .ref 12, .ref 18, .int p1, am_U]) (st' := [.int (nI 1)]) (E' := E) (I' := I) (J' := J) (S' := S) am_e159 rfl rfl rfl rfl ?_
  refine w_st (i' := 4) (ls' := [.ref 89, .int p1, .int p2, .ref 12, .ref 18, .int p1, .int (nI 1)]) (st' := []) (E' := E) (I' := I) (J' := J) (S' := S) am_e159 rfl rfl rfl rfl ?_
  exact h
theorem g159_4 {d1 : Value} {x2 : Int32} {x5 : Int32} {x6 : Int32} {E : am_Ev} {I : Nat → Nat → Int32} {J : Nat → Nat → Int64} {S : Nat → Nat → Option Nat} {Q : am_Qt} (hd1 : am_isL d1 = false) (h : (x2 ≤ x6 → (am_ww 159 18 [.ref 89, d1, .int x2, .ref 12, .ref 18, .int x5, .int (nI 1)] [] E I J S Q)) ∧ (¬ x2 ≤ x6 → (vp_in x6 401 ∧ (∀ w2 : Int32, w2 = (x5 - ((I 90) x6.toNatClampNeg)) → (am_ww 159 4 [.ref 89, d1, .int x2, .ref 12, .ref 18, .int w2, .int (x6 + nI 1)] [] E I J S Q))))) : am_ww 159 4 [.ref 89, d1, .int x2, .ref 12, .ref 18, .int x5, .int x6] [] E I J S Q := by
  refine w_st (i' := 5) (ls' := [.ref 89, d1, .int x2, .ref 12, .ref 18, .int x5, .int x6]) (st' := [.int x6]) (E' := E) (I' := I) (J' := J) (S' := S) am_e159 rfl rfl rfl rfl ?_
  refine w_st (i' := 6) (ls' := [.ref 89, d1, .int x2, .ref 12, .ref 18, .int x5, .int x6]) (st' := [.int x2, .int x6]) (E' := E) (I' := I) (J' := J) (S' := S) am_e159 rfl rfl rfl rfl ?_
  refine w_if2 am_e159 rfl rfl (fun c => ?_) (fun c => ?_)
  · replace h := h.1 (of_decide_eq_true c)
    refine w_st (i' := 17) (ls' := [.ref 89, d1, .int x2, .ref 12, .ref 18, .int x5, .int x6]) (st' := [.int (nI 1)]) (E' := E) (I' := I) (J' := J) (S' := S) am_e159 rfl rfl rfl rfl ?_
    refine w_st (i' := 18) (ls' := [.ref 89, d1, .int x2, .ref 12, .ref 18, .int x5, .int (nI 1)]) (st' := []) (E' := E) (I' := I) (J' := J) (S' := S) am_e159 rfl rfl rfl rfl ?_
    exact h
  · replace h := h.2 (of_decide_eq_false c)
    refine w_st (i' := 8) (ls' := [.ref 89, d1, .int x2, .ref 12, .ref 18, .int x5, .int x6]) (st' := [.int x5]) (E' := E) (I' := I) (J' := J) (S' := S) am_e159 rfl rfl rfl rfl ?_
    refine w_st (i' := 9) (ls' := [.ref 89, d1, .int x2, .ref 12, .ref 18, .int x5, .int x6]) (st' := [.ref 89, .int x5]) (E' := E) (I' := I) (J' := J) (S' := S) am_e159 rfl rfl rfl rfl ?_
    refine w_st (i' := 10) (ls' := [.ref 89, d1, .int x2, .ref 12, .ref 18, .int x5, .int x6]) (st' := [.ref 90, .int x5]) (E' := E) (I' := I) (J' := J) (S' := S) am_e159 rfl rfl rfl rfl ?_
    refine w_st (i' := 11) (ls' := [.ref 89, d1, .int x2, .ref 12, .ref 18, .int x5, .int x6]) (st' := [.int x6, .ref 90, .int x5]) (E' := E) (I' := I) (J' := J) (S' := S) am_e159 rfl rfl rfl rfl ?_
    have hf1 := h.1
    replace h := h.2
    refine w_ia (k := 90) (n := 401) (jn := x6.toNatClampNeg) am_e159 rfl rfl (by decide) hf1 rfl ?_
    refine w_st (i' := 13) (ls' := [.ref 89, d1, .int x2, .ref 12, .ref 18, .int x5, .int x6]) (st' := [.int (x5 - ((I 90) x6.toNatClampNeg))]) (E' := E) (I' := I) (J' := J) (S' := S) am_e159 rfl rfl rfl rfl ?_
    refine w_st (i' := 14) (ls' := [.ref 89, d1, .int x2, .ref 12, .ref 18, .int (x5 - ((I 90) x6.toNatClampNeg)), .int x6]) (st' := []) (E' := E) (I' := I) (J' := J) (S' := S) am_e159 rfl rfl rfl rfl ?_
    refine w_var (fun w2 => am_ww 159 14 [.ref 89, d1, .int x2, .ref 12, .ref 18, .int w2, .int x6] [] E I J S _) (x5 - ((I 90) x6.toNatClampNeg)) (fun w2 hw2 => ?_)
    replace h := h w2 hw2
    refine w_st (i' := 15) (ls' := [.ref 89, d1, .int x2, .ref 12, .ref 18, .int w2, .int (x6 + nI 1)]) (st' := []) (E' := E) (I' := I) (J' := J) (S' := S) am_e159 rfl rfl rfl rfl ?_
    refine w_st (i' := 4) (ls' := [.ref 89, d1, .int x2, .ref 12, .ref 18, .int w2, .int (x6 + nI 1)]) (st' := []) (E' := E) (I' := I) (J' := J) (S' := S) am_e159 rfl rfl rfl rfl ?_
    exact h
theorem g159_18 {d1 : Value} {x2 : Int32} {x5 : Int32} {x6 : Int32} {E : am_Ev} {I : Nat → Nat → Int32} {J : Nat → Nat → Int64} {S : Nat → Nat → Option Nat} {Q : am_Qt} (hd1 : am_isL d1 = false) (h : (x2 ≤ x6 → (Q (.inl (some (.int (-1)))) E I J S)) ∧ (¬ x2 ≤ x6 → (am_cl 152 [.ref 89, .int x6, .int x2, .ref 12, .ref 18] E I J S (q_I fun v1 E1 I1 J1 S1 => (v1 = 0 → (am_ww 159 18 [.ref 89, d1, .int x2, .ref 12, .ref 18, .int x5, .int (x6 + nI 1)] [] E1 I1 J1 S1 Q)) ∧ (¬ v1 = 0 → ((x5 = 0 → (Q (.inl (some (.int x6))) E1 I1 J1 S1)) ∧ (¬ x5 = 0 → (am_ww 159 18 [.ref 89, d1, .int x2, .ref 12, .ref 18, .int (x5 - nI 1), .int (x6 + nI 1)] [] E1 I1 J1 S1 Q)))))))) : am_ww 159 18 [.ref 89, d1, .int x2, .ref 12, .ref 18, .int x5, .int x6] [] E I J S Q := by
  refine w_st (i' := 19) (ls' := [.ref 89, d1, .int x2, .ref 12, .ref 18, .int x5, .int x6]) (st' := [.int x6]) (E' := E) (I' := I) (J' := J) (S' := S) am_e159 rfl rfl rfl rfl ?_
  refine w_st (i' := 20) (ls' := [.ref 89, d1, .int x2, .ref 12, .ref 18, .int x5, .int x6]) (st' := [.int x2, .int x6]) (E' := E) (I' := I) (J' := J) (S' := S) am_e159 rfl rfl rfl rfl ?_
  refine w_if2 am_e159 rfl rfl (fun c => ?_) (fun c => ?_)
  · replace h := h.1 (of_decide_eq_true c)
    refine w_st (i' := 36) (ls' := [.ref 89, d1, .int x2, .ref 12, .ref 18, .int x5, .int x6]) (st' := [.int (-1)]) (E' := E) (I' := I) (J' := J) (S' := S) am_e159 rfl rfl rfl rfl ?_
    exact w_end am_e159 rfl rfl rfl h
  · replace h := h.2 (of_decide_eq_false c)
    refine w_st (i' := 22) (ls' := [.ref 89, d1, .int x2, .ref 12, .ref 18, .int x5, .int x6]) (st' := [.ref 89]) (E' := E) (I' := I) (J' := J) (S' := S) am_e159 rfl rfl rfl rfl ?_
    refine w_st (i' := 23) (ls' := [.ref 89, d1, .int x2, .ref 12, .ref 18, .int x5, .int x6]) (st' := [.int x6, .ref 89]) (E' := E) (I' := I) (J' := J) (S' := S) am_e159 rfl rfl rfl rfl ?_
    refine w_st (i' := 24) (ls' := [.ref 89, d1, .int x2, .ref 12, .ref 18, .int x5, .int x6]) (st' := [.int x2, .int x6, .ref 89]) (E' := E) (I' := I) (J' := J) (S' := S) am_e159 rfl rfl rfl rfl ?_
    refine w_st (i' := 25) (ls' := [.ref 89, d1, .int x2, .ref 12, .ref 18, .int x5, .int x6]) (st' := [.ref 12, .int x2, .int x6, .ref 89]) (E' := E) (I' := I) (J' := J) (S' := S) am_e159 rfl rfl rfl rfl ?_
    refine w_st (i' := 26) (ls' := [.ref 89, d1, .int x2, .ref 12, .ref 18, .int x5, .int x6]) (st' := [.ref 18, .ref 12, .int x2, .int x6, .ref 89]) (E' := E) (I' := I) (J' := J) (S' := S) am_e159 rfl rfl rfl rfl ?_
    refine w_cI am_e159 rfl rfl (as := [.ref 89, .int x6, .int x2, .ref 12, .ref 18]) (rest := []) rfl rfl (am_ww.mono h ?_)
    rintro _ E1 I1 J1 S1 ⟨v1, rfl, h⟩
    refine q_mkI ?_
    refine w_if1 am_e159 rfl rfl (fun c => ?_) (fun c => ?_)
    · replace h := h.1 (of_decide_eq_true c)
      refine w_st (i' := 34) (ls' := [.ref 89, d1, .int x2, .ref 12, .ref 18, .int x5, .int (x6 + nI 1)]) (st' := []) (E' := E1) (I' := I1) (J' := J1) (S' := S1) am_e159 rfl rfl rfl rfl ?_
      refine w_st (i' := 18) (ls' := [.ref 89, d1, .int x2, .ref 12, .ref 18, .int x5, .int (x6 + nI 1)]) (st' := []) (E' := E1) (I' := I1) (J' := J1) (S' := S1) am_e159 rfl rfl rfl rfl ?_
      exact h
    · replace h := h.2 (of_decide_eq_false c)
      refine w_st (i' := 29) (ls' := [.ref 89, d1, .int x2, .ref 12, .ref 18, .int x5, .int x6]) (st' := [.int x5]) (E' := E1) (I' := I1) (J' := J1) (S' := S1) am_e159 rfl rfl rfl rfl ?_
      refine w_if1 am_e159 rfl rfl (fun c => ?_) (fun c => ?_)
      · replace h := h.2 (of_decide_eq_true c)
        refine w_st (i' := 33) (ls' := [.ref 89, d1, .int x2, .ref 12, .ref 18, .int (x5 - nI 1), .int x6]) (st' := []) (E' := E1) (I' := I1) (J' := J1) (S' := S1) am_e159 rfl rfl rfl rfl ?_
        refine w_st (i' := 34) (ls' := [.ref 89, d1, .int x2, .ref 12, .ref 18, .int (x5 - nI 1), .int (x6 + nI 1)]) (st' := []) (E' := E1) (I' := I1) (J' := J1) (S' := S1) am_e159 rfl rfl rfl rfl ?_
        refine w_st (i' := 18) (ls' := [.ref 89, d1, .int x2, .ref 12, .ref 18, .int (x5 - nI 1), .int (x6 + nI 1)]) (st' := []) (E' := E1) (I' := I1) (J' := J1) (S' := S1) am_e159 rfl rfl rfl rfl ?_
        exact h
      · replace h := h.1 (Decidable.not_not.mp (of_decide_eq_false c))
        refine w_st (i' := 31) (ls' := [.ref 89, d1, .int x2, .ref 12, .ref 18, .int x5, .int x6]) (st' := [.int x6]) (E' := E1) (I' := I1) (J' := J1) (S' := S1) am_e159 rfl rfl rfl rfl ?_
        exact w_ri am_e159 rfl rfl h
-- 165 find
theorem g165_0  {E : am_Ev} {I : Nat → Nat → Int32} {J : Nat → Nat → Int64} {S : Nat → Nat → Option Nat} {Q : am_Qt}  (h : am_cl 13 [.ref 98, .int (nI 0)] E I J S (q_V fun E1 I1 J1 S1 => am_ww 165 9 [.ref 96, .ref 18, .int (nI 1), am_U] [] E1 (u_I I1 96 (upd (I1 96) 2 (nI 0))) J1 S1 Q)) : am_ww 165 0 [.ref 96, .ref 18, am_U, am_U] [] E I J S Q := by
  refine w_st (i' := 1) (ls' := [.ref 96, .ref 18, am_U, am_U]) (st' := [.ref 96]) (E' := E) (I' := I) (J' := J) (S' := S) am_e165 rfl rfl rfl rfl ?_
  refine w_st (i' := 2) (ls' := [.ref 96, .ref 18, am_U, am_U]) (st' := [.ref 98]) (E' := E) (I' := I) (J' := J) (S' := S) am_e165 rfl rfl rfl rfl ?_
  refine w_st (i' := 3) (ls' := [.ref 96, .ref 18, am_U, am_U]) (st' := [.int (nI 0), .ref 98]) (E' := E) (I' := I) (J' := J) (S' := S) am_e165 rfl rfl rfl rfl ?_
  refine w_cV am_e165 rfl rfl (as := [.ref 98, .int (nI 0)]) (rest := []) rfl rfl (am_ww.mono h ?_)
  rintro _ E1 I1 J1 S1 ⟨rfl, h⟩
  refine q_mkV ?_
  refine w_st (i' := 5) (ls' := [.ref 96, .ref 18, am_U, am_U]) (st' := [.ref 96]) (E' := E1) (I' := I1) (J' := J1) (S' := S1) am_e165 rfl rfl rfl rfl ?_
  refine w_st (i' := 6) (ls' := [.ref 96, .ref 18, am_U, am_U]) (st' := [.int (nI 0), .ref 96]) (E' := E1) (I' := I1) (J' := J1) (S' := S1) am_e165 rfl rfl rfl rfl ?_
  refine w_st (i' := 7) (ls' := [.ref 96, .ref 18, am_U, am_U]) (st' := []) (E' := E1) (I' := (u_I I1 96 (upd (I1 96) 2 (nI 0)))) (J' := J1) (S' := S1) am_e165 rfl rfl rfl rfl ?_
  refine w_st (i' := 8) (ls' := [.ref 96, .ref 18, am_U, am_U]) (st' := [.int (nI 1)]) (E' := E1) (I' := (u_I I1 96 (upd (I1 96) 2 (nI 0)))) (J' := J1) (S' := S1) am_e165 rfl rfl rfl rfl ?_
  refine w_st (i' := 9) (ls' := [.ref 96, .ref 18, .int (nI 1), am_U]) (st' := []) (E' := E1) (I' := (u_I I1 96 (upd (I1 96) 2 (nI 0)))) (J' := J1) (S' := S1) am_e165 rfl rfl rfl rfl ?_
  exact h
theorem g165_9 {x2 : Int32} {d3 : Value} {E : am_Ev} {I : Nat → Nat → Int32} {J : Nat → Nat → Int64} {S : Nat → Nat → Option Nat} {Q : am_Qt} (hd3 : am_isL d3 = false) (h : (((I 18) 10) < x2 → (Q (.inl none) E I J S)) ∧ (¬ ((I 18) 10) < x2 → (vp_in x2 401 ∧ (vp_in ((I 33) x2.toNatClampNeg) 64 ∧ ((((I 98) (((I 33) x2.toNatClampNeg).toNatClampNeg)) = 0 → (vp_in ((I 96) 2) 64 ∧ (am_ww 165 9 [.ref 96, .ref 18, .int (x2 + nI 1), .int ((I 33) x2.toNatClampNeg)] [] E (u_I (u_I (u_I I 97 (upd (I 97) (((I 96) 2).toNatClampNeg) ((I 33) x2.toNatClampNeg))) 96 (upd (I 96) 2 (((I 96) 2) + (nI 1)))) 98 (upd (I 98) (((I 33) x2.toNatClampNeg).toNatClampNeg) (((I 98) (((I 33) x2.toNatClampNeg).toNatClampNeg)) + (nI 1)))) J S Q))) ∧ (¬ ((I 98) (((I 33) x2.toNatClampNeg).toNatClampNeg)) = 0 → (am_ww 165 9 [.ref 96, .ref 18, .int (x2 + nI 1), .int ((I 33) x2.toNatClampNeg)] [] E (u_I I 98 (upd (I 98) (((I 33) x2.toNatClampNeg).toNatClampNeg) (((I 98) (((I 33) x2.toNatClampNeg).toNatClampNeg)) + (nI 1)))) J S Q))))))) : am_ww 165 9 [.ref 96, .ref 18, .int x2, d3] [] E I J S Q := by
  refine w_st (i' := 10) (ls' := [.ref 96, .ref 18, .int x2, d3]) (st' := [.int x2]) (E' := E) (I' := I) (J' := J) (S' := S) am_e165 rfl rfl rfl rfl ?_
  refine w_st (i' := 11) (ls' := [.ref 96, .ref 18, .int x2, d3]) (st' := [.ref 18, .int x2]) (E' := E) (I' := I) (J' := J) (S' := S) am_e165 rfl rfl rfl rfl ?_
  refine w_st (i' := 12) (ls' := [.ref 96, .ref 18, .int x2, d3]) (st' := [.int ((I 18) 10), .int x2]) (E' := E) (I' := I) (J' := J) (S' := S) am_e165 rfl rfl rfl rfl ?_
  refine w_if2 am_e165 rfl rfl (fun c => ?_) (fun c => ?_)
  · replace h := h.1 (of_decide_eq_true c)
    exact w_end am_e165 rfl rfl rfl h
  · replace h := h.2 (of_decide_eq_false c)
    refine w_st (i' := 14) (ls' := [.ref 96, .ref 18, .int x2, d3]) (st' := [.ref 18]) (E' := E) (I' := I) (J' := J) (S' := S) am_e165 rfl rfl rfl rfl ?_
    refine w_st (i' := 15) (ls' := [.ref 96, .ref 18, .int x2, d3]) (st' := [.ref 33]) (E' := E) (I' := I) (J' := J) (S' := S) am_e165 rfl rfl rfl rfl ?_
    refine w_st (i' := 16) (ls' := [.ref 96, .ref 18, .int x2, d3]) (st' := [.int x2, .ref 33]) (E' := E) (I' := I) (J' := J) (S' := S) am_e165 rfl rfl rfl rfl ?_
    have hf1 := h.1
    replace h := h.2
    refine w_ia (k := 33) (n := 401) (jn := x2.toNatClampNeg) am_e165 rfl rfl (by decide) hf1 rfl ?_
    refine w_st (i' := 18) (ls' := [.ref 96, .ref 18, .int x2, .int ((I 33) x2.toNatClampNeg)]) (st' := []) (E' := E) (I' := I) (J' := J) (S' := S) am_e165 rfl rfl rfl rfl ?_
    refine w_st (i' := 19) (ls' := [.ref 96, .ref 18, .int x2, .int ((I 33) x2.toNatClampNeg)]) (st' := [.ref 96]) (E' := E) (I' := I) (J' := J) (S' := S) am_e165 rfl rfl rfl rfl ?_
    refine w_st (i' := 20) (ls' := [.ref 96, .ref 18, .int x2, .int ((I 33) x2.toNatClampNeg)]) (st' := [.ref 98]) (E' := E) (I' := I) (J' := J) (S' := S) am_e165 rfl rfl rfl rfl ?_
    refine w_st (i' := 21) (ls' := [.ref 96, .ref 18, .int x2, .int ((I 33) x2.toNatClampNeg)]) (st' := [.int ((I 33) x2.toNatClampNeg), .ref 98]) (E' := E) (I' := I) (J' := J) (S' := S) am_e165 rfl rfl rfl rfl ?_
    have hf2 := h.1
    replace h := h.2
    refine w_ia (k := 98) (n := 64) (jn := ((I 33) x2.toNatClampNeg).toNatClampNeg) am_e165 rfl rfl (by decide) hf2 rfl ?_
    refine w_if1 am_e165 rfl rfl (fun c => ?_) (fun c => ?_)
    · replace h := h.2 (of_decide_eq_true c)
      refine w_st (i' := 36) (ls' := [.ref 96, .ref 18, .int x2, .int ((I 33) x2.toNatClampNeg)]) (st' := [.ref 96]) (E' := E) (I' := I) (J' := J) (S' := S) am_e165 rfl rfl rfl rfl ?_
      refine w_st (i' := 37) (ls' := [.ref 96, .ref 18, .int x2, .int ((I 33) x2.toNatClampNeg)]) (st' := [.ref 98]) (E' := E) (I' := I) (J' := J) (S' := S) am_e165 rfl rfl rfl rfl ?_
      refine w_st (i' := 38) (ls' := [.ref 96, .ref 18, .int x2, .int ((I 33) x2.toNatClampNeg)]) (st' := [.int ((I 33) x2.toNatClampNeg), .ref 98]) (E' := E) (I' := I) (J' := J) (S' := S) am_e165 rfl rfl rfl rfl ?_
      refine w_st (i' := 39) (ls' := [.ref 96, .ref 18, .int x2, .int ((I 33) x2.toNatClampNeg)]) (st' := [.int ((I 33) x2.toNatClampNeg), .ref 98, .int ((I 33) x2.toNatClampNeg), .ref 98]) (E' := E) (I' := I) (J' := J) (S' := S) am_e165 rfl rfl rfl rfl ?_
      refine w_ia (k := 98) (n := 64) (jn := ((I 33) x2.toNatClampNeg).toNatClampNeg) am_e165 rfl rfl (by decide) hf2 rfl ?_
      refine w_st (i' := 41) (ls' := [.ref 96, .ref 18, .int x2, .int ((I 33) x2.toNatClampNeg)]) (st' := [.int (nI 1), .int ((I 98) (((I 33) x2.toNatClampNeg).toNatClampNeg)), .int ((I 33) x2.toNatClampNeg), .ref 98]) (E' := E) (I' := I) (J' := J) (S' := S) am_e165 rfl rfl rfl rfl ?_
      refine w_st (i' := 42) (ls' := [.ref 96, .ref 18, .int x2, .int ((I 33) x2.toNatClampNeg)]) (st' := [.int (((I 98) (((I 33) x2.toNatClampNeg).toNatClampNeg)) + (nI 1)), .int ((I 33) x2.toNatClampNeg), .ref 98]) (E' := E) (I' := I) (J' := J) (S' := S) am_e165 rfl rfl rfl rfl ?_
      refine w_is (k := 98) (n := 64) (jn := ((I 33) x2.toNatClampNeg).toNatClampNeg) am_e165 rfl rfl (by decide) hf2 rfl ?_
      show am_ww 165 43 [.ref 96, .ref 18, .int x2, .int ((I 33) x2.toNatClampNeg)] [] E (u_I I 98 (upd (I 98) (((I 33) x2.toNatClampNeg).toNatClampNeg) (((I 98) (((I 33) x2.toNatClampNeg).toNatClampNeg)) + (nI 1)))) J S _
      refine w_st (i' := 44) (ls' := [.ref 96, .ref 18, .int (x2 + nI 1), .int ((I 33) x2.toNatClampNeg)]) (st' := []) (E' := E) (I' := (u_I I 98 (upd (I 98) (((I 33) x2.toNatClampNeg).toNatClampNeg) (((I 98) (((I 33) x2.toNatClampNeg).toNatClampNeg)) + (nI 1))))) (J' := J) (S' := S) am_e165 rfl rfl rfl rfl ?_
      refine w_st (i' := 9) (ls' := [.ref 96, .ref 18, .int (x2 + nI 1), .int ((I 33) x2.toNatClampNeg)]) (st' := []) (E' := E) (I' := (u_I I 98 (upd (I 98) (((I 33) x2.toNatClampNeg).toNatClampNeg) (((I 98) (((I 33) x2.toNatClampNeg).toNatClampNeg)) + (nI 1))))) (J' := J) (S' := S) am_e165 rfl rfl rfl rfl ?_
      exact h
    · replace h := h.1 (Decidable.not_not.mp (of_decide_eq_false c))
      refine w_st (i' := 24) (ls' := [.ref 96, .ref 18, .int x2, .int ((I 33) x2.toNatClampNeg)]) (st' := [.ref 96]) (E' := E) (I' := I) (J' := J) (S' := S) am_e165 rfl rfl rfl rfl ?_
      refine w_st (i' := 25) (ls' := [.ref 96, .ref 18, .int x2, .int ((I 33) x2.toNatClampNeg)]) (st' := [.ref 97]) (E' := E) (I' := I) (J' := J) (S' := S) am_e165 rfl rfl rfl rfl ?_
      refine w_st (i' := 26) (ls' := [.ref 96, .ref 18, .int x2, .int ((I 33) x2.toNatClampNeg)]) (st' := [.ref 96, .ref 97]) (E' := E) (I' := I) (J' := J) (S' := S) am_e165 rfl rfl rfl rfl ?_
      refine w_st (i' := 27) (ls' := [.ref 96, .ref 18, .int x2, .int ((I 33) x2.toNatClampNeg)]) (st' := [.int ((I 96) 2), .ref 97]) (E' := E) (I' := I) (J' := J) (S' := S) am_e165 rfl rfl rfl rfl ?_
      refine w_st (i' := 28) (ls' := [.ref 96, .ref 18, .int x2, .int ((I 33) x2.toNatClampNeg)]) (st' := [.int ((I 33) x2.toNatClampNeg), .int ((I 96) 2), .ref 97]) (E' := E) (I' := I) (J' := J) (S' := S) am_e165 rfl rfl rfl rfl ?_
      have hf3 := h.1
      replace h := h.2
      refine w_is (k := 97) (n := 64) (jn := ((I 96) 2).toNatClampNeg) am_e165 rfl rfl (by decide) hf3 rfl ?_
      show am_ww 165 29 [.ref 96, .ref 18, .int x2, .int ((I 33) x2.toNatClampNeg)] [] E (u_I I 97 (upd (I 97) (((I 96) 2).toNatClampNeg) ((I 33) x2.toNatClampNeg))) J S _
      refine w_st (i' := 30) (ls' := [.ref 96, .ref 18, .int x2, .int ((I 33) x2.toNatClampNeg)]) (st' := [.ref 96]) (E' := E) (I' := (u_I I 97 (upd (I 97) (((I 96) 2).toNatClampNeg) ((I 33) x2.toNatClampNeg)))) (J' := J) (S' := S) am_e165 rfl rfl rfl rfl ?_
      refine w_st (i' := 31) (ls' := [.ref 96, .ref 18, .int x2, .int ((I 33) x2.toNatClampNeg)]) (st' := [.ref 96, .ref 96]) (E' := E) (I' := (u_I I 97 (upd (I 97) (((I 96) 2).toNatClampNeg) ((I 33) x2.toNatClampNeg)))) (J' := J) (S' := S) am_e165 rfl rfl rfl rfl ?_
      refine w_st (i' := 32) (ls' := [.ref 96, .ref 18, .int x2, .int ((I 33) x2.toNatClampNeg)]) (st' := [.int ((I 96) 2), .ref 96]) (E' := E) (I' := (u_I I 97 (upd (I 97) (((I 96) 2).toNatClampNeg) ((I 33) x2.toNatClampNeg)))) (J' := J) (S' := S) am_e165 rfl rfl rfl rfl ?_
      refine w_st (i' := 33) (ls' := [.ref 96, .ref 18, .int x2, .int ((I 33) x2.toNatClampNeg)]) (st' := [.int (nI 1), .int ((I 96) 2), .ref 96]) (E' := E) (I' := (u_I I 97 (upd (I 97) (((I 96) 2).toNatClampNeg) ((I 33) x2.toNatClampNeg)))) (J' := J) (S' := S) am_e165 rfl rfl rfl rfl ?_
      refine w_st (i' := 34) (ls' := [.ref 96, .ref 18, .int x2, .int ((I 33) x2.toNatClampNeg)]) (st' := [.int (((I 96) 2) + (nI 1)), .ref 96]) (E' := E) (I' := (u_I I 97 (upd (I 97) (((I 96) 2).toNatClampNeg) ((I 33) x2.toNatClampNeg)))) (J' := J) (S' := S) am_e165 rfl rfl rfl rfl ?_
      refine w_st (i' := 35) (ls' := [.ref 96, .ref 18, .int x2, .int ((I 33) x2.toNatClampNeg)]) (st' := []) (E' := E) (I' := (u_I (u_I I 97 (upd (I 97) (((I 96) 2).toNatClampNeg) ((I 33) x2.toNatClampNeg))) 96 (upd (I 96) 2 (((I 96) 2) + (nI 1))))) (J' := J) (S' := S) am_e165 rfl rfl rfl rfl ?_
      refine w_st (i' := 36) (ls' := [.ref 96, .ref 18, .int x2, .int ((I 33) x2.toNatClampNeg)]) (st' := [.ref 96]) (E' := E) (I' := (u_I (u_I I 97 (upd (I 97) (((I 96) 2).toNatClampNeg) ((I 33) x2.toNatClampNeg))) 96 (upd (I 96) 2 (((I 96) 2) + (nI 1))))) (J' := J) (S' := S) am_e165 rfl rfl rfl rfl ?_
      refine w_st (i' := 37) (ls' := [.ref 96, .ref 18, .int x2, .int ((I 33) x2.toNatClampNeg)]) (st' := [.ref 98]) (E' := E) (I' := (u_I (u_I I 97 (upd (I 97) (((I 96) 2).toNatClampNeg) ((I 33) x2.toNatClampNeg))) 96 (upd (I 96) 2 (((I 96) 2) + (nI 1))))) (J' := J) (S' := S) am_e165 rfl rfl rfl rfl ?_
      refine w_st (i' := 38) (ls' := [.ref 96, .ref 18, .int x2, .int ((I 33) x2.toNatClampNeg)]) (st' := [.int ((I 33) x2.toNatClampNeg), .ref 98]) (E' := E) (I' := (u_I (u_I I 97 (upd (I 97) (((I 96) 2).toNatClampNeg) ((I 33) x2.toNatClampNeg))) 96 (upd (I 96) 2 (((I 96) 2) + (nI 1))))) (J' := J) (S' := S) am_e165 rfl rfl rfl rfl ?_
      refine w_st (i' := 39) (ls' := [.ref 96, .ref 18, .int x2, .int ((I 33) x2.toNatClampNeg)]) (st' := [.int ((I 33) x2.toNatClampNeg), .ref 98, .int ((I 33) x2.toNatClampNeg), .ref 98]) (E' := E) (I' := (u_I (u_I I 97 (upd (I 97) (((I 96) 2).toNatClampNeg) ((I 33) x2.toNatClampNeg))) 96 (upd (I 96) 2 (((I 96) 2) + (nI 1))))) (J' := J) (S' := S) am_e165 rfl rfl rfl rfl ?_
      refine w_ia (k := 98) (n := 64) (jn := ((I 33) x2.toNatClampNeg).toNatClampNeg) am_e165 rfl rfl (by decide) hf2 rfl ?_
      show am_ww 165 40 [.ref 96, .ref 18, .int x2, .int ((I 33) x2.toNatClampNeg)] [.int ((I 98) (((I 33) x2.toNatClampNeg).toNatClampNeg)), .int ((I 33) x2.toNatClampNeg), .ref 98] E (u_I (u_I I 97 (upd (I 97) (((I 96) 2).toNatClampNeg) ((I 33) x2.toNatClampNeg))) 96 (upd (I 96) 2 (((I 96) 2) + (nI 1)))) J S _
      refine w_st (i' := 41) (ls' := [.ref 96, .ref 18, .int x2, .int ((I 33) x2.toNatClampNeg)]) (st' := [.int (nI 1), .int ((I 98) (((I 33) x2.toNatClampNeg).toNatClampNeg)), .int ((I 33) x2.toNatClampNeg), .ref 98]) (E' := E) (I' := (u_I (u_I I 97 (upd (I 97) (((I 96) 2).toNatClampNeg) ((I 33) x2.toNatClampNeg))) 96 (upd (I 96) 2 (((I 96) 2) + (nI 1))))) (J' := J) (S' := S) am_e165 rfl rfl rfl rfl ?_
      refine w_st (i' := 42) (ls' := [.ref 96, .ref 18, .int x2, .int ((I 33) x2.toNatClampNeg)]) (st' := [.int (((I 98) (((I 33) x2.toNatClampNeg).toNatClampNeg)) + (nI 1)), .int ((I 33) x2.toNatClampNeg), .ref 98]) (E' := E) (I' := (u_I (u_I I 97 (upd (I 97) (((I 96) 2).toNatClampNeg) ((I 33) x2.toNatClampNeg))) 96 (upd (I 96) 2 (((I 96) 2) + (nI 1))))) (J' := J) (S' := S) am_e165 rfl rfl rfl rfl ?_
      refine w_is (k := 98) (n := 64) (jn := ((I 33) x2.toNatClampNeg).toNatClampNeg) am_e165 rfl rfl (by decide) hf2 rfl ?_
      show am_ww 165 43 [.ref 96, .ref 18, .int x2, .int ((I 33) x2.toNatClampNeg)] [] E (u_I (u_I (u_I I 97 (upd (I 97) (((I 96) 2).toNatClampNeg) ((I 33) x2.toNatClampNeg))) 96 (upd (I 96) 2 (((I 96) 2) + (nI 1)))) 98 (upd (I 98) (((I 33) x2.toNatClampNeg).toNatClampNeg) (((I 98) (((I 33) x2.toNatClampNeg).toNatClampNeg)) + (nI 1)))) J S _
      refine w_st (i' := 44) (ls' := [.ref 96, .ref 18, .int (x2 + nI 1), .int ((I 33) x2.toNatClampNeg)]) (st' := []) (E' := E) (I' := (u_I (u_I (u_I I 97 (upd (I 97) (((I 96) 2).toNatClampNeg) ((I 33) x2.toNatClampNeg))) 96 (upd (I 96) 2 (((I 96) 2) + (nI 1)))) 98 (upd (I 98) (((I 33) x2.toNatClampNeg).toNatClampNeg) (((I 98) (((I 33) x2.toNatClampNeg).toNatClampNeg)) + (nI 1))))) (J' := J) (S' := S) am_e165 rfl rfl rfl rfl ?_
      refine w_st (i' := 9) (ls' := [.ref 96, .ref 18, .int (x2 + nI 1), .int ((I 33) x2.toNatClampNeg)]) (st' := []) (E' := E) (I' := (u_I (u_I (u_I I 97 (upd (I 97) (((I 96) 2).toNatClampNeg) ((I 33) x2.toNatClampNeg))) 96 (upd (I 96) 2 (((I 96) 2) + (nI 1)))) 98 (upd (I 98) (((I 33) x2.toNatClampNeg).toNatClampNeg) (((I 98) (((I 33) x2.toNatClampNeg).toNatClampNeg)) + (nI 1))))) (J' := J) (S' := S) am_e165 rfl rfl rfl rfl ?_
      exact h
-- 153 bitCount
theorem g153_0 {p1 : Int32} {E : am_Ev} {I : Nat → Nat → Int32} {J : Nat → Nat → Int64} {S : Nat → Nat → Option Nat} {Q : am_Qt}  (h : ∀ w1 : Int32, w1 = (p1 - (((p1.toUInt32 >>> ((nI 1).toUInt32 &&& Int32.toUInt32 31)).toInt32) &&& (nI 1431655765))) → (∀ w2 : Int32, w2 = ((w1 &&& (nI 858993459)) + (((w1.toUInt32 >>> ((nI 2).toUInt32 &&& Int32.toUInt32 31)).toInt32) &&& (nI 858993459))) → (∀ w3 : Int32, w3 = ((w2 + ((w2.toUInt32 >>> ((nI 4).toUInt32 &&& Int32.toUInt32 31)).toInt32)) &&& (nI 252645135)) → (∀ w4 : Int32, w4 = (w3 + ((w3.toUInt32 >>> ((nI 8).toUInt32 &&& Int32.toUInt32 31)).toInt32)) → (∀ w5 : Int32, w5 = (w4 + ((w4.toUInt32 >>> ((nI 16).toUInt32 &&& Int32.toUInt32 31)).toInt32)) → (Q (.inl (some (.int (w5 &&& (nI 63))))) E I J S)))))) : am_ww 153 0 [.int p1] [] E I J S Q := by
  refine w_st (i' := 1) (ls' := [.int p1]) (st' := [.int p1]) (E' := E) (I' := I) (J' := J) (S' := S) am_e153 rfl rfl rfl rfl ?_
  refine w_st (i' := 2) (ls' := [.int p1]) (st' := [.int p1, .int p1]) (E' := E) (I' := I) (J' := J) (S' := S) am_e153 rfl rfl rfl rfl ?_
  refine w_st (i' := 3) (ls' := [.int p1]) (st' := [.int (nI 1), .int p1, .int p1]) (E' := E) (I' := I) (J' := J) (S' := S) am_e153 rfl rfl rfl rfl ?_
  refine w_st (i' := 4) (ls' := [.int p1]) (st' := [.int ((p1.toUInt32 >>> ((nI 1).toUInt32 &&& Int32.toUInt32 31)).toInt32), .int p1]) (E' := E) (I' := I) (J' := J) (S' := S) am_e153 rfl rfl rfl rfl ?_
  refine w_st (i' := 5) (ls' := [.int p1]) (st' := [.int (nI 1431655765), .int ((p1.toUInt32 >>> ((nI 1).toUInt32 &&& Int32.toUInt32 31)).toInt32), .int p1]) (E' := E) (I' := I) (J' := J) (S' := S) am_e153 rfl rfl rfl rfl ?_
  refine w_st (i' := 6) (ls' := [.int p1]) (st' := [.int (((p1.toUInt32 >>> ((nI 1).toUInt32 &&& Int32.toUInt32 31)).toInt32) &&& (nI 1431655765)), .int p1]) (E' := E) (I' := I) (J' := J) (S' := S) am_e153 rfl rfl rfl rfl ?_
  refine w_st (i' := 7) (ls' := [.int p1]) (st' := [.int (p1 - (((p1.toUInt32 >>> ((nI 1).toUInt32 &&& Int32.toUInt32 31)).toInt32) &&& (nI 1431655765)))]) (E' := E) (I' := I) (J' := J) (S' := S) am_e153 rfl rfl rfl rfl ?_
  refine w_st (i' := 8) (ls' := [.int (p1 - (((p1.toUInt32 >>> ((nI 1).toUInt32 &&& Int32.toUInt32 31)).toInt32) &&& (nI 1431655765)))]) (st' := []) (E' := E) (I' := I) (J' := J) (S' := S) am_e153 rfl rfl rfl rfl ?_
  refine w_var (fun w1 => am_ww 153 8 [.int w1] [] E I J S _) (p1 - (((p1.toUInt32 >>> ((nI 1).toUInt32 &&& Int32.toUInt32 31)).toInt32) &&& (nI 1431655765))) (fun w1 hw1 => ?_)
  replace h := h w1 hw1
  refine w_st (i' := 9) (ls' := [.int w1]) (st' := [.int w1]) (E' := E) (I' := I) (J' := J) (S' := S) am_e153 rfl rfl rfl rfl ?_
  refine w_st (i' := 10) (ls' := [.int w1]) (st' := [.int (nI 858993459), .int w1]) (E' := E) (I' := I) (J' := J) (S' := S) am_e153 rfl rfl rfl rfl ?_
  refine w_st (i' := 11) (ls' := [.int w1]) (st' := [.int (w1 &&& (nI 858993459))]) (E' := E) (I' := I) (J' := J) (S' := S) am_e153 rfl rfl rfl rfl ?_
  refine w_st (i' := 12) (ls' := [.int w1]) (st' := [.int w1, .int (w1 &&& (nI 858993459))]) (E' := E) (I' := I) (J' := J) (S' := S) am_e153 rfl rfl rfl rfl ?_
  refine w_st (i' := 13) (ls' := [.int w1]) (st' := [.int (nI 2), .int w1, .int (w1 &&& (nI 858993459))]) (E' := E) (I' := I) (J' := J) (S' := S) am_e153 rfl rfl rfl rfl ?_
  refine w_st (i' := 14) (ls' := [.int w1]) (st' := [.int ((w1.toUInt32 >>> ((nI 2).toUInt32 &&& Int32.toUInt32 31)).toInt32), .int (w1 &&& (nI 858993459))]) (E' := E) (I' := I) (J' := J) (S' := S) am_e153 rfl rfl rfl rfl ?_
  refine w_st (i' := 15) (ls' := [.int w1]) (st' := [.int (nI 858993459), .int ((w1.toUInt32 >>> ((nI 2).toUInt32 &&& Int32.toUInt32 31)).toInt32), .int (w1 &&& (nI 858993459))]) (E' := E) (I' := I) (J' := J) (S' := S) am_e153 rfl rfl rfl rfl ?_
  refine w_st (i' := 16) (ls' := [.int w1]) (st' := [.int (((w1.toUInt32 >>> ((nI 2).toUInt32 &&& Int32.toUInt32 31)).toInt32) &&& (nI 858993459)), .int (w1 &&& (nI 858993459))]) (E' := E) (I' := I) (J' := J) (S' := S) am_e153 rfl rfl rfl rfl ?_
  refine w_st (i' := 17) (ls' := [.int w1]) (st' := [.int ((w1 &&& (nI 858993459)) + (((w1.toUInt32 >>> ((nI 2).toUInt32 &&& Int32.toUInt32 31)).toInt32) &&& (nI 858993459)))]) (E' := E) (I' := I) (J' := J) (S' := S) am_e153 rfl rfl rfl rfl ?_
  refine w_st (i' := 18) (ls' := [.int ((w1 &&& (nI 858993459)) + (((w1.toUInt32 >>> ((nI 2).toUInt32 &&& Int32.toUInt32 31)).toInt32) &&& (nI 858993459)))]) (st' := []) (E' := E) (I' := I) (J' := J) (S' := S) am_e153 rfl rfl rfl rfl ?_
  refine w_var (fun w2 => am_ww 153 18 [.int w2] [] E I J S _) ((w1 &&& (nI 858993459)) + (((w1.toUInt32 >>> ((nI 2).toUInt32 &&& Int32.toUInt32 31)).toInt32) &&& (nI 858993459))) (fun w2 hw2 => ?_)
  replace h := h w2 hw2
  refine w_st (i' := 19) (ls' := [.int w2]) (st' := [.int w2]) (E' := E) (I' := I) (J' := J) (S' := S) am_e153 rfl rfl rfl rfl ?_
  refine w_st (i' := 20) (ls' := [.int w2]) (st' := [.int w2, .int w2]) (E' := E) (I' := I) (J' := J) (S' := S) am_e153 rfl rfl rfl rfl ?_
  refine w_st (i' := 21) (ls' := [.int w2]) (st' := [.int (nI 4), .int w2, .int w2]) (E' := E) (I' := I) (J' := J) (S' := S) am_e153 rfl rfl rfl rfl ?_
  refine w_st (i' := 22) (ls' := [.int w2]) (st' := [.int ((w2.toUInt32 >>> ((nI 4).toUInt32 &&& Int32.toUInt32 31)).toInt32), .int w2]) (E' := E) (I' := I) (J' := J) (S' := S) am_e153 rfl rfl rfl rfl ?_
  refine w_st (i' := 23) (ls' := [.int w2]) (st' := [.int (w2 + ((w2.toUInt32 >>> ((nI 4).toUInt32 &&& Int32.toUInt32 31)).toInt32))]) (E' := E) (I' := I) (J' := J) (S' := S) am_e153 rfl rfl rfl rfl ?_
  refine w_st (i' := 24) (ls' := [.int w2]) (st' := [.int (nI 252645135), .int (w2 + ((w2.toUInt32 >>> ((nI 4).toUInt32 &&& Int32.toUInt32 31)).toInt32))]) (E' := E) (I' := I) (J' := J) (S' := S) am_e153 rfl rfl rfl rfl ?_
  refine w_st (i' := 25) (ls' := [.int w2]) (st' := [.int ((w2 + ((w2.toUInt32 >>> ((nI 4).toUInt32 &&& Int32.toUInt32 31)).toInt32)) &&& (nI 252645135))]) (E' := E) (I' := I) (J' := J) (S' := S) am_e153 rfl rfl rfl rfl ?_
  refine w_st (i' := 26) (ls' := [.int ((w2 + ((w2.toUInt32 >>> ((nI 4).toUInt32 &&& Int32.toUInt32 31)).toInt32)) &&& (nI 252645135))]) (st' := []) (E' := E) (I' := I) (J' := J) (S' := S) am_e153 rfl rfl rfl rfl ?_
  refine w_var (fun w3 => am_ww 153 26 [.int w3] [] E I J S _) ((w2 + ((w2.toUInt32 >>> ((nI 4).toUInt32 &&& Int32.toUInt32 31)).toInt32)) &&& (nI 252645135)) (fun w3 hw3 => ?_)
  replace h := h w3 hw3
  refine w_st (i' := 27) (ls' := [.int w3]) (st' := [.int w3]) (E' := E) (I' := I) (J' := J) (S' := S) am_e153 rfl rfl rfl rfl ?_
  refine w_st (i' := 28) (ls' := [.int w3]) (st' := [.int w3, .int w3]) (E' := E) (I' := I) (J' := J) (S' := S) am_e153 rfl rfl rfl rfl ?_
  refine w_st (i' := 29) (ls' := [.int w3]) (st' := [.int (nI 8), .int w3, .int w3]) (E' := E) (I' := I) (J' := J) (S' := S) am_e153 rfl rfl rfl rfl ?_
  refine w_st (i' := 30) (ls' := [.int w3]) (st' := [.int ((w3.toUInt32 >>> ((nI 8).toUInt32 &&& Int32.toUInt32 31)).toInt32), .int w3]) (E' := E) (I' := I) (J' := J) (S' := S) am_e153 rfl rfl rfl rfl ?_
  refine w_st (i' := 31) (ls' := [.int w3]) (st' := [.int (w3 + ((w3.toUInt32 >>> ((nI 8).toUInt32 &&& Int32.toUInt32 31)).toInt32))]) (E' := E) (I' := I) (J' := J) (S' := S) am_e153 rfl rfl rfl rfl ?_
  refine w_st (i' := 32) (ls' := [.int (w3 + ((w3.toUInt32 >>> ((nI 8).toUInt32 &&& Int32.toUInt32 31)).toInt32))]) (st' := []) (E' := E) (I' := I) (J' := J) (S' := S) am_e153 rfl rfl rfl rfl ?_
  refine w_var (fun w4 => am_ww 153 32 [.int w4] [] E I J S _) (w3 + ((w3.toUInt32 >>> ((nI 8).toUInt32 &&& Int32.toUInt32 31)).toInt32)) (fun w4 hw4 => ?_)
  replace h := h w4 hw4
  refine w_st (i' := 33) (ls' := [.int w4]) (st' := [.int w4]) (E' := E) (I' := I) (J' := J) (S' := S) am_e153 rfl rfl rfl rfl ?_
  refine w_st (i' := 34) (ls' := [.int w4]) (st' := [.int w4, .int w4]) (E' := E) (I' := I) (J' := J) (S' := S) am_e153 rfl rfl rfl rfl ?_
  refine w_st (i' := 35) (ls' := [.int w4]) (st' := [.int (nI 16), .int w4, .int w4]) (E' := E) (I' := I) (J' := J) (S' := S) am_e153 rfl rfl rfl rfl ?_
  refine w_st (i' := 36) (ls' := [.int w4]) (st' := [.int ((w4.toUInt32 >>> ((nI 16).toUInt32 &&& Int32.toUInt32 31)).toInt32), .int w4]) (E' := E) (I' := I) (J' := J) (S' := S) am_e153 rfl rfl rfl rfl ?_
  refine w_st (i' := 37) (ls' := [.int w4]) (st' := [.int (w4 + ((w4.toUInt32 >>> ((nI 16).toUInt32 &&& Int32.toUInt32 31)).toInt32))]) (E' := E) (I' := I) (J' := J) (S' := S) am_e153 rfl rfl rfl rfl ?_
  refine w_st (i' := 38) (ls' := [.int (w4 + ((w4.toUInt32 >>> ((nI 16).toUInt32 &&& Int32.toUInt32 31)).toInt32))]) (st' := []) (E' := E) (I' := I) (J' := J) (S' := S) am_e153 rfl rfl rfl rfl ?_
  refine w_var (fun w5 => am_ww 153 38 [.int w5] [] E I J S _) (w4 + ((w4.toUInt32 >>> ((nI 16).toUInt32 &&& Int32.toUInt32 31)).toInt32)) (fun w5 hw5 => ?_)
  replace h := h w5 hw5
  refine w_st (i' := 39) (ls' := [.int w5]) (st' := [.int w5]) (E' := E) (I' := I) (J' := J) (S' := S) am_e153 rfl rfl rfl rfl ?_
  refine w_st (i' := 40) (ls' := [.int w5]) (st' := [.int (nI 63), .int w5]) (E' := E) (I' := I) (J' := J) (S' := S) am_e153 rfl rfl rfl rfl ?_
  refine w_st (i' := 41) (ls' := [.int w5]) (st' := [.int (w5 &&& (nI 63))]) (E' := E) (I' := I) (J' := J) (S' := S) am_e153 rfl rfl rfl rfl ?_
  exact w_ri am_e153 rfl rfl h
-- 155 bitCount
theorem g155_0 {p1 : Int64} {E : am_Ev} {I : Nat → Nat → Int32} {J : Nat → Nat → Int64} {S : Nat → Nat → Option Nat} {Q : am_Qt}  (h : ∀ w1 : Int64, w1 = (p1 - (((p1.toUInt64 >>> ((nI 1).toInt64.toUInt64 &&& Int64.toUInt64 63)).toInt64) &&& (lN 6148914691236517205))) → (∀ w2 : Int64, w2 = ((w1 &&& (lN 3689348814741910323)) + (((w1.toUInt64 >>> ((nI 2).toInt64.toUInt64 &&& Int64.toUInt64 63)).toInt64) &&& (lN 3689348814741910323))) → (∀ w3 : Int64, w3 = ((w2 + ((w2.toUInt64 >>> ((nI 4).toInt64.toUInt64 &&& Int64.toUInt64 63)).toInt64)) &&& (lN 1085102592571150095)) → (∀ w4 : Int64, w4 = (w3 + ((w3.toUInt64 >>> ((nI 8).toInt64.toUInt64 &&& Int64.toUInt64 63)).toInt64)) → (∀ w5 : Int64, w5 = (w4 + ((w4.toUInt64 >>> ((nI 16).toInt64.toUInt64 &&& Int64.toUInt64 63)).toInt64)) → (∀ w6 : Int64, w6 = (w5 + ((w5.toUInt64 >>> ((nI 32).toInt64.toUInt64 &&& Int64.toUInt64 63)).toInt64)) → (Q (.inl (some (.int (w6.toInt32 &&& (nI 127))))) E I J S))))))) : am_ww 155 0 [.long p1, am_U] [] E I J S Q := by
  refine w_st (i' := 1) (ls' := [.long p1, am_U]) (st' := [.long p1]) (E' := E) (I' := I) (J' := J) (S' := S) am_e155 rfl rfl rfl rfl ?_
  refine w_st (i' := 2) (ls' := [.long p1, am_U]) (st' := [.long p1, .long p1]) (E' := E) (I' := I) (J' := J) (S' := S) am_e155 rfl rfl rfl rfl ?_
  refine w_st (i' := 3) (ls' := [.long p1, am_U]) (st' := [.int (nI 1), .long p1, .long p1]) (E' := E) (I' := I) (J' := J) (S' := S) am_e155 rfl rfl rfl rfl ?_
  refine w_st (i' := 4) (ls' := [.long p1, am_U]) (st' := [.long ((p1.toUInt64 >>> ((nI 1).toInt64.toUInt64 &&& Int64.toUInt64 63)).toInt64), .long p1]) (E' := E) (I' := I) (J' := J) (S' := S) am_e155 rfl rfl rfl rfl ?_
  refine w_st (i' := 5) (ls' := [.long p1, am_U]) (st' := [.long (lN 6148914691236517205), .long ((p1.toUInt64 >>> ((nI 1).toInt64.toUInt64 &&& Int64.toUInt64 63)).toInt64), .long p1]) (E' := E) (I' := I) (J' := J) (S' := S) am_e155 rfl rfl rfl rfl ?_
  refine w_st (i' := 6) (ls' := [.long p1, am_U]) (st' := [.long (((p1.toUInt64 >>> ((nI 1).toInt64.toUInt64 &&& Int64.toUInt64 63)).toInt64) &&& (lN 6148914691236517205)), .long p1]) (E' := E) (I' := I) (J' := J) (S' := S) am_e155 rfl rfl rfl rfl ?_
  refine w_st (i' := 7) (ls' := [.long p1, am_U]) (st' := [.long (p1 - (((p1.toUInt64 >>> ((nI 1).toInt64.toUInt64 &&& Int64.toUInt64 63)).toInt64) &&& (lN 6148914691236517205)))]) (E' := E) (I' := I) (J' := J) (S' := S) am_e155 rfl rfl rfl rfl ?_
  refine w_st (i' := 8) (ls' := [.long (p1 - (((p1.toUInt64 >>> ((nI 1).toInt64.toUInt64 &&& Int64.toUInt64 63)).toInt64) &&& (lN 6148914691236517205))), am_U]) (st' := []) (E' := E) (I' := I) (J' := J) (S' := S) am_e155 rfl rfl rfl rfl ?_
  refine w_varL (fun w1 => am_ww 155 8 [.long w1, am_U] [] E I J S _) (p1 - (((p1.toUInt64 >>> ((nI 1).toInt64.toUInt64 &&& Int64.toUInt64 63)).toInt64) &&& (lN 6148914691236517205))) (fun w1 hw1 => ?_)
  replace h := h w1 hw1
  refine w_st (i' := 9) (ls' := [.long w1, am_U]) (st' := [.long w1]) (E' := E) (I' := I) (J' := J) (S' := S) am_e155 rfl rfl rfl rfl ?_
  refine w_st (i' := 10) (ls' := [.long w1, am_U]) (st' := [.long (lN 3689348814741910323), .long w1]) (E' := E) (I' := I) (J' := J) (S' := S) am_e155 rfl rfl rfl rfl ?_
  refine w_st (i' := 11) (ls' := [.long w1, am_U]) (st' := [.long (w1 &&& (lN 3689348814741910323))]) (E' := E) (I' := I) (J' := J) (S' := S) am_e155 rfl rfl rfl rfl ?_
  refine w_st (i' := 12) (ls' := [.long w1, am_U]) (st' := [.long w1, .long (w1 &&& (lN 3689348814741910323))]) (E' := E) (I' := I) (J' := J) (S' := S) am_e155 rfl rfl rfl rfl ?_
  refine w_st (i' := 13) (ls' := [.long w1, am_U]) (st' := [.int (nI 2), .long w1, .long (w1 &&& (lN 3689348814741910323))]) (E' := E) (I' := I) (J' := J) (S' := S) am_e155 rfl rfl rfl rfl ?_
  refine w_st (i' := 14) (ls' := [.long w1, am_U]) (st' := [.long ((w1.toUInt64 >>> ((nI 2).toInt64.toUInt64 &&& Int64.toUInt64 63)).toInt64), .long (w1 &&& (lN 3689348814741910323))]) (E' := E) (I' := I) (J' := J) (S' := S) am_e155 rfl rfl rfl rfl ?_
  refine w_st (i' := 15) (ls' := [.long w1, am_U]) (st' := [.long (lN 3689348814741910323), .long ((w1.toUInt64 >>> ((nI 2).toInt64.toUInt64 &&& Int64.toUInt64 63)).toInt64), .long (w1 &&& (lN 3689348814741910323))]) (E' := E) (I' := I) (J' := J) (S' := S) am_e155 rfl rfl rfl rfl ?_
  refine w_st (i' := 16) (ls' := [.long w1, am_U]) (st' := [.long (((w1.toUInt64 >>> ((nI 2).toInt64.toUInt64 &&& Int64.toUInt64 63)).toInt64) &&& (lN 3689348814741910323)), .long (w1 &&& (lN 3689348814741910323))]) (E' := E) (I' := I) (J' := J) (S' := S) am_e155 rfl rfl rfl rfl ?_
  refine w_st (i' := 17) (ls' := [.long w1, am_U]) (st' := [.long ((w1 &&& (lN 3689348814741910323)) + (((w1.toUInt64 >>> ((nI 2).toInt64.toUInt64 &&& Int64.toUInt64 63)).toInt64) &&& (lN 3689348814741910323)))]) (E' := E) (I' := I) (J' := J) (S' := S) am_e155 rfl rfl rfl rfl ?_
  refine w_st (i' := 18) (ls' := [.long ((w1 &&& (lN 3689348814741910323)) + (((w1.toUInt64 >>> ((nI 2).toInt64.toUInt64 &&& Int64.toUInt64 63)).toInt64) &&& (lN 3689348814741910323))), am_U]) (st' := []) (E' := E) (I' := I) (J' := J) (S' := S) am_e155 rfl rfl rfl rfl ?_
  refine w_varL (fun w2 => am_ww 155 18 [.long w2, am_U] [] E I J S _) ((w1 &&& (lN 3689348814741910323)) + (((w1.toUInt64 >>> ((nI 2).toInt64.toUInt64 &&& Int64.toUInt64 63)).toInt64) &&& (lN 3689348814741910323))) (fun w2 hw2 => ?_)
  replace h := h w2 hw2
  refine w_st (i' := 19) (ls' := [.long w2, am_U]) (st' := [.long w2]) (E' := E) (I' := I) (J' := J) (S' := S) am_e155 rfl rfl rfl rfl ?_
  refine w_st (i' := 20) (ls' := [.long w2, am_U]) (st' := [.long w2, .long w2]) (E' := E) (I' := I) (J' := J) (S' := S) am_e155 rfl rfl rfl rfl ?_
  refine w_st (i' := 21) (ls' := [.long w2, am_U]) (st' := [.int (nI 4), .long w2, .long w2]) (E' := E) (I' := I) (J' := J) (S' := S) am_e155 rfl rfl rfl rfl ?_
  refine w_st (i' := 22) (ls' := [.long w2, am_U]) (st' := [.long ((w2.toUInt64 >>> ((nI 4).toInt64.toUInt64 &&& Int64.toUInt64 63)).toInt64), .long w2]) (E' := E) (I' := I) (J' := J) (S' := S) am_e155 rfl rfl rfl rfl ?_
  refine w_st (i' := 23) (ls' := [.long w2, am_U]) (st' := [.long (w2 + ((w2.toUInt64 >>> ((nI 4).toInt64.toUInt64 &&& Int64.toUInt64 63)).toInt64))]) (E' := E) (I' := I) (J' := J) (S' := S) am_e155 rfl rfl rfl rfl ?_
  refine w_st (i' := 24) (ls' := [.long w2, am_U]) (st' := [.long (lN 1085102592571150095), .long (w2 + ((w2.toUInt64 >>> ((nI 4).toInt64.toUInt64 &&& Int64.toUInt64 63)).toInt64))]) (E' := E) (I' := I) (J' := J) (S' := S) am_e155 rfl rfl rfl rfl ?_
  refine w_st (i' := 25) (ls' := [.long w2, am_U]) (st' := [.long ((w2 + ((w2.toUInt64 >>> ((nI 4).toInt64.toUInt64 &&& Int64.toUInt64 63)).toInt64)) &&& (lN 1085102592571150095))]) (E' := E) (I' := I) (J' := J) (S' := S) am_e155 rfl rfl rfl rfl ?_
  refine w_st (i' := 26) (ls' := [.long ((w2 + ((w2.toUInt64 >>> ((nI 4).toInt64.toUInt64 &&& Int64.toUInt64 63)).toInt64)) &&& (lN 1085102592571150095)), am_U]) (st' := []) (E' := E) (I' := I) (J' := J) (S' := S) am_e155 rfl rfl rfl rfl ?_
  refine w_varL (fun w3 => am_ww 155 26 [.long w3, am_U] [] E I J S _) ((w2 + ((w2.toUInt64 >>> ((nI 4).toInt64.toUInt64 &&& Int64.toUInt64 63)).toInt64)) &&& (lN 1085102592571150095)) (fun w3 hw3 => ?_)
  replace h := h w3 hw3
  refine w_st (i' := 27) (ls' := [.long w3, am_U]) (st' := [.long w3]) (E' := E) (I' := I) (J' := J) (S' := S) am_e155 rfl rfl rfl rfl ?_
  refine w_st (i' := 28) (ls' := [.long w3, am_U]) (st' := [.long w3, .long w3]) (E' := E) (I' := I) (J' := J) (S' := S) am_e155 rfl rfl rfl rfl ?_
  refine w_st (i' := 29) (ls' := [.long w3, am_U]) (st' := [.int (nI 8), .long w3, .long w3]) (E' := E) (I' := I) (J' := J) (S' := S) am_e155 rfl rfl rfl rfl ?_
  refine w_st (i' := 30) (ls' := [.long w3, am_U]) (st' := [.long ((w3.toUInt64 >>> ((nI 8).toInt64.toUInt64 &&& Int64.toUInt64 63)).toInt64), .long w3]) (E' := E) (I' := I) (J' := J) (S' := S) am_e155 rfl rfl rfl rfl ?_
  refine w_st (i' := 31) (ls' := [.long w3, am_U]) (st' := [.long (w3 + ((w3.toUInt64 >>> ((nI 8).toInt64.toUInt64 &&& Int64.toUInt64 63)).toInt64))]) (E' := E) (I' := I) (J' := J) (S' := S) am_e155 rfl rfl rfl rfl ?_
  refine w_st (i' := 32) (ls' := [.long (w3 + ((w3.toUInt64 >>> ((nI 8).toInt64.toUInt64 &&& Int64.toUInt64 63)).toInt64)), am_U]) (st' := []) (E' := E) (I' := I) (J' := J) (S' := S) am_e155 rfl rfl rfl rfl ?_
  refine w_varL (fun w4 => am_ww 155 32 [.long w4, am_U] [] E I J S _) (w3 + ((w3.toUInt64 >>> ((nI 8).toInt64.toUInt64 &&& Int64.toUInt64 63)).toInt64)) (fun w4 hw4 => ?_)
  replace h := h w4 hw4
  refine w_st (i' := 33) (ls' := [.long w4, am_U]) (st' := [.long w4]) (E' := E) (I' := I) (J' := J) (S' := S) am_e155 rfl rfl rfl rfl ?_
  refine w_st (i' := 34) (ls' := [.long w4, am_U]) (st' := [.long w4, .long w4]) (E' := E) (I' := I) (J' := J) (S' := S) am_e155 rfl rfl rfl rfl ?_
  refine w_st (i' := 35) (ls' := [.long w4, am_U]) (st' := [.int (nI 16), .long w4, .long w4]) (E' := E) (I' := I) (J' := J) (S' := S) am_e155 rfl rfl rfl rfl ?_
  refine w_st (i' := 36) (ls' := [.long w4, am_U]) (st' := [.long ((w4.toUInt64 >>> ((nI 16).toInt64.toUInt64 &&& Int64.toUInt64 63)).toInt64), .long w4]) (E' := E) (I' := I) (J' := J) (S' := S) am_e155 rfl rfl rfl rfl ?_
  refine w_st (i' := 37) (ls' := [.long w4, am_U]) (st' := [.long (w4 + ((w4.toUInt64 >>> ((nI 16).toInt64.toUInt64 &&& Int64.toUInt64 63)).toInt64))]) (E' := E) (I' := I) (J' := J) (S' := S) am_e155 rfl rfl rfl rfl ?_
  refine w_st (i' := 38) (ls' := [.long (w4 + ((w4.toUInt64 >>> ((nI 16).toInt64.toUInt64 &&& Int64.toUInt64 63)).toInt64)), am_U]) (st' := []) (E' := E) (I' := I) (J' := J) (S' := S) am_e155 rfl rfl rfl rfl ?_
  refine w_varL (fun w5 => am_ww 155 38 [.long w5, am_U] [] E I J S _) (w4 + ((w4.toUInt64 >>> ((nI 16).toInt64.toUInt64 &&& Int64.toUInt64 63)).toInt64)) (fun w5 hw5 => ?_)
  replace h := h w5 hw5
  refine w_st (i' := 39) (ls' := [.long w5, am_U]) (st' := [.long w5]) (E' := E) (I' := I) (J' := J) (S' := S) am_e155 rfl rfl rfl rfl ?_
  refine w_st (i' := 40) (ls' := [.long w5, am_U]) (st' := [.long w5, .long w5]) (E' := E) (I' := I) (J' := J) (S' := S) am_e155 rfl rfl rfl rfl ?_
  refine w_st (i' := 41) (ls' := [.long w5, am_U]) (st' := [.int (nI 32), .long w5, .long w5]) (E' := E) (I' := I) (J' := J) (S' := S) am_e155 rfl rfl rfl rfl ?_
  refine w_st (i' := 42) (ls' := [.long w5, am_U]) (st' := [.long ((w5.toUInt64 >>> ((nI 32).toInt64.toUInt64 &&& Int64.toUInt64 63)).toInt64), .long w5]) (E' := E) (I' := I) (J' := J) (S' := S) am_e155 rfl rfl rfl rfl ?_
  refine w_st (i' := 43) (ls' := [.long w5, am_U]) (st' := [.long (w5 + ((w5.toUInt64 >>> ((nI 32).toInt64.toUInt64 &&& Int64.toUInt64 63)).toInt64))]) (E' := E) (I' := I) (J' := J) (S' := S) am_e155 rfl rfl rfl rfl ?_
  refine w_st (i' := 44) (ls' := [.long (w5 + ((w5.toUInt64 >>> ((nI 32).toInt64.toUInt64 &&& Int64.toUInt64 63)).toInt64)), am_U]) (st' := []) (E' := E) (I' := I) (J' := J) (S' := S) am_e155 rfl rfl rfl rfl ?_
  refine w_varL (fun w6 => am_ww 155 44 [.long w6, am_U] [] E I J S _) (w5 + ((w5.toUInt64 >>> ((nI 32).toInt64.toUInt64 &&& Int64.toUInt64 63)).toInt64)) (fun w6 hw6 => ?_)
  replace h := h w6 hw6
  refine w_st (i' := 45) (ls' := [.long w6, am_U]) (st' := [.long w6]) (E' := E) (I' := I) (J' := J) (S' := S) am_e155 rfl rfl rfl rfl ?_
  refine w_st (i' := 46) (ls' := [.long w6, am_U]) (st' := [.int w6.toInt32]) (E' := E) (I' := I) (J' := J) (S' := S) am_e155 rfl rfl rfl rfl ?_
  refine w_st (i' := 47) (ls' := [.long w6, am_U]) (st' := [.int (nI 127), .int w6.toInt32]) (E' := E) (I' := I) (J' := J) (S' := S) am_e155 rfl rfl rfl rfl ?_
  refine w_st (i' := 48) (ls' := [.long w6, am_U]) (st' := [.int (w6.toInt32 &&& (nI 127))]) (E' := E) (I' := I) (J' := J) (S' := S) am_e155 rfl rfl rfl rfl ?_
  exact w_ri am_e155 rfl rfl h
