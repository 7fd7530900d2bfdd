/-! rows of methods, by program -/
-- 184 layFirst
theorem g184_0 {p1 : Int32} {E : am_Ev} {I : Nat → Nat → Int32} {J : Nat → Nat → Int64} {S : Nat → Nat → Option Nat} {Q : am_Qt}  (h : am_ww 184 2 [.ref 99, .int p1, .int (nI 0)] [] E I J S Q) : am_ww 184 0 [.ref 99, .int p1, am_U] [] E I J S Q := by
  refine w_st (i' := 1) (ls' := [.ref 99, .int p1, am_U]) (st' := [.int (nI 0)]) (E' := E) (I' := I) (J' := J) (S' := S) am_e184 rfl rfl rfl rfl ?_
  refine w_st (i' := 2) (ls' := [.ref 99, .int p1, .int (nI 0)]) (st' := []) (E' := E) (I' := I) (J' := J) (S' := S) am_e184 rfl rfl rfl rfl ?_
  exact h
theorem g184_2 {x1 : Int32} {x2 : Int32} {E : am_Ev} {I : Nat → Nat → Int32} {J : Nat → Nat → Int64} {S : Nat → Nat → Option Nat} {Q : am_Qt}  (h : ((nI 51) ≤ x2 → (am_ww 184 22 [.ref 99, .int x1, .int (nI 0)] [] E I J S Q)) ∧ (¬ (nI 51) ≤ x2 → ((((nI 16) ≤ x2 → (True)) ∧ (¬ (nI 16) ≤ x2 → (vp_in x2 32 ∧ True))) ∧ (∀ w2 : Int32, w2 = (if (nI 16) ≤ x2 then nI 0 else ((I 104) x2.toNatClampNeg)) → (vp_in x2 51 ∧ (am_ww 184 2 [.ref 99, .int x1, .int (x2 + nI 1)] [] E (u_I I 116 (upd (I 116) x2.toNatClampNeg w2)) J S Q)))))) : am_ww 184 2 [.ref 99, .int x1, .int x2] [] E I J S Q := by
  refine w_st (i' := 3) (ls' := [.ref 99, .int x1, .int x2]) (st' := [.int x2]) (E' := E) (I' := I) (J' := J) (S' := S) am_e184 rfl rfl rfl rfl ?_
  refine w_st (i' := 4) (ls' := [.ref 99, .int x1, .int x2]) (st' := [.int (nI 51), .int x2]) (E' := E) (I' := I) (J' := J) (S' := S) am_e184 rfl rfl rfl rfl ?_
  refine w_if2 am_e184 rfl rfl (fun c => ?_) (fun c => ?_)
  · replace h := h.1 (of_decide_eq_true c)
    refine w_st (i' := 21) (ls' := [.ref 99, .int x1, .int x2]) (st' := [.int (nI 0)]) (E' := E) (I' := I) (J' := J) (S' := S) am_e184 rfl rfl rfl rfl ?_
    refine w_st (i' := 22) (ls' := [.ref 99, .int x1, .int (nI 0)]) (st' := []) (E' := E) (I' := I) (J' := J) (S' := S) am_e184 rfl rfl rfl rfl ?_
    exact h
  · replace h := h.2 (of_decide_eq_false c)
    refine w_st (i' := 6) (ls' := [.ref 99, .int x1, .int x2]) (st' := [.ref 99]) (E' := E) (I' := I) (J' := J) (S' := S) am_e184 rfl rfl rfl rfl ?_
    refine w_st (i' := 7) (ls' := [.ref 99, .int x1, .int x2]) (st' := [.ref 116]) (E' := E) (I' := I) (J' := J) (S' := S) am_e184 rfl rfl rfl rfl ?_
    refine w_st (i' := 8) (ls' := [.ref 99, .int x1, .int x2]) (st' := [.int x2, .ref 116]) (E' := E) (I' := I) (J' := J) (S' := S) am_e184 rfl rfl rfl rfl ?_
    refine w_st (i' := 9) (ls' := [.ref 99, .int x1, .int x2]) (st' := [.int x2, .int x2, .ref 116]) (E' := E) (I' := I) (J' := J) (S' := S) am_e184 rfl rfl rfl rfl ?_
    refine w_st (i' := 10) (ls' := [.ref 99, .int x1, .int x2]) (st' := [.int (nI 16), .int x2, .int x2, .ref 116]) (E' := E) (I' := I) (J' := J) (S' := S) am_e184 rfl rfl rfl rfl ?_
    refine w_mg (i := 17) (ls' := [.ref 99, .int x1, .int x2]) (st' := [.int (if (nI 16) ≤ x2 then nI 0 else ((I 104) x2.toNatClampNeg)), .int x2, .ref 116]) (fun hm => ?_) ?_
    · replace h := h.1
      refine w_if2 am_e184 rfl rfl (fun c => ?_) (fun c => ?_)
      · have m1 : (nI 16) ≤ x2 := (of_decide_eq_true c)
        replace h := h.1 m1
        refine w_st (i' := 17) (ls' := [.ref 99, .int x1, .int x2]) (st' := [.int (nI 0), .int x2, .ref 116]) (E' := E) (I' := I) (J' := J) (S' := S) am_e184 rfl rfl rfl rfl ?_
        first | exact hm | (simp only [if_pos m1] at hm; exact hm)
      · have m1 : ¬ ((nI 16) ≤ x2) := (of_decide_eq_false c)
        replace h := h.2 m1
        refine w_st (i' := 12) (ls' := [.ref 99, .int x1, .int x2]) (st' := [.ref 99, .int x2, .ref 116]) (E' := E) (I' := I) (J' := J) (S' := S) am_e184 rfl rfl rfl rfl ?_
        refine w_st (i' := 13) (ls' := [.ref 99, .int x1, .int x2]) (st' := [.ref 104, .int x2, .ref 116]) (E' := E) (I' := I) (J' := J) (S' := S) am_e184 rfl rfl rfl rfl ?_
        refine w_st (i' := 14) (ls' := [.ref 99, .int x1, .int x2]) (st' := [.int x2, .ref 104, .int x2, .ref 116]) (E' := E) (I' := I) (J' := J) (S' := S) am_e184 rfl rfl rfl rfl ?_
        refine w_ia (k := 104) (n := 32) (jn := x2.toNatClampNeg) am_e184 rfl rfl (by decide) h.1 rfl ?_
        replace h := h.2
        show am_ww 184 15 [.ref 99, .int x1, .int x2] [.int ((I 104) x2.toNatClampNeg), .int x2, .ref 116] E I J S _
        refine w_st (i' := 17) (ls' := [.ref 99, .int x1, .int x2]) (st' := [.int ((I 104) x2.toNatClampNeg), .int x2, .ref 116]) (E' := E) (I' := I) (J' := J) (S' := S) am_e184 rfl rfl rfl rfl ?_
        first | exact hm | (simp only [if_neg m1] at hm; exact hm)
    replace h := h.2
    refine w_var (fun w2 => am_ww 184 17 [.ref 99, .int x1, .int x2] [.int w2, .int x2, .ref 116] E I J S _) (if (nI 16) ≤ x2 then nI 0 else ((I 104) x2.toNatClampNeg)) (fun w2 hw2 => ?_)
    replace h := h w2 hw2
    have hf3 := h.1
    replace h := h.2
    refine w_is (k := 116) (n := 51) (jn := x2.toNatClampNeg) am_e184 rfl rfl (by decide) hf3 rfl ?_
    show am_ww 184 18 [.ref 99, .int x1, .int x2] [] E (u_I I 116 (upd (I 116) x2.toNatClampNeg w2)) J S _
    refine w_st (i' := 19) (ls' := [.ref 99, .int x1, .int (x2 + nI 1)]) (st' := []) (E' := E) (I' := (u_I I 116 (upd (I 116) x2.toNatClampNeg w2))) (J' := J) (S' := S) am_e184 rfl rfl rfl rfl ?_
    refine w_st (i' := 2) (ls' := [.ref 99, .int x1, .int (x2 + nI 1)]) (st' := []) (E' := E) (I' := (u_I I 116 (upd (I 116) x2.toNatClampNeg w2))) (J' := J) (S' := S) am_e184 rfl rfl rfl rfl ?_
    exact h
theorem g184_22 {x1 : Int32} {x2 : Int32} {E : am_Ev} {I : Nat → Nat → Int32} {J : Nat → Nat → Int64} {S : Nat → Nat → Option Nat} {Q : am_Qt}  (h : ((nI 4) ≤ x2 → (Q (.inl none) E (u_I I 116 (upd (upd (I 116) 44 (-1)) 46 x1)) J S)) ∧ (¬ (nI 4) ≤ x2 → (vp_in ((nI 40) + x2) 51 ∧ (am_ww 184 22 [.ref 99, .int x1, .int (x2 + nI 1)] [] E (u_I I 116 (upd (I 116) (((nI 40) + x2).toNatClampNeg) (-1))) J S Q)))) : am_ww 184 22 [.ref 99, .int x1, .int x2] [] E I J S Q := by
  refine w_st (i' := 23) (ls' := [.ref 99, .int x1, .int x2]) (st' := [.int x2]) (E' := E) (I' := I) (J' := J) (S' := S) am_e184 rfl rfl rfl rfl ?_
  refine w_st (i' := 24) (ls' := [.ref 99, .int x1, .int x2]) (st' := [.int (nI 4), .int x2]) (E' := E) (I' := I) (J' := J) (S' := S) am_e184 rfl rfl rfl rfl ?_
  refine w_if2 am_e184 rfl rfl (fun c => ?_) (fun c => ?_)
  · replace h := h.1 (of_decide_eq_true c)
    refine w_st (i' := 35) (ls' := [.ref 99, .int x1, .int x2]) (st' := [.ref 99]) (E' := E) (I' := I) (J' := J) (S' := S) am_e184 rfl rfl rfl rfl ?_
    refine w_st (i' := 36) (ls' := [.ref 99, .int x1, .int x2]) (st' := [.ref 116]) (E' := E) (I' := I) (J' := J) (S' := S) am_e184 rfl rfl rfl rfl ?_
    refine w_st (i' := 37) (ls' := [.ref 99, .int x1, .int x2]) (st' := [.int (nI 44), .ref 116]) (E' := E) (I' := I) (J' := J) (S' := S) am_e184 rfl rfl rfl rfl ?_
    refine w_st (i' := 38) (ls' := [.ref 99, .int x1, .int x2]) (st' := [.int (-1), .int (nI 44), .ref 116]) (E' := E) (I' := I) (J' := J) (S' := S) am_e184 rfl rfl rfl rfl ?_
    refine w_is (k := 116) (n := 51) (jn := 44) am_e184 rfl rfl (by decide) (vp_in_nI (by decide) (by decide)) rfl ?_
    show am_ww 184 39 [.ref 99, .int x1, .int x2] [] E (u_I I 116 (upd (I 116) 44 (-1))) J S _
    refine w_st (i' := 40) (ls' := [.ref 99, .int x1, .int x2]) (st' := [.ref 99]) (E' := E) (I' := (u_I I 116 (upd (I 116) 44 (-1)))) (J' := J) (S' := S) am_e184 rfl rfl rfl rfl ?_
    refine w_st (i' := 41) (ls' := [.ref 99, .int x1, .int x2]) (st' := [.ref 116]) (E' := E) (I' := (u_I I 116 (upd (I 116) 44 (-1)))) (J' := J) (S' := S) am_e184 rfl rfl rfl rfl ?_
    refine w_st (i' := 42) (ls' := [.ref 99, .int x1, .int x2]) (st' := [.int (nI 46), .ref 116]) (E' := E) (I' := (u_I I 116 (upd (I 116) 44 (-1)))) (J' := J) (S' := S) am_e184 rfl rfl rfl rfl ?_
    refine w_st (i' := 43) (ls' := [.ref 99, .int x1, .int x2]) (st' := [.int x1, .int (nI 46), .ref 116]) (E' := E) (I' := (u_I I 116 (upd (I 116) 44 (-1)))) (J' := J) (S' := S) am_e184 rfl rfl rfl rfl ?_
    refine w_is (k := 116) (n := 51) (jn := 46) am_e184 rfl rfl (by decide) (vp_in_nI (by decide) (by decide)) rfl ?_
    refine w_eI (uI_0 ..) ?_
    show am_ww 184 44 [.ref 99, .int x1, .int x2] [] E (u_I I 116 (upd (upd (I 116) 44 (-1)) 46 x1)) J S _
    exact w_end am_e184 rfl rfl rfl h
  · replace h := h.2 (of_decide_eq_false c)
    refine w_st (i' := 26) (ls' := [.ref 99, .int x1, .int x2]) (st' := [.ref 99]) (E' := E) (I' := I) (J' := J) (S' := S) am_e184 rfl rfl rfl rfl ?_
    refine w_st (i' := 27) (ls' := [.ref 99, .int x1, .int x2]) (st' := [.ref 116]) (E' := E) (I' := I) (J' := J) (S' := S) am_e184 rfl rfl rfl rfl ?_
    refine w_st (i' := 28) (ls' := [.ref 99, .int x1, .int x2]) (st' := [.int (nI 40), .ref 116]) (E' := E) (I' := I) (J' := J) (S' := S) am_e184 rfl rfl rfl rfl ?_
    refine w_st (i' := 29) (ls' := [.ref 99, .int x1, .int x2]) (st' := [.int x2, .int (nI 40), .ref 116]) (E' := E) (I' := I) (J' := J) (S' := S) am_e184 rfl rfl rfl rfl ?_
    refine w_st (i' := 30) (ls' := [.ref 99, .int x1, .int x2]) (st' := [.int ((nI 40) + x2), .ref 116]) (E' := E) (I' := I) (J' := J) (S' := S) am_e184 rfl rfl rfl rfl ?_
    refine w_st (i' := 31) (ls' := [.ref 99, .int x1, .int x2]) (st' := [.int (-1), .int ((nI 40) + x2), .ref 116]) (E' := E) (I' := I) (J' := J) (S' := S) am_e184 rfl rfl rfl rfl ?_
    have hf1 := h.1
    replace h := h.2
    refine w_is (k := 116) (n := 51) (jn := ((nI 40) + x2).toNatClampNeg) am_e184 rfl rfl (by decide) hf1 rfl ?_
    show am_ww 184 32 [.ref 99, .int x1, .int x2] [] E (u_I I 116 (upd (I 116) (((nI 40) + x2).toNatClampNeg) (-1))) J S _
    refine w_st (i' := 33) (ls' := [.ref 99, .int x1, .int (x2 + nI 1)]) (st' := []) (E' := E) (I' := (u_I I 116 (upd (I 116) (((nI 40) + x2).toNatClampNeg) (-1)))) (J' := J) (S' := S) am_e184 rfl rfl rfl rfl ?_
    refine w_st (i' := 22) (ls' := [.ref 99, .int x1, .int (x2 + nI 1)]) (st' := []) (E' := E) (I' := (u_I I 116 (upd (I 116) (((nI 40) + x2).toNatClampNeg) (-1)))) (J' := J) (S' := S) am_e184 rfl rfl rfl rfl ?_
    exact h
-- 185 keepRow
theorem g185_0 {p1 : Int32} {E : am_Ev} {I : Nat → Nat → Int32} {J : Nat → Nat → Int64} {S : Nat → Nat → Option Nat} {Q : am_Qt}  (h : am_ww 185 2 [.ref 99, .int p1, .int (nI 0)] [] E I J S Q) : am_ww 185 0 [.ref 99, .int p1, am_U] [] E I J S Q := by
  refine w_st (i' := 1) (ls' := [.ref 99, .int p1, am_U]) (st' := [.int (nI 0)]) (E' := E) (I' := I) (J' := J) (S' := S) am_e185 rfl rfl rfl rfl ?_
  refine w_st (i' := 2) (ls' := [.ref 99, .int p1, .int (nI 0)]) (st' := []) (E' := E) (I' := I) (J' := J) (S' := S) am_e185 rfl rfl rfl rfl ?_
  exact h
theorem g185_2 {x1 : Int32} {x2 : Int32} {E : am_Ev} {I : Nat → Nat → Int32} {J : Nat → Nat → Int64} {S : Nat → Nat → Option Nat} {Q : am_Qt}  (h : ((nI 51) ≤ x2 → (Q (.inl none) E I J S)) ∧ (¬ (nI 51) ≤ x2 → (vp_in x2 51 ∧ (vp_in (((nI 51) * x1) + x2) 20451 ∧ (am_ww 185 2 [.ref 99, .int x1, .int (x2 + nI 1)] [] E (u_I I 117 (upd (I 117) ((((nI 51) * x1) + x2).toNatClampNeg) ((I 116) x2.toNatClampNeg))) J S Q))))) : am_ww 185 2 [.ref 99, .int x1, .int x2] [] E I J S Q := by
  refine w_st (i' := 3) (ls' := [.ref 99, .int x1, .int x2]) (st' := [.int x2]) (E' := E) (I' := I) (J' := J) (S' := S) am_e185 rfl rfl rfl rfl ?_
  refine w_st (i' := 4) (ls' := [.ref 99, .int x1, .int x2]) (st' := [.int (nI 51), .int x2]) (E' := E) (I' := I) (J' := J) (S' := S) am_e185 rfl rfl rfl rfl ?_
  refine w_if2 am_e185 rfl rfl (fun c => ?_) (fun c => ?_)
  · replace h := h.1 (of_decide_eq_true c)
    exact w_end am_e185 rfl rfl rfl h
  · replace h := h.2 (of_decide_eq_false c)
    refine w_st (i' := 6) (ls' := [.ref 99, .int x1, .int x2]) (st' := [.ref 99]) (E' := E) (I' := I) (J' := J) (S' := S) am_e185 rfl rfl rfl rfl ?_
    refine w_st (i' := 7) (ls' := [.ref 99, .int x1, .int x2]) (st' := [.ref 117]) (E' := E) (I' := I) (J' := J) (S' := S) am_e185 rfl rfl rfl rfl ?_
    refine w_st (i' := 8) (ls' := [.ref 99, .int x1, .int x2]) (st' := [.int (nI 51), .ref 117]) (E' := E) (I' := I) (J' := J) (S' := S) am_e185 rfl rfl rfl rfl ?_
    refine w_st (i' := 9) (ls' := [.ref 99, .int x1, .int x2]) (st' := [.int x1, .int (nI 51), .ref 117]) (E' := E) (I' := I) (J' := J) (S' := S) am_e185 rfl rfl rfl rfl ?_
    refine w_st (i' := 10) (ls' := [.ref 99, .int x1, .int x2]) (st' := [.int ((nI 51) * x1), .ref 117]) (E' := E) (I' := I) (J' := J) (S' := S) am_e185 rfl rfl rfl rfl ?_
    refine w_st (i' := 11) (ls' := [.ref 99, .int x1, .int x2]) (st' := [.int x2, .int ((nI 51) * x1), .ref 117]) (E' := E) (I' := I) (J' := J) (S' := S) am_e185 rfl rfl rfl rfl ?_
    refine w_st (i' := 12) (ls' := [.ref 99, .int x1, .int x2]) (st' := [.int (((nI 51) * x1) + x2), .ref 117]) (E' := E) (I' := I) (J' := J) (S' := S) am_e185 rfl rfl rfl rfl ?_
    refine w_st (i' := 13) (ls' := [.ref 99, .int x1, .int x2]) (st' := [.ref 99, .int (((nI 51) * x1) + x2), .ref 117]) (E' := E) (I' := I) (J' := J) (S' := S) am_e185 rfl rfl rfl rfl ?_
    refine w_st (i' := 14) (ls' := [.ref 99, .int x1, .int x2]) (st' := [.ref 116, .int (((nI 51) * x1) + x2), .ref 117]) (E' := E) (I' := I) (J' := J) (S' := S) am_e185 rfl rfl rfl rfl ?_
    refine w_st (i' := 15) (ls' := [.ref 99, .int x1, .int x2]) (st' := [.int x2, .ref 116, .int (((nI 51) * x1) + x2), .ref 117]) (E' := E) (I' := I) (J' := J) (S' := S) am_e185 rfl rfl rfl rfl ?_
    have hf1 := h.1
    replace h := h.2
    refine w_ia (k := 116) (n := 51) (jn := x2.toNatClampNeg) am_e185 rfl rfl (by decide) hf1 rfl ?_
    have hf2 := h.1
    replace h := h.2
    refine w_is (k := 117) (n := 20451) (jn := (((nI 51) * x1) + x2).toNatClampNeg) am_e185 rfl rfl (by decide) hf2 rfl ?_
    show am_ww 185 17 [.ref 99, .int x1, .int x2] [] E (u_I I 117 (upd (I 117) ((((nI 51) * x1) + x2).toNatClampNeg) ((I 116) x2.toNatClampNeg))) J S _
    refine w_st (i' := 18) (ls' := [.ref 99, .int x1, .int (x2 + nI 1)]) (st' := []) (E' := E) (I' := (u_I I 117 (upd (I 117) ((((nI 51) * x1) + x2).toNatClampNeg) ((I 116) x2.toNatClampNeg)))) (J' := J) (S' := S) am_e185 rfl rfl rfl rfl ?_
    refine w_st (i' := 2) (ls' := [.ref 99, .int x1, .int (x2 + nI 1)]) (st' := []) (E' := E) (I' := (u_I I 117 (upd (I 117) ((((nI 51) * x1) + x2).toNatClampNeg) ((I 116) x2.toNatClampNeg)))) (J' := J) (S' := S) am_e185 rfl rfl rfl rfl ?_
    exact h
-- 217 takeRow
theorem g217_0 {p1 : Int32} {E : am_Ev} {I : Nat → Nat → Int32} {J : Nat → Nat → Int64} {S : Nat → Nat → Option Nat} {Q : am_Qt}  (h : am_ww 217 2 [.ref 99, .int p1, .int (nI 0)] [] E I J S Q) : am_ww 217 0 [.ref 99, .int p1, am_U] [] E I J S Q := by
  refine w_st (i' := 1) (ls' := [.ref 99, .int p1, am_U]) (st' := [.int (nI 0)]) (E' := E) (I' := I) (J' := J) (S' := S) am_e217 rfl rfl rfl rfl ?_
  refine w_st (i' := 2) (ls' := [.ref 99, .int p1, .int (nI 0)]) (st' := []) (E' := E) (I' := I) (J' := J) (S' := S) am_e217 rfl rfl rfl rfl ?_
  exact h
theorem g217_2 {x1 : Int32} {x2 : Int32} {E : am_Ev} {I : Nat → Nat → Int32} {J : Nat → Nat → Int64} {S : Nat → Nat → Option Nat} {Q : am_Qt}  (h : ((nI 51) ≤ x2 → (Q (.inl none) E I J S)) ∧ (¬ (nI 51) ≤ x2 → (vp_in (((nI 51) * x1) + x2) 20451 ∧ (vp_in x2 51 ∧ (am_ww 217 2 [.ref 99, .int x1, .int (x2 + nI 1)] [] E (u_I I 116 (upd (I 116) x2.toNatClampNeg ((I 117) ((((nI 51) * x1) + x2).toNatClampNeg)))) J S Q))))) : am_ww 217 2 [.ref 99, .int x1, .int x2] [] E I J S Q := by
  refine w_st (i' := 3) (ls' := [.ref 99, .int x1, .int x2]) (st' := [.int x2]) (E' := E) (I' := I) (J' := J) (S' := S) am_e217 rfl rfl rfl rfl ?_
  refine w_st (i' := 4) (ls' := [.ref 99, .int x1, .int x2]) (st' := [.int (nI 51), .int x2]) (E' := E) (I' := I) (J' := J) (S' := S) am_e217 rfl rfl rfl rfl ?_
  refine w_if2 am_e217 rfl rfl (fun c => ?_) (fun c => ?_)
  · replace h := h.1 (of_decide_eq_true c)
    exact w_end am_e217 rfl rfl rfl h
  · replace h := h.2 (of_decide_eq_false c)
    refine w_st (i' := 6) (ls' := [.ref 99, .int x1, .int x2]) (st' := [.ref 99]) (E' := E) (I' := I) (J' := J) (S' := S) am_e217 rfl rfl rfl rfl ?_
    refine w_st (i' := 7) (ls' := [.ref 99, .int x1, .int x2]) (st' := [.ref 116]) (E' := E) (I' := I) (J' := J) (S' := S) am_e217 rfl rfl rfl rfl ?_
    refine w_st (i' := 8) (ls' := [.ref 99, .int x1, .int x2]) (st' := [.int x2, .ref 116]) (E' := E) (I' := I) (J' := J) (S' := S) am_e217 rfl rfl rfl rfl ?_
    refine w_st (i' := 9) (ls' := [.ref 99, .int x1, .int x2]) (st' := [.ref 99, .int x2, .ref 116]) (E' := E) (I' := I) (J' := J) (S' := S) am_e217 rfl rfl rfl rfl ?_
    refine w_st (i' := 10) (ls' := [.ref 99, .int x1, .int x2]) (st' := [.ref 117, .int x2, .ref 116]) (E' := E) (I' := I) (J' := J) (S' := S) am_e217 rfl rfl rfl rfl ?_
    refine w_st (i' := 11) (ls' := [.ref 99, .int x1, .int x2]) (st' := [.int (nI 51), .ref 117, .int x2, .ref 116]) (E' := E) (I' := I) (J' := J) (S' := S) am_e217 rfl rfl rfl rfl ?_
    refine w_st (i' := 12) (ls' := [.ref 99, .int x1, .int x2]) (st' := [.int x1, .int (nI 51), .ref 117, .int x2, .ref 116]) (E' := E) (I' := I) (J' := J) (S' := S) am_e217 rfl rfl rfl rfl ?_
    refine w_st (i' := 13) (ls' := [.ref 99, .int x1, .int x2]) (st' := [.int ((nI 51) * x1), .ref 117, .int x2, .ref 116]) (E' := E) (I' := I) (J' := J) (S' := S) am_e217 rfl rfl rfl rfl ?_
    refine w_st (i' := 14) (ls' := [.ref 99, .int x1, .int x2]) (st' := [.int x2, .int ((nI 51) * x1), .ref 117, .int x2, .ref 116]) (E' := E) (I' := I) (J' := J) (S' := S) am_e217 rfl rfl rfl rfl ?_
    refine w_st (i' := 15) (ls' := [.ref 99, .int x1, .int x2]) (st' := [.int (((nI 51) * x1) + x2), .ref 117, .int x2, .ref 116]) (E' := E) (I' := I) (J' := J) (S' := S) am_e217 rfl rfl rfl rfl ?_
    have hf1 := h.1
    replace h := h.2
    refine w_ia (k := 117) (n := 20451) (jn := (((nI 51) * x1) + x2).toNatClampNeg) am_e217 rfl rfl (by decide) hf1 rfl ?_
    have hf2 := h.1
    replace h := h.2
    refine w_is (k := 116) (n := 51) (jn := x2.toNatClampNeg) am_e217 rfl rfl (by decide) hf2 rfl ?_
    show am_ww 217 17 [.ref 99, .int x1, .int x2] [] E (u_I I 116 (upd (I 116) x2.toNatClampNeg ((I 117) ((((nI 51) * x1) + x2).toNatClampNeg)))) J S _
    refine w_st (i' := 18) (ls' := [.ref 99, .int x1, .int (x2 + nI 1)]) (st' := []) (E' := E) (I' := (u_I I 116 (upd (I 116) x2.toNatClampNeg ((I 117) ((((nI 51) * x1) + x2).toNatClampNeg))))) (J' := J) (S' := S) am_e217 rfl rfl rfl rfl ?_
    refine w_st (i' := 2) (ls' := [.ref 99, .int x1, .int (x2 + nI 1)]) (st' := []) (E' := E) (I' := (u_I I 116 (upd (I 116) x2.toNatClampNeg ((I 117) ((((nI 51) * x1) + x2).toNatClampNeg))))) (J' := J) (S' := S) am_e217 rfl rfl rfl rfl ?_
    exact h
-- 220 canGo
theorem g220_0 {p1 : Int32} {E : am_Ev} {I : Nat → Nat → Int32} {J : Nat → Nat → Int64} {S : Nat → Nat → Option Nat} {Q : am_Qt}  (h : ∀ w1 : Int32, w1 = (((nI 16) + ((nI 6) * p1)) + (nI 4)) → (vp_in w1 51 ∧ (vp_in p1 8 ∧ ((((I 116) w1.toNatClampNeg) < ((I 105) p1.toNatClampNeg) → (∀ w4 : Int32, w4 = (((nI 16) + ((nI 6) * p1)) + (nI 4)) → (vp_in w4 51 ∧ (∀ w6 : Int32, w6 = (((nI 16) * p1) + ((I 116) w4.toNatClampNeg)) → (vp_in w6 128 ∧ ((((I 106) w6.toNatClampNeg) = (nI 7) → (vp_in ((nI 40) + ((I 107) w6.toNatClampNeg)) 51 ∧ ((((I 116) (((nI 40) + ((I 107) w6.toNatClampNeg)).toNatClampNeg)) = (-1) → (Q (.inl (some (.int (nI 1)))) E I J S)) ∧ (¬ ((I 116) (((nI 40) + ((I 107) w6.toNatClampNeg)).toNatClampNeg)) = (-1) → (Q (.inl (some (.int (nI 0)))) E I J S))))) ∧ (¬ ((I 106) w6.toNatClampNeg) = (nI 7) → ((((I 106) w6.toNatClampNeg) = (nI 6) → (vp_in ((nI 48) + ((I 108) w6.toNatClampNeg)) 51 ∧ (vp_in ((I 108) w6.toNatClampNeg) 3 ∧ ((((I 124) (((I 108) w6.toNatClampNeg).toNatClampNeg)) ≤ ((I 116) (((nI 48) + ((I 108) w6.toNatClampNeg)).toNatClampNeg)) → (Q (.inl (some (.int (nI 0)))) E I J S)) ∧ (¬ ((I 124) (((I 108) w6.toNatClampNeg).toNatClampNeg)) ≤ ((I 116) (((nI 48) + ((I 108) w6.toNatClampNeg)).toNatClampNeg)) → (Q (.inl (some (.int (nI 1)))) E I J S)))))) ∧ (¬ ((I 106) w6.toNatClampNeg) = (nI 6) → (Q (.inl (some (.int (nI 1)))) E I J S)))))))))) ∧ (¬ ((I 116) w1.toNatClampNeg) < ((I 105) p1.toNatClampNeg) → (Q (.inl (some (.int (nI 0)))) E I J S)))))) : am_ww 220 0 [.ref 99, .int p1, am_U] [] E I J S Q := by
  refine w_st (i' := 1) (ls' := [.ref 99, .int p1, am_U]) (st' := [.ref 99]) (E' := E) (I' := I) (J' := J) (S' := S) am_e220 rfl rfl rfl rfl ?_
  refine w_st (i' := 2) (ls' := [.ref 99, .int p1, am_U]) (st' := [.int p1, .ref 99]) (E' := E) (I' := I) (J' := J) (S' := S) am_e220 rfl rfl rfl rfl ?_
  refine w_cI am_e220 rfl rfl (as := [.ref 99, .int p1]) (rest := []) rfl rfl ?_
  show am_ww 221 0 [.ref 99, .int p1] [] E I J S _
  refine w_st (i' := 1) (ls' := [.ref 99, .int p1]) (st' := [.ref 99]) (E' := E) (I' := I) (J' := J) (S' := S) am_e221 rfl rfl rfl rfl ?_
  refine w_st (i' := 2) (ls' := [.ref 99, .int p1]) (st' := [.ref 116]) (E' := E) (I' := I) (J' := J) (S' := S) am_e221 rfl rfl rfl rfl ?_
  refine w_st (i' := 3) (ls' := [.ref 99, .int p1]) (st' := [.int p1, .ref 116]) (E' := E) (I' := I) (J' := J) (S' := S) am_e221 rfl rfl rfl rfl ?_
  refine w_st (i' := 4) (ls' := [.ref 99, .int p1]) (st' := [.int (nI 4), .int p1, .ref 116]) (E' := E) (I' := I) (J' := J) (S' := S) am_e221 rfl rfl rfl rfl ?_
  refine w_cI am_e221 rfl rfl (as := [.int p1, .int (nI 4)]) (rest := [.ref 116]) rfl rfl ?_
  show am_ww 222 0 [.int p1, .int (nI 4)] [] E I J S _
  refine w_st (i' := 1) (ls' := [.int p1, .int (nI 4)]) (st' := [.int (nI 16)]) (E' := E) (I' := I) (J' := J) (S' := S) am_e222 rfl rfl rfl rfl ?_
  refine w_st (i' := 2) (ls' := [.int p1, .int (nI 4)]) (st' := [.int (nI 6), .int (nI 16)]) (E' := E) (I' := I) (J' := J) (S' := S) am_e222 rfl rfl rfl rfl ?_
  refine w_st (i' := 3) (ls' := [.int p1, .int (nI 4)]) (st' := [.int p1, .int (nI 6), .int (nI 16)]) (E' := E) (I' := I) (J' := J) (S' := S) am_e222 rfl rfl rfl rfl ?_
  refine w_st (i' := 4) (ls' := [.int p1, .int (nI 4)]) (st' := [.int ((nI 6) * p1), .int (nI 16)]) (E' := E) (I' := I) (J' := J) (S' := S) am_e222 rfl rfl rfl rfl ?_
  refine w_st (i' := 5) (ls' := [.int p1, .int (nI 4)]) (st' := [.int ((nI 16) + ((nI 6) * p1))]) (E' := E) (I' := I) (J' := J) (S' := S) am_e222 rfl rfl rfl rfl ?_
  refine w_st (i' := 6) (ls' := [.int p1, .int (nI 4)]) (st' := [.int (nI 4), .int ((nI 16) + ((nI 6) * p1))]) (E' := E) (I' := I) (J' := J) (S' := S) am_e222 rfl rfl rfl rfl ?_
  refine w_st (i' := 7) (ls' := [.int p1, .int (nI 4)]) (st' := [.int (((nI 16) + ((nI 6) * p1)) + (nI 4))]) (E' := E) (I' := I) (J' := J) (S' := S) am_e222 rfl rfl rfl rfl ?_
  refine w_ri am_e222 rfl rfl (q_mkI ?_)
  show am_ww 221 5 [.ref 99, .int p1] [.int (((nI 16) + ((nI 6) * p1)) + (nI 4)), .ref 116] E I J S _
  refine w_var (fun w1 => am_ww 221 5 [.ref 99, .int p1] [.int w1, .ref 116] E I J S _) (((nI 16) + ((nI 6) * p1)) + (nI 4)) (fun w1 hw1 => ?_)
  replace h := h w1 hw1
  have hf2 := h.1
  replace h := h.2
  refine w_ia (k := 116) (n := 51) (jn := w1.toNatClampNeg) am_e221 rfl rfl (by decide) hf2 rfl ?_
  refine w_st (i' := 7) (ls' := [.ref 99, .int p1]) (st' := [.ref 99, .int ((I 116) w1.toNatClampNeg)]) (E' := E) (I' := I) (J' := J) (S' := S) am_e221 rfl rfl rfl rfl ?_
  refine w_st (i' := 8) (ls' := [.ref 99, .int p1]) (st' := [.ref 105, .int ((I 116) w1.toNatClampNeg)]) (E' := E) (I' := I) (J' := J) (S' := S) am_e221 rfl rfl rfl rfl ?_
  refine w_st (i' := 9) (ls' := [.ref 99, .int p1]) (st' := [.int p1, .ref 105, .int ((I 116) w1.toNatClampNeg)]) (E' := E) (I' := I) (J' := J) (S' := S) am_e221 rfl rfl rfl rfl ?_
  have hf3 := h.1
  replace h := h.2
  refine w_ia (k := 105) (n := 8) (jn := p1.toNatClampNeg) am_e221 rfl rfl (by decide) hf3 rfl ?_
  refine w_if2 am_e221 rfl rfl (fun c => ?_) (fun c => ?_)
  · replace h := h.1 (of_decide_eq_true c)
    refine w_st (i' := 14) (ls' := [.ref 99, .int p1]) (st' := [.int (nI 0)]) (E' := E) (I' := I) (J' := J) (S' := S) am_e221 rfl rfl rfl rfl ?_
    refine w_end (E' := E) (I' := I) (J' := J) (S' := S) am_e221 rfl rfl rfl (q_mkI ?_)
    show am_ww 220 3 [.ref 99, .int p1, am_U] [.int (nI 0)] E I J S _
    refine w_st (i' := 6) (ls' := [.ref 99, .int p1, am_U]) (st' := []) (E' := E) (I' := I) (J' := J) (S' := S) am_e220 rfl rfl rfl rfl ?_
    refine w_st (i' := 7) (ls' := [.ref 99, .int p1, am_U]) (st' := [.ref 99]) (E' := E) (I' := I) (J' := J) (S' := S) am_e220 rfl rfl rfl rfl ?_
    refine w_st (i' := 8) (ls' := [.ref 99, .int p1, am_U]) (st' := [.int p1, .ref 99]) (E' := E) (I' := I) (J' := J) (S' := S) am_e220 rfl rfl rfl rfl ?_
    refine w_cI am_e220 rfl rfl (as := [.ref 99, .int p1]) (rest := []) rfl rfl ?_
    show am_ww 223 0 [.ref 99, .int p1] [] E I J S _
    refine w_st (i' := 1) (ls' := [.ref 99, .int p1]) (st' := [.int (nI 16)]) (E' := E) (I' := I) (J' := J) (S' := S) am_e223 rfl rfl rfl rfl ?_
    refine w_st (i' := 2) (ls' := [.ref 99, .int p1]) (st' := [.int p1, .int (nI 16)]) (E' := E) (I' := I) (J' := J) (S' := S) am_e223 rfl rfl rfl rfl ?_
    refine w_st (i' := 3) (ls' := [.ref 99, .int p1]) (st' := [.int ((nI 16) * p1)]) (E' := E) (I' := I) (J' := J) (S' := S) am_e223 rfl rfl rfl rfl ?_
    refine w_st (i' := 4) (ls' := [.ref 99, .int p1]) (st' := [.ref 99, .int ((nI 16) * p1)]) (E' := E) (I' := I) (J' := J) (S' := S) am_e223 rfl rfl rfl rfl ?_
    refine w_st (i' := 5) (ls' := [.ref 99, .int p1]) (st' := [.ref 116, .int ((nI 16) * p1)]) (E' := E) (I' := I) (J' := J) (S' := S) am_e223 rfl rfl rfl rfl ?_
    refine w_st (i' := 6) (ls' := [.ref 99, .int p1]) (st' := [.int p1, .ref 116, .int ((nI 16) * p1)]) (E' := E) (I' := I) (J' := J) (S' := S) am_e223 rfl rfl rfl rfl ?_
    refine w_st (i' := 7) (ls' := [.ref 99, .int p1]) (st' := [.int (nI 4), .int p1, .ref 116, .int ((nI 16) * p1)]) (E' := E) (I' := I) (J' := J) (S' := S) am_e223 rfl rfl rfl rfl ?_
    refine w_cI am_e223 rfl rfl (as := [.int p1, .int (nI 4)]) (rest := [.ref 116, .int ((nI 16) * p1)]) rfl rfl ?_
    show am_ww 222 0 [.int p1, .int (nI 4)] [] E I J S _
    refine w_st (i' := 1) (ls' := [.int p1, .int (nI 4)]) (st' := [.int (nI 16)]) (E' := E) (I' := I) (J' := J) (S' := S) am_e222 rfl rfl rfl rfl ?_
    refine w_st (i' := 2) (ls' := [.int p1, .int (nI 4)]) (st' := [.int (nI 6), .int (nI 16)]) (E' := E) (I' := I) (J' := J) (S' := S) am_e222 rfl rfl rfl rfl ?_
    refine w_st (i' := 3) (ls' := [.int p1, .int (nI 4)]) (st' := [.int p1, .int (nI 6), .int (nI 16)]) (E' := E) (I' := I) (J' := J) (S' := S) am_e222 rfl rfl rfl rfl ?_
    refine w_st (i' := 4) (ls' := [.int p1, .int (nI 4)]) (st' := [.int ((nI 6) * p1), .int (nI 16)]) (E' := E) (I' := I) (J' := J) (S' := S) am_e222 rfl rfl rfl rfl ?_
    refine w_st (i' := 5) (ls' := [.int p1, .int (nI 4)]) (st' := [.int ((nI 16) + ((nI 6) * p1))]) (E' := E) (I' := I) (J' := J) (S' := S) am_e222 rfl rfl rfl rfl ?_
    refine w_st (i' := 6) (ls' := [.int p1, .int (nI 4)]) (st' := [.int (nI 4), .int ((nI 16) + ((nI 6) * p1))]) (E' := E) (I' := I) (J' := J) (S' := S) am_e222 rfl rfl rfl rfl ?_
    refine w_st (i' := 7) (ls' := [.int p1, .int (nI 4)]) (st' := [.int (((nI 16) + ((nI 6) * p1)) + (nI 4))]) (E' := E) (I' := I) (J' := J) (S' := S) am_e222 rfl rfl rfl rfl ?_
    refine w_ri am_e222 rfl rfl (q_mkI ?_)
    show am_ww 223 8 [.ref 99, .int p1] [.int (((nI 16) + ((nI 6) * p1)) + (nI 4)), .ref 116, .int ((nI 16) * p1)] E I J S _
    refine w_var (fun w4 => am_ww 223 8 [.ref 99, .int p1] [.int w4, .ref 116, .int ((nI 16) * p1)] E I J S _) (((nI 16) + ((nI 6) * p1)) + (nI 4)) (fun w4 hw4 => ?_)
    replace h := h w4 hw4
    have hf5 := h.1
    replace h := h.2
    refine w_ia (k := 116) (n := 51) (jn := w4.toNatClampNeg) am_e223 rfl rfl (by decide) hf5 rfl ?_
    refine w_st (i' := 10) (ls' := [.ref 99, .int p1]) (st' := [.int (((nI 16) * p1) + ((I 116) w4.toNatClampNeg))]) (E' := E) (I' := I) (J' := J) (S' := S) am_e223 rfl rfl rfl rfl ?_
    refine w_ri am_e223 rfl rfl (q_mkI ?_)
    show am_ww 220 9 [.ref 99, .int p1, am_U] [.int (((nI 16) * p1) + ((I 116) w4.toNatClampNeg))] E I J S _
    refine w_var (fun w6 => am_ww 220 9 [.ref 99, .int p1, am_U] [.int w6] E I J S _) (((nI 16) * p1) + ((I 116) w4.toNatClampNeg)) (fun w6 hw6 => ?_)
    replace h := h w6 hw6
    refine w_st (i' := 10) (ls' := [.ref 99, .int p1, .int w6]) (st' := []) (E' := E) (I' := I) (J' := J) (S' := S) am_e220 rfl rfl rfl rfl ?_
    refine w_st (i' := 11) (ls' := [.ref 99, .int p1, .int w6]) (st' := [.ref 99]) (E' := E) (I' := I) (J' := J) (S' := S) am_e220 rfl rfl rfl rfl ?_
    refine w_st (i' := 12) (ls' := [.ref 99, .int p1, .int w6]) (st' := [.ref 106]) (E' := E) (I' := I) (J' := J) (S' := S) am_e220 rfl rfl rfl rfl ?_
    refine w_st (i' := 13) (ls' := [.ref 99, .int p1, .int w6]) (st' := [.int w6, .ref 106]) (E' := E) (I' := I) (J' := J) (S' := S) am_e220 rfl rfl rfl rfl ?_
    have hf7 := h.1
    replace h := h.2
    refine w_ia (k := 106) (n := 128) (jn := w6.toNatClampNeg) am_e220 rfl rfl (by decide) hf7 rfl ?_
    refine w_st (i' := 15) (ls' := [.ref 99, .int p1, .int w6]) (st' := [.int (nI 7), .int ((I 106) w6.toNatClampNeg)]) (E' := E) (I' := I) (J' := J) (S' := S) am_e220 rfl rfl rfl rfl ?_
    refine w_if2 am_e220 rfl rfl (fun c => ?_) (fun c => ?_)
    · replace h := h.2 (of_decide_eq_true c)
      refine w_st (i' := 32) (ls' := [.ref 99, .int p1, .int w6]) (st' := [.ref 99]) (E' := E) (I' := I) (J' := J) (S' := S) am_e220 rfl rfl rfl rfl ?_
      refine w_st (i' := 33) (ls' := [.ref 99, .int p1, .int w6]) (st' := [.ref 106]) (E' := E) (I' := I) (J' := J) (S' := S) am_e220 rfl rfl rfl rfl ?_
      refine w_st (i' := 34) (ls' := [.ref 99, .int p1, .int w6]) (st' := [.int w6, .ref 106]) (E' := E) (I' := I) (J' := J) (S' := S) am_e220 rfl rfl rfl rfl ?_
      refine w_ia (k := 106) (n := 128) (jn := w6.toNatClampNeg) am_e220 rfl rfl (by decide) hf7 rfl ?_
      refine w_st (i' := 36) (ls' := [.ref 99, .int p1, .int w6]) (st' := [.int (nI 6), .int ((I 106) w6.toNatClampNeg)]) (E' := E) (I' := I) (J' := J) (S' := S) am_e220 rfl rfl rfl rfl ?_
      refine w_if2 am_e220 rfl rfl (fun c => ?_) (fun c => ?_)
      · replace h := h.2 (of_decide_eq_true c)
        refine w_st (i' := 55) (ls' := [.ref 99, .int p1, .int w6]) (st' := [.int (nI 1)]) (E' := E) (I' := I) (J' := J) (S' := S) am_e220 rfl rfl rfl rfl ?_
        refine w_st (i' := 57) (ls' := [.ref 99, .int p1, .int w6]) (st' := [.int (nI 1)]) (E' := E) (I' := I) (J' := J) (S' := S) am_e220 rfl rfl rfl rfl ?_
        exact w_end am_e220 rfl rfl rfl h
      · replace h := h.1 (Decidable.not_not.mp (of_decide_eq_false c))
        refine w_st (i' := 38) (ls' := [.ref 99, .int p1, .int w6]) (st' := [.ref 99]) (E' := E) (I' := I) (J' := J) (S' := S) am_e220 rfl rfl rfl rfl ?_
        refine w_st (i' := 39) (ls' := [.ref 99, .int p1, .int w6]) (st' := [.ref 116]) (E' := E) (I' := I) (J' := J) (S' := S) am_e220 rfl rfl rfl rfl ?_
        refine w_st (i' := 40) (ls' := [.ref 99, .int p1, .int w6]) (st' := [.int (nI 48), .ref 116]) (E' := E) (I' := I) (J' := J) (S' := S) am_e220 rfl rfl rfl rfl ?_
        refine w_st (i' := 41) (ls' := [.ref 99, .int p1, .int w6]) (st' := [.ref 99, .int (nI 48), .ref 116]) (E' := E) (I' := I) (J' := J) (S' := S) am_e220 rfl rfl rfl rfl ?_
        refine w_st (i' := 42) (ls' := [.ref 99, .int p1, .int w6]) (st' := [.ref 108, .int (nI 48), .ref 116]) (E' := E) (I' := I) (J' := J) (S' := S) am_e220 rfl rfl rfl rfl ?_
        refine w_st (i' := 43) (ls' := [.ref 99, .int p1, .int w6]) (st' := [.int w6, .ref 108, .int (nI 48), .ref 116]) (E' := E) (I' := I) (J' := J) (S' := S) am_e220 rfl rfl rfl rfl ?_
        refine w_ia (k := 108) (n := 128) (jn := w6.toNatClampNeg) am_e220 rfl rfl (by decide) hf7 rfl ?_
        refine w_st (i' := 45) (ls' := [.ref 99, .int p1, .int w6]) (st' := [.int ((nI 48) + ((I 108) w6.toNatClampNeg)), .ref 116]) (E' := E) (I' := I) (J' := J) (S' := S) am_e220 rfl rfl rfl rfl ?_
        have hf8 := h.1
        replace h := h.2
        refine w_ia (k := 116) (n := 51) (jn := ((nI 48) + ((I 108) w6.toNatClampNeg)).toNatClampNeg) am_e220 rfl rfl (by decide) hf8 rfl ?_
        refine w_st (i' := 47) (ls' := [.ref 99, .int p1, .int w6]) (st' := [.ref 99, .int ((I 116) (((nI 48) + ((I 108) w6.toNatClampNeg)).toNatClampNeg))]) (E' := E) (I' := I) (J' := J) (S' := S) am_e220 rfl rfl rfl rfl ?_
        refine w_st (i' := 48) (ls' := [.ref 99, .int p1, .int w6]) (st' := [.ref 124, .int ((I 116) (((nI 48) + ((I 108) w6.toNatClampNeg)).toNatClampNeg))]) (E' := E) (I' := I) (J' := J) (S' := S) am_e220 rfl rfl rfl rfl ?_
        refine w_st (i' := 49) (ls' := [.ref 99, .int p1, .int w6]) (st' := [.ref 99, .ref 124, .int ((I 116) (((nI 48) + ((I 108) w6.toNatClampNeg)).toNatClampNeg))]) (E' := E) (I' := I) (J' := J) (S' := S) am_e220 rfl rfl rfl rfl ?_
        refine w_st (i' := 50) (ls' := [.ref 99, .int p1, .int w6]) (st' := [.ref 108, .ref 124, .int ((I 116) (((nI 48) + ((I 108) w6.toNatClampNeg)).toNatClampNeg))]) (E' := E) (I' := I) (J' := J) (S' := S) am_e220 rfl rfl rfl rfl ?_
        refine w_st (i' := 51) (ls' := [.ref 99, .int p1, .int w6]) (st' := [.int w6, .ref 108, .ref 124, .int ((I 116) (((nI 48) + ((I 108) w6.toNatClampNeg)).toNatClampNeg))]) (E' := E) (I' := I) (J' := J) (S' := S) am_e220 rfl rfl rfl rfl ?_
        refine w_ia (k := 108) (n := 128) (jn := w6.toNatClampNeg) am_e220 rfl rfl (by decide) hf7 rfl ?_
        have hf9 := h.1
        replace h := h.2
        refine w_ia (k := 124) (n := 3) (jn := ((I 108) w6.toNatClampNeg).toNatClampNeg) am_e220 rfl rfl (by decide) hf9 rfl ?_
        refine w_if2 am_e220 rfl rfl (fun c => ?_) (fun c => ?_)
        · replace h := h.1 (of_decide_eq_true c)
          refine w_st (i' := 57) (ls' := [.ref 99, .int p1, .int w6]) (st' := [.int (nI 0)]) (E' := E) (I' := I) (J' := J) (S' := S) am_e220 rfl rfl rfl rfl ?_
          exact w_end am_e220 rfl rfl rfl h
        · replace h := h.2 (of_decide_eq_false c)
          refine w_st (i' := 55) (ls' := [.ref 99, .int p1, .int w6]) (st' := [.int (nI 1)]) (E' := E) (I' := I) (J' := J) (S' := S) am_e220 rfl rfl rfl rfl ?_
          refine w_st (i' := 57) (ls' := [.ref 99, .int p1, .int w6]) (st' := [.int (nI 1)]) (E' := E) (I' := I) (J' := J) (S' := S) am_e220 rfl rfl rfl rfl ?_
          exact w_end am_e220 rfl rfl rfl h
    · replace h := h.1 (Decidable.not_not.mp (of_decide_eq_false c))
      refine w_st (i' := 17) (ls' := [.ref 99, .int p1, .int w6]) (st' := [.ref 99]) (E' := E) (I' := I) (J' := J) (S' := S) am_e220 rfl rfl rfl rfl ?_
      refine w_st (i' := 18) (ls' := [.ref 99, .int p1, .int w6]) (st' := [.ref 116]) (E' := E) (I' := I) (J' := J) (S' := S) am_e220 rfl rfl rfl rfl ?_
      refine w_st (i' := 19) (ls' := [.ref 99, .int p1, .int w6]) (st' := [.int (nI 40), .ref 116]) (E' := E) (I' := I) (J' := J) (S' := S) am_e220 rfl rfl rfl rfl ?_
      refine w_st (i' := 20) (ls' := [.ref 99, .int p1, .int w6]) (st' := [.ref 99, .int (nI 40), .ref 116]) (E' := E) (I' := I) (J' := J) (S' := S) am_e220 rfl rfl rfl rfl ?_
      refine w_st (i' := 21) (ls' := [.ref 99, .int p1, .int w6]) (st' := [.ref 107, .int (nI 40), .ref 116]) (E' := E) (I' := I) (J' := J) (S' := S) am_e220 rfl rfl rfl rfl ?_
      refine w_st (i' := 22) (ls' := [.ref 99, .int p1, .int w6]) (st' := [.int w6, .ref 107, .int (nI 40), .ref 116]) (E' := E) (I' := I) (J' := J) (S' := S) am_e220 rfl rfl rfl rfl ?_
      refine w_ia (k := 107) (n := 128) (jn := w6.toNatClampNeg) am_e220 rfl rfl (by decide) hf7 rfl ?_
      refine w_st (i' := 24) (ls' := [.ref 99, .int p1, .int w6]) (st' := [.int ((nI 40) + ((I 107) w6.toNatClampNeg)), .ref 116]) (E' := E) (I' := I) (J' := J) (S' := S) am_e220 rfl rfl rfl rfl ?_
      have hf10 := h.1
      replace h := h.2
      refine w_ia (k := 116) (n := 51) (jn := ((nI 40) + ((I 107) w6.toNatClampNeg)).toNatClampNeg) am_e220 rfl rfl (by decide) hf10 rfl ?_
      refine w_st (i' := 26) (ls' := [.ref 99, .int p1, .int w6]) (st' := [.int (-1), .int ((I 116) (((nI 40) + ((I 107) w6.toNatClampNeg)).toNatClampNeg))]) (E' := E) (I' := I) (J' := J) (S' := S) am_e220 rfl rfl rfl rfl ?_
      refine w_if2 am_e220 rfl rfl (fun c => ?_) (fun c => ?_)
      · replace h := h.2 (of_decide_eq_true c)
        refine w_st (i' := 30) (ls' := [.ref 99, .int p1, .int w6]) (st' := [.int (nI 0)]) (E' := E) (I' := I) (J' := J) (S' := S) am_e220 rfl rfl rfl rfl ?_
        exact w_end am_e220 rfl rfl rfl h
      · replace h := h.1 (Decidable.not_not.mp (of_decide_eq_false c))
        refine w_st (i' := 28) (ls' := [.ref 99, .int p1, .int w6]) (st' := [.int (nI 1)]) (E' := E) (I' := I) (J' := J) (S' := S) am_e220 rfl rfl rfl rfl ?_
        refine w_st (i' := 30) (ls' := [.ref 99, .int p1, .int w6]) (st' := [.int (nI 1)]) (E' := E) (I' := I) (J' := J) (S' := S) am_e220 rfl rfl rfl rfl ?_
        exact w_end am_e220 rfl rfl rfl h
  · replace h := h.2 (of_decide_eq_false c)
    refine w_st (i' := 12) (ls' := [.ref 99, .int p1]) (st' := [.int (nI 1)]) (E' := E) (I' := I) (J' := J) (S' := S) am_e221 rfl rfl rfl rfl ?_
    refine w_st (i' := 14) (ls' := [.ref 99, .int p1]) (st' := [.int (nI 1)]) (E' := E) (I' := I) (J' := J) (S' := S) am_e221 rfl rfl rfl rfl ?_
    refine w_end (E' := E) (I' := I) (J' := J) (S' := S) am_e221 rfl rfl rfl (q_mkI ?_)
    show am_ww 220 3 [.ref 99, .int p1, am_U] [.int (nI 1)] E I J S _
    refine w_st (i' := 4) (ls' := [.ref 99, .int p1, am_U]) (st' := []) (E' := E) (I' := I) (J' := J) (S' := S) am_e220 rfl rfl rfl rfl ?_
    refine w_st (i' := 5) (ls' := [.ref 99, .int p1, am_U]) (st' := [.int (nI 0)]) (E' := E) (I' := I) (J' := J) (S' := S) am_e220 rfl rfl rfl rfl ?_
    exact w_end am_e220 rfl rfl rfl h
-- 219 goers
theorem g219_0  {E : am_Ev} {I : Nat → Nat → Int32} {J : Nat → Nat → Int64} {S : Nat → Nat → Option Nat} {Q : am_Qt}  (h : am_ww 219 4 [.ref 99, .int (nI 0), .int (nI 0)] [] E I J S Q) : am_ww 219 0 [.ref 99, am_U, am_U] [] E I J S Q := by
  refine w_st (i' := 1) (ls' := [.ref 99, am_U, am_U]) (st' := [.int (nI 0)]) (E' := E) (I' := I) (J' := J) (S' := S) am_e219 rfl rfl rfl rfl ?_
  refine w_st (i' := 2) (ls' := [.ref 99, .int (nI 0), am_U]) (st' := []) (E' := E) (I' := I) (J' := J) (S' := S) am_e219 rfl rfl rfl rfl ?_
  refine w_st (i' := 3) (ls' := [.ref 99, .int (nI 0), am_U]) (st' := [.int (nI 0)]) (E' := E) (I' := I) (J' := J) (S' := S) am_e219 rfl rfl rfl rfl ?_
  refine w_st (i' := 4) (ls' := [.ref 99, .int (nI 0), .int (nI 0)]) (st' := []) (E' := E) (I' := I) (J' := J) (S' := S) am_e219 rfl rfl rfl rfl ?_
  exact h
theorem g219_4 {x1 : Int32} {x2 : Int32} {E : am_Ev} {I : Nat → Nat → Int32} {J : Nat → Nat → Int64} {S : Nat → Nat → Option Nat} {Q : am_Qt}  (h : (((I 103) 4) ≤ x2 → (Q (.inl (some (.int x1))) E I J S)) ∧ (¬ ((I 103) 4) ≤ x2 → (am_cl 220 [.ref 99, .int x2] E I J S (q_I fun v1 E1 I1 J1 S1 => ∀ w3 : Int32, w3 = (if v1 = 0 then nI 0 else nI 1) → (am_ww 219 4 [.ref 99, .int (x1 + w3), .int (x2 + nI 1)] [] E1 I1 J1 S1 Q))))) : am_ww 219 4 [.ref 99, .int x1, .int x2] [] E I J S Q := by
  refine w_st (i' := 5) (ls' := [.ref 99, .int x1, .int x2]) (st' := [.int x2]) (E' := E) (I' := I) (J' := J) (S' := S) am_e219 rfl rfl rfl rfl ?_
  refine w_st (i' := 6) (ls' := [.ref 99, .int x1, .int x2]) (st' := [.ref 99, .int x2]) (E' := E) (I' := I) (J' := J) (S' := S) am_e219 rfl rfl rfl rfl ?_
  refine w_st (i' := 7) (ls' := [.ref 99, .int x1, .int x2]) (st' := [.ref 103, .int x2]) (E' := E) (I' := I) (J' := J) (S' := S) am_e219 rfl rfl rfl rfl ?_
  refine w_st (i' := 8) (ls' := [.ref 99, .int x1, .int x2]) (st' := [.int (nI 4), .ref 103, .int x2]) (E' := E) (I' := I) (J' := J) (S' := S) am_e219 rfl rfl rfl rfl ?_
  refine w_ia (k := 103) (n := 10) (jn := 4) am_e219 rfl rfl (by decide) (vp_in_nI (by decide) (by decide)) rfl ?_
  show am_ww 219 9 [.ref 99, .int x1, .int x2] [.int ((I 103) 4), .int x2] E I J S _
  refine w_if2 am_e219 rfl rfl (fun c => ?_) (fun c => ?_)
  · replace h := h.1 (of_decide_eq_true c)
    refine w_st (i' := 23) (ls' := [.ref 99, .int x1, .int x2]) (st' := [.int x1]) (E' := E) (I' := I) (J' := J) (S' := S) am_e219 rfl rfl rfl rfl ?_
    exact w_ri am_e219 rfl rfl h
  · replace h := h.2 (of_decide_eq_false c)
    refine w_st (i' := 11) (ls' := [.ref 99, .int x1, .int x2]) (st' := [.int x1]) (E' := E) (I' := I) (J' := J) (S' := S) am_e219 rfl rfl rfl rfl ?_
    refine w_st (i' := 12) (ls' := [.ref 99, .int x1, .int x2]) (st' := [.ref 99, .int x1]) (E' := E) (I' := I) (J' := J) (S' := S) am_e219 rfl rfl rfl rfl ?_
    refine w_st (i' := 13) (ls' := [.ref 99, .int x1, .int x2]) (st' := [.int x2, .ref 99, .int x1]) (E' := E) (I' := I) (J' := J) (S' := S) am_e219 rfl rfl rfl rfl ?_
    refine w_cI am_e219 rfl rfl (as := [.ref 99, .int x2]) (rest := [.int x1]) rfl rfl (am_ww.mono h ?_)
    rintro _ E1 I1 J1 S1 ⟨v1, rfl, h⟩
    refine q_mkI ?_
    refine w_mg (i := 18) (ls' := [.ref 99, .int x1, .int x2]) (st' := [.int (if v1 = 0 then nI 0 else nI 1), .int x1]) (fun hm => ?_) ?_
    · clear h
      refine w_if1 am_e219 rfl rfl (fun c => ?_) (fun c => ?_)
      · have m2 : v1 = 0 := (of_decide_eq_true c)
        refine w_st (i' := 18) (ls' := [.ref 99, .int x1, .int x2]) (st' := [.int (nI 0), .int x1]) (E' := E1) (I' := I1) (J' := J1) (S' := S1) am_e219 rfl rfl rfl rfl ?_
        first | exact hm | (simp only [if_pos m2] at hm; exact hm)
      · have m2 : ¬ (v1 = 0) := (of_decide_eq_false c)
        refine w_st (i' := 16) (ls' := [.ref 99, .int x1, .int x2]) (st' := [.int (nI 1), .int x1]) (E' := E1) (I' := I1) (J' := J1) (S' := S1) am_e219 rfl rfl rfl rfl ?_
        refine w_st (i' := 18) (ls' := [.ref 99, .int x1, .int x2]) (st' := [.int (nI 1), .int x1]) (E' := E1) (I' := I1) (J' := J1) (S' := S1) am_e219 rfl rfl rfl rfl ?_
        first | exact hm | (simp only [if_neg m2] at hm; exact hm)
    refine w_var (fun w3 => am_ww 219 18 [.ref 99, .int x1, .int x2] [.int w3, .int x1] E1 I1 J1 S1 _) (if v1 = 0 then nI 0 else nI 1) (fun w3 hw3 => ?_)
    replace h := h w3 hw3
    refine w_st (i' := 19) (ls' := [.ref 99, .int x1, .int x2]) (st' := [.int (x1 + w3)]) (E' := E1) (I' := I1) (J' := J1) (S' := S1) am_e219 rfl rfl rfl rfl ?_
    refine w_st (i' := 20) (ls' := [.ref 99, .int (x1 + w3), .int x2]) (st' := []) (E' := E1) (I' := I1) (J' := J1) (S' := S1) am_e219 rfl rfl rfl rfl ?_
    refine w_st (i' := 21) (ls' := [.ref 99, .int (x1 + w3), .int (x2 + nI 1)]) (st' := []) (E' := E1) (I' := I1) (J' := J1) (S' := S1) am_e219 rfl rfl rfl rfl ?_
    refine w_st (i' := 4) (ls' := [.ref 99, .int (x1 + w3), .int (x2 + nI 1)]) (st' := []) (E' := E1) (I' := I1) (J' := J1) (S' := S1) am_e219 rfl rfl rfl rfl ?_
    exact h
-- 221 hasEnded
theorem g221_0 {p1 : Int32} {E : am_Ev} {I : Nat → Nat → Int32} {J : Nat → Nat → Int64} {S : Nat → Nat → Option Nat} {Q : am_Qt}  (h : ∀ w1 : Int32, w1 = (((nI 16) + ((nI 6) * p1)) + (nI 4)) → (vp_in w1 51 ∧ (vp_in p1 8 ∧ ((((I 116) w1.toNatClampNeg) < ((I 105) p1.toNatClampNeg) → (Q (.inl (some (.int (nI 0)))) E I J S)) ∧ (¬ ((I 116) w1.toNatClampNeg) < ((I 105) p1.toNatClampNeg) → (Q (.inl (some (.int (nI 1)))) E I J S)))))) : am_ww 221 0 [.ref 99, .int p1] [] E I J S Q := by
  refine w_st (i' := 1) (ls' := [.ref 99, .int p1]) (st' := [.ref 99]) (E' := E) (I' := I) (J' := J) (S' := S) am_e221 rfl rfl rfl rfl ?_
  refine w_st (i' := 2) (ls' := [.ref 99, .int p1]) (st' := [.ref 116]) (E' := E) (I' := I) (J' := J) (S' := S) am_e221 rfl rfl rfl rfl ?_
  refine w_st (i' := 3) (ls' := [.ref 99, .int p1]) (st' := [.int p1, .ref 116]) (E' := E) (I' := I) (J' := J) (S' := S) am_e221 rfl rfl rfl rfl ?_
  refine w_st (i' := 4) (ls' := [.ref 99, .int p1]) (st' := [.int (nI 4), .int p1, .ref 116]) (E' := E) (I' := I) (J' := J) (S' := S) am_e221 rfl rfl rfl rfl ?_
  refine w_cI am_e221 rfl rfl (as := [.int p1, .int (nI 4)]) (rest := [.ref 116]) rfl rfl ?_
  show am_ww 222 0 [.int p1, .int (nI 4)] [] E I J S _
  refine w_st (i' := 1) (ls' := [.int p1, .int (nI 4)]) (st' := [.int (nI 16)]) (E' := E) (I' := I) (J' := J) (S' := S) am_e222 rfl rfl rfl rfl ?_
  refine w_st (i' := 2) (ls' := [.int p1, .int (nI 4)]) (st' := [.int (nI 6), .int (nI 16)]) (E' := E) (I' := I) (J' := J) (S' := S) am_e222 rfl rfl rfl rfl ?_
  refine w_st (i' := 3) (ls' := [.int p1, .int (nI 4)]) (st' := [.int p1, .int (nI 6), .int (nI 16)]) (E' := E) (I' := I) (J' := J) (S' := S) am_e222 rfl rfl rfl rfl ?_
  refine w_st (i' := 4) (ls' := [.int p1, .int (nI 4)]) (st' := [.int ((nI 6) * p1), .int (nI 16)]) (E' := E) (I' := I) (J' := J) (S' := S) am_e222 rfl rfl rfl rfl ?_
  refine w_st (i' := 5) (ls' := [.int p1, .int (nI 4)]) (st' := [.int ((nI 16) + ((nI 6) * p1))]) (E' := E) (I' := I) (J' := J) (S' := S) am_e222 rfl rfl rfl rfl ?_
  refine w_st (i' := 6) (ls' := [.int p1, .int (nI 4)]) (st' := [.int (nI 4), .int ((nI 16) + ((nI 6) * p1))]) (E' := E) (I' := I) (J' := J) (S' := S) am_e222 rfl rfl rfl rfl ?_
  refine w_st (i' := 7) (ls' := [.int p1, .int (nI 4)]) (st' := [.int (((nI 16) + ((nI 6) * p1)) + (nI 4))]) (E' := E) (I' := I) (J' := J) (S' := S) am_e222 rfl rfl rfl rfl ?_
  refine w_ri am_e222 rfl rfl (q_mkI ?_)
  show am_ww 221 5 [.ref 99, .int p1] [.int (((nI 16) + ((nI 6) * p1)) + (nI 4)), .ref 116] E I J S _
  refine w_var (fun w1 => am_ww 221 5 [.ref 99, .int p1] [.int w1, .ref 116] E I J S _) (((nI 16) + ((nI 6) * p1)) + (nI 4)) (fun w1 hw1 => ?_)
  replace h := h w1 hw1
  have hf2 := h.1
  replace h := h.2
  refine w_ia (k := 116) (n := 51) (jn := w1.toNatClampNeg) am_e221 rfl rfl (by decide) hf2 rfl ?_
  refine w_st (i' := 7) (ls' := [.ref 99, .int p1]) (st' := [.ref 99, .int ((I 116) w1.toNatClampNeg)]) (E' := E) (I' := I) (J' := J) (S' := S) am_e221 rfl rfl rfl rfl ?_
  refine w_st (i' := 8) (ls' := [.ref 99, .int p1]) (st' := [.ref 105, .int ((I 116) w1.toNatClampNeg)]) (E' := E) (I' := I) (J' := J) (S' := S) am_e221 rfl rfl rfl rfl ?_
  refine w_st (i' := 9) (ls' := [.ref 99, .int p1]) (st' := [.int p1, .ref 105, .int ((I 116) w1.toNatClampNeg)]) (E' := E) (I' := I) (J' := J) (S' := S) am_e221 rfl rfl rfl rfl ?_
  have hf3 := h.1
  replace h := h.2
  refine w_ia (k := 105) (n := 8) (jn := p1.toNatClampNeg) am_e221 rfl rfl (by decide) hf3 rfl ?_
  refine w_if2 am_e221 rfl rfl (fun c => ?_) (fun c => ?_)
  · replace h := h.1 (of_decide_eq_true c)
    refine w_st (i' := 14) (ls' := [.ref 99, .int p1]) (st' := [.int (nI 0)]) (E' := E) (I' := I) (J' := J) (S' := S) am_e221 rfl rfl rfl rfl ?_
    exact w_end am_e221 rfl rfl rfl h
  · replace h := h.2 (of_decide_eq_false c)
    refine w_st (i' := 12) (ls' := [.ref 99, .int p1]) (st' := [.int (nI 1)]) (E' := E) (I' := I) (J' := J) (S' := S) am_e221 rfl rfl rfl rfl ?_
    refine w_st (i' := 14) (ls' := [.ref 99, .int p1]) (st' := [.int (nI 1)]) (E' := E) (I' := I) (J' := J) (S' := S) am_e221 rfl rfl rfl rfl ?_
    exact w_end am_e221 rfl rfl rfl h
-- 224 endedMany
theorem g224_0  {E : am_Ev} {I : Nat → Nat → Int32} {J : Nat → Nat → Int64} {S : Nat → Nat → Option Nat} {Q : am_Qt}  (h : am_ww 224 4 [.ref 99, .int (nI 0), .int (nI 0)] [] E I J S Q) : am_ww 224 0 [.ref 99, am_U, am_U] [] E I J S Q := by
  refine w_st (i' := 1) (ls' := [.ref 99, am_U, am_U]) (st' := [.int (nI 0)]) (E' := E) (I' := I) (J' := J) (S' := S) am_e224 rfl rfl rfl rfl ?_
  refine w_st (i' := 2) (ls' := [.ref 99, .int (nI 0), am_U]) (st' := []) (E' := E) (I' := I) (J' := J) (S' := S) am_e224 rfl rfl rfl rfl ?_
  refine w_st (i' := 3) (ls' := [.ref 99, .int (nI 0), am_U]) (st' := [.int (nI 0)]) (E' := E) (I' := I) (J' := J) (S' := S) am_e224 rfl rfl rfl rfl ?_
  refine w_st (i' := 4) (ls' := [.ref 99, .int (nI 0), .int (nI 0)]) (st' := []) (E' := E) (I' := I) (J' := J) (S' := S) am_e224 rfl rfl rfl rfl ?_
  exact h
theorem g224_4 {x1 : Int32} {x2 : Int32} {E : am_Ev} {I : Nat → Nat → Int32} {J : Nat → Nat → Int64} {S : Nat → Nat → Option Nat} {Q : am_Qt}  (h : (((I 103) 4) ≤ x2 → (Q (.inl (some (.int x1))) E I J S)) ∧ (¬ ((I 103) 4) ≤ x2 → (∀ w1 : Int32, w1 = (((nI 16) + ((nI 6) * x2)) + (nI 4)) → (vp_in w1 51 ∧ (vp_in x2 8 ∧ ((((I 116) w1.toNatClampNeg) < ((I 105) x2.toNatClampNeg) → (am_ww 224 4 [.ref 99, .int (x1 + (nI 0)), .int (x2 + nI 1)] [] E I J S Q)) ∧ (¬ ((I 116) w1.toNatClampNeg) < ((I 105) x2.toNatClampNeg) → (am_ww 224 4 [.ref 99, .int (x1 + (nI 1)), .int (x2 + nI 1)] [] E I J S Q)))))))) : am_ww 224 4 [.ref 99, .int x1, .int x2] [] E I J S Q := by
  refine w_st (i' := 5) (ls' := [.ref 99, .int x1, .int x2]) (st' := [.int x2]) (E' := E) (I' := I) (J' := J) (S' := S) am_e224 rfl rfl rfl rfl ?_
  refine w_st (i' := 6) (ls' := [.ref 99, .int x1, .int x2]) (st' := [.ref 99, .int x2]) (E' := E) (I' := I) (J' := J) (S' := S) am_e224 rfl rfl rfl rfl ?_
  refine w_st (i' := 7) (ls' := [.ref 99, .int x1, .int x2]) (st' := [.ref 103, .int x2]) (E' := E) (I' := I) (J' := J) (S' := S) am_e224 rfl rfl rfl rfl ?_
  refine w_st (i' := 8) (ls' := [.ref 99, .int x1, .int x2]) (st' := [.int (nI 4), .ref 103, .int x2]) (E' := E) (I' := I) (J' := J) (S' := S) am_e224 rfl rfl rfl rfl ?_
  refine w_ia (k := 103) (n := 10) (jn := 4) am_e224 rfl rfl (by decide) (vp_in_nI (by decide) (by decide)) rfl ?_
  show am_ww 224 9 [.ref 99, .int x1, .int x2] [.int ((I 103) 4), .int x2] E I J S _
  refine w_if2 am_e224 rfl rfl (fun c => ?_) (fun c => ?_)
  · replace h := h.1 (of_decide_eq_true c)
    refine w_st (i' := 23) (ls' := [.ref 99, .int x1, .int x2]) (st' := [.int x1]) (E' := E) (I' := I) (J' := J) (S' := S) am_e224 rfl rfl rfl rfl ?_
    exact w_ri am_e224 rfl rfl h
  · replace h := h.2 (of_decide_eq_false c)
    refine w_st (i' := 11) (ls' := [.ref 99, .int x1, .int x2]) (st' := [.int x1]) (E' := E) (I' := I) (J' := J) (S' := S) am_e224 rfl rfl rfl rfl ?_
    refine w_st (i' := 12) (ls' := [.ref 99, .int x1, .int x2]) (st' := [.ref 99, .int x1]) (E' := E) (I' := I) (J' := J) (S' := S) am_e224 rfl rfl rfl rfl ?_
    refine w_st (i' := 13) (ls' := [.ref 99, .int x1, .int x2]) (st' := [.int x2, .ref 99, .int x1]) (E' := E) (I' := I) (J' := J) (S' := S) am_e224 rfl rfl rfl rfl ?_
    refine w_cI am_e224 rfl rfl (as := [.ref 99, .int x2]) (rest := [.int x1]) rfl rfl ?_
    show am_ww 221 0 [.ref 99, .int x2] [] E I J S _
    refine w_st (i' := 1) (ls' := [.ref 99, .int x2]) (st' := [.ref 99]) (E' := E) (I' := I) (J' := J) (S' := S) am_e221 rfl rfl rfl rfl ?_
    refine w_st (i' := 2) (ls' := [.ref 99, .int x2]) (st' := [.ref 116]) (E' := E) (I' := I) (J' := J) (S' := S) am_e221 rfl rfl rfl rfl ?_
    refine w_st (i' := 3) (ls' := [.ref 99, .int x2]) (st' := [.int x2, .ref 116]) (E' := E) (I' := I) (J' := J) (S' := S) am_e221 rfl rfl rfl rfl ?_
    refine w_st (i' := 4) (ls' := [.ref 99, .int x2]) (st' := [.int (nI 4), .int x2, .ref 116]) (E' := E) (I' := I) (J' := J) (S' := S) am_e221 rfl rfl rfl rfl ?_
    refine w_cI am_e221 rfl rfl (as := [.int x2, .int (nI 4)]) (rest := [.ref 116]) rfl rfl ?_
    show am_ww 222 0 [.int x2, .int (nI 4)] [] E I J S _
    refine w_st (i' := 1) (ls' := [.int x2, .int (nI 4)]) (st' := [.int (nI 16)]) (E' := E) (I' := I) (J' := J) (S' := S) am_e222 rfl rfl rfl rfl ?_
    refine w_st (i' := 2) (ls' := [.int x2, .int (nI 4)]) (st' := [.int (nI 6), .int (nI 16)]) (E' := E) (I' := I) (J' := J) (S' := S) am_e222 rfl rfl rfl rfl ?_
    refine w_st (i' := 3) (ls' := [.int x2, .int (nI 4)]) (st' := [.int x2, .int (nI 6), .int (nI 16)]) (E' := E) (I' := I) (J' := J) (S' := S) am_e222 rfl rfl rfl rfl ?_
    refine w_st (i' := 4) (ls' := [.int x2, .int (nI 4)]) (st' := [.int ((nI 6) * x2), .int (nI 16)]) (E' := E) (I' := I) (J' := J) (S' := S) am_e222 rfl rfl rfl rfl ?_
    refine w_st (i' := 5) (ls' := [.int x2, .int (nI 4)]) (st' := [.int ((nI 16) + ((nI 6) * x2))]) (E' := E) (I' := I) (J' := J) (S' := S) am_e222 rfl rfl rfl rfl ?_
    refine w_st (i' := 6) (ls' := [.int x2, .int (nI 4)]) (st' := [.int (nI 4), .int ((nI 16) + ((nI 6) * x2))]) (E' := E) (I' := I) (J' := J) (S' := S) am_e222 rfl rfl rfl rfl ?_
    refine w_st (i' := 7) (ls' := [.int x2, .int (nI 4)]) (st' := [.int (((nI 16) + ((nI 6) * x2)) + (nI 4))]) (E' := E) (I' := I) (J' := J) (S' := S) am_e222 rfl rfl rfl rfl ?_
    refine w_ri am_e222 rfl rfl (q_mkI ?_)
    show am_ww 221 5 [.ref 99, .int x2] [.int (((nI 16) + ((nI 6) * x2)) + (nI 4)), .ref 116] E I J S _
    refine w_var (fun w1 => am_ww 221 5 [.ref 99, .int x2] [.int w1, .ref 116] E I J S _) (((nI 16) + ((nI 6) * x2)) + (nI 4)) (fun w1 hw1 => ?_)
    replace h := h w1 hw1
    have hf2 := h.1
    replace h := h.2
    refine w_ia (k := 116) (n := 51) (jn := w1.toNatClampNeg) am_e221 rfl rfl (by decide) hf2 rfl ?_
    refine w_st (i' := 7) (ls' := [.ref 99, .int x2]) (st' := [.ref 99, .int ((I 116) w1.toNatClampNeg)]) (E' := E) (I' := I) (J' := J) (S' := S) am_e221 rfl rfl rfl rfl ?_
    refine w_st (i' := 8) (ls' := [.ref 99, .int x2]) (st' := [.ref 105, .int ((I 116) w1.toNatClampNeg)]) (E' := E) (I' := I) (J' := J) (S' := S) am_e221 rfl rfl rfl rfl ?_
    refine w_st (i' := 9) (ls' := [.ref 99, .int x2]) (st' := [.int x2, .ref 105, .int ((I 116) w1.toNatClampNeg)]) (E' := E) (I' := I) (J' := J) (S' := S) am_e221 rfl rfl rfl rfl ?_
    have hf3 := h.1
    replace h := h.2
    refine w_ia (k := 105) (n := 8) (jn := x2.toNatClampNeg) am_e221 rfl rfl (by decide) hf3 rfl ?_
    refine w_if2 am_e221 rfl rfl (fun c => ?_) (fun c => ?_)
    · replace h := h.1 (of_decide_eq_true c)
      refine w_st (i' := 14) (ls' := [.ref 99, .int x2]) (st' := [.int (nI 0)]) (E' := E) (I' := I) (J' := J) (S' := S) am_e221 rfl rfl rfl rfl ?_
      refine w_end (E' := E) (I' := I) (J' := J) (S' := S) am_e221 rfl rfl rfl (q_mkI ?_)
      show am_ww 224 14 [.ref 99, .int x1, .int x2] [.int (nI 0), .int x1] E I J S _
      refine w_st (i' := 17) (ls' := [.ref 99, .int x1, .int x2]) (st' := [.int x1]) (E' := E) (I' := I) (J' := J) (S' := S) am_e224 rfl rfl rfl rfl ?_
      refine w_st (i' := 18) (ls' := [.ref 99, .int x1, .int x2]) (st' := [.int (nI 0), .int x1]) (E' := E) (I' := I) (J' := J) (S' := S) am_e224 rfl rfl rfl rfl ?_
      refine w_st (i' := 19) (ls' := [.ref 99, .int x1, .int x2]) (st' := [.int (x1 + (nI 0))]) (E' := E) (I' := I) (J' := J) (S' := S) am_e224 rfl rfl rfl rfl ?_
      refine w_st (i' := 20) (ls' := [.ref 99, .int (x1 + (nI 0)), .int x2]) (st' := []) (E' := E) (I' := I) (J' := J) (S' := S) am_e224 rfl rfl rfl rfl ?_
      refine w_st (i' := 21) (ls' := [.ref 99, .int (x1 + (nI 0)), .int (x2 + nI 1)]) (st' := []) (E' := E) (I' := I) (J' := J) (S' := S) am_e224 rfl rfl rfl rfl ?_
      refine w_st (i' := 4) (ls' := [.ref 99, .int (x1 + (nI 0)), .int (x2 + nI 1)]) (st' := []) (E' := E) (I' := I) (J' := J) (S' := S) am_e224 rfl rfl rfl rfl ?_
      exact h
    · replace h := h.2 (of_decide_eq_false c)
      refine w_st (i' := 12) (ls' := [.ref 99, .int x2]) (st' := [.int (nI 1)]) (E' := E) (I' := I) (J' := J) (S' := S) am_e221 rfl rfl rfl rfl ?_
      refine w_st (i' := 14) (ls' := [.ref 99, .int x2]) (st' := [.int (nI 1)]) (E' := E) (I' := I) (J' := J) (S' := S) am_e221 rfl rfl rfl rfl ?_
      refine w_end (E' := E) (I' := I) (J' := J) (S' := S) am_e221 rfl rfl rfl (q_mkI ?_)
      show am_ww 224 14 [.ref 99, .int x1, .int x2] [.int (nI 1), .int x1] E I J S _
      refine w_st (i' := 15) (ls' := [.ref 99, .int x1, .int x2]) (st' := [.int x1]) (E' := E) (I' := I) (J' := J) (S' := S) am_e224 rfl rfl rfl rfl ?_
      refine w_st (i' := 16) (ls' := [.ref 99, .int x1, .int x2]) (st' := [.int (nI 1), .int x1]) (E' := E) (I' := I) (J' := J) (S' := S) am_e224 rfl rfl rfl rfl ?_
      refine w_st (i' := 18) (ls' := [.ref 99, .int x1, .int x2]) (st' := [.int (nI 1), .int x1]) (E' := E) (I' := I) (J' := J) (S' := S) am_e224 rfl rfl rfl rfl ?_
      refine w_st (i' := 19) (ls' := [.ref 99, .int x1, .int x2]) (st' := [.int (x1 + (nI 1))]) (E' := E) (I' := I) (J' := J) (S' := S) am_e224 rfl rfl rfl rfl ?_
      refine w_st (i' := 20) (ls' := [.ref 99, .int (x1 + (nI 1)), .int x2]) (st' := []) (E' := E) (I' := I) (J' := J) (S' := S) am_e224 rfl rfl rfl rfl ?_
      refine w_st (i' := 21) (ls' := [.ref 99, .int (x1 + (nI 1)), .int (x2 + nI 1)]) (st' := []) (E' := E) (I' := I) (J' := J) (S' := S) am_e224 rfl rfl rfl rfl ?_
      refine w_st (i' := 4) (ls' := [.ref 99, .int (x1 + (nI 1)), .int (x2 + nI 1)]) (st' := []) (E' := E) (I' := I) (J' := J) (S' := S) am_e224 rfl rfl rfl rfl ?_
      exact h
-- 218 readMany
theorem g218_0  {E : am_Ev} {I : Nat → Nat → Int32} {J : Nat → Nat → Int64} {S : Nat → Nat → Option Nat} {Q : am_Qt}  (h : am_ww 218 4 [.ref 99, .int (nI 0), .int (nI 0)] [] E I J S Q) : am_ww 218 0 [.ref 99, am_U, am_U] [] E I J S Q := by
  refine w_st (i' := 1) (ls' := [.ref 99, am_U, am_U]) (st' := [.int (nI 0)]) (E' := E) (I' := I) (J' := J) (S' := S) am_e218 rfl rfl rfl rfl ?_
  refine w_st (i' := 2) (ls' := [.ref 99, .int (nI 0), am_U]) (st' := []) (E' := E) (I' := I) (J' := J) (S' := S) am_e218 rfl rfl rfl rfl ?_
  refine w_st (i' := 3) (ls' := [.ref 99, .int (nI 0), am_U]) (st' := [.int (nI 0)]) (E' := E) (I' := I) (J' := J) (S' := S) am_e218 rfl rfl rfl rfl ?_
  refine w_st (i' := 4) (ls' := [.ref 99, .int (nI 0), .int (nI 0)]) (st' := []) (E' := E) (I' := I) (J' := J) (S' := S) am_e218 rfl rfl rfl rfl ?_
  exact h
theorem g218_4 {x1 : Int32} {x2 : Int32} {E : am_Ev} {I : Nat → Nat → Int32} {J : Nat → Nat → Int64} {S : Nat → Nat → Option Nat} {Q : am_Qt}  (h : ((nI 3) ≤ x2 → (Q (.inl (some (.int x1))) E I J S)) ∧ (¬ (nI 3) ≤ x2 → (vp_in ((nI 48) + x2) 51 ∧ (∀ w2 : Int32, w2 = (x1 + ((I 116) (((nI 48) + x2).toNatClampNeg))) → (am_ww 218 4 [.ref 99, .int w2, .int (x2 + nI 1)] [] E I J S Q))))) : am_ww 218 4 [.ref 99, .int x1, .int x2] [] E I J S Q := by
  refine w_st (i' := 5) (ls' := [.ref 99, .int x1, .int x2]) (st' := [.int x2]) (E' := E) (I' := I) (J' := J) (S' := S) am_e218 rfl rfl rfl rfl ?_
  refine w_st (i' := 6) (ls' := [.ref 99, .int x1, .int x2]) (st' := [.int (nI 3), .int x2]) (E' := E) (I' := I) (J' := J) (S' := S) am_e218 rfl rfl rfl rfl ?_
  refine w_if2 am_e218 rfl rfl (fun c => ?_) (fun c => ?_)
  · replace h := h.1 (of_decide_eq_true c)
    refine w_st (i' := 19) (ls' := [.ref 99, .int x1, .int x2]) (st' := [.int x1]) (E' := E) (I' := I) (J' := J) (S' := S) am_e218 rfl rfl rfl rfl ?_
    exact w_ri am_e218 rfl rfl h
  · replace h := h.2 (of_decide_eq_false c)
    refine w_st (i' := 8) (ls' := [.ref 99, .int x1, .int x2]) (st' := [.int x1]) (E' := E) (I' := I) (J' := J) (S' := S) am_e218 rfl rfl rfl rfl ?_
    refine w_st (i' := 9) (ls' := [.ref 99, .int x1, .int x2]) (st' := [.ref 99, .int x1]) (E' := E) (I' := I) (J' := J) (S' := S) am_e218 rfl rfl rfl rfl ?_
    refine w_st (i' := 10) (ls' := [.ref 99, .int x1, .int x2]) (st' := [.ref 116, .int x1]) (E' := E) (I' := I) (J' := J) (S' := S) am_e218 rfl rfl rfl rfl ?_
    refine w_st (i' := 11) (ls' := [.ref 99, .int x1, .int x2]) (st' := [.int (nI 48), .ref 116, .int x1]) (E' := E) (I' := I) (J' := J) (S' := S) am_e218 rfl rfl rfl rfl ?_
    refine w_st (i' := 12) (ls' := [.ref 99, .int x1, .int x2]) (st' := [.int x2, .int (nI 48), .ref 116, .int x1]) (E' := E) (I' := I) (J' := J) (S' := S) am_e218 rfl rfl rfl rfl ?_
    refine w_st (i' := 13) (ls' := [.ref 99, .int x1, .int x2]) (st' := [.int ((nI 48) + x2), .ref 116, .int x1]) (E' := E) (I' := I) (J' := J) (S' := S) am_e218 rfl rfl rfl rfl ?_
    have hf1 := h.1
    replace h := h.2
    refine w_ia (k := 116) (n := 51) (jn := ((nI 48) + x2).toNatClampNeg) am_e218 rfl rfl (by decide) hf1 rfl ?_
    refine w_st (i' := 15) (ls' := [.ref 99, .int x1, .int x2]) (st' := [.int (x1 + ((I 116) (((nI 48) + x2).toNatClampNeg)))]) (E' := E) (I' := I) (J' := J) (S' := S) am_e218 rfl rfl rfl rfl ?_
    refine w_st (i' := 16) (ls' := [.ref 99, .int (x1 + ((I 116) (((nI 48) + x2).toNatClampNeg))), .int x2]) (st' := []) (E' := E) (I' := I) (J' := J) (S' := S) am_e218 rfl rfl rfl rfl ?_
    refine w_var (fun w2 => am_ww 218 16 [.ref 99, .int w2, .int x2] [] E I J S _) (x1 + ((I 116) (((nI 48) + x2).toNatClampNeg))) (fun w2 hw2 => ?_)
    replace h := h w2 hw2
    refine w_st (i' := 17) (ls' := [.ref 99, .int w2, .int (x2 + nI 1)]) (st' := []) (E' := E) (I' := I) (J' := J) (S' := S) am_e218 rfl rfl rfl rfl ?_
    refine w_st (i' := 4) (ls' := [.ref 99, .int w2, .int (x2 + nI 1)]) (st' := []) (E' := E) (I' := I) (J' := J) (S' := S) am_e218 rfl rfl rfl rfl ?_
    exact h
-- 241 doInstruction
theorem g241_0 {p1 : Int32} {p2 : Int32} {E : am_Ev} {I : Nat → Nat → Int32} {J : Nat → Nat → Int64} {S : Nat → Nat → Option Nat} {Q : am_Qt}  (h : ∀ w1 : Int32, w1 = (((nI 16) + ((nI 6) * p1)) + (nI 4)) → (vp_in w1 51 ∧ (∀ w3 : Int32, w3 = (((nI 16) * p1) + ((I 116) w1.toNatClampNeg)) → (vp_in w3 128 ∧ (∀ w6 : Int32, w6 = (if (nI 4) ≤ ((I 107) w3.toNatClampNeg) then nI 0 else ((I 107) w3.toNatClampNeg)) → (∀ w7 : Int32, w7 = (((nI 16) + ((nI 6) * p1)) + w6) → (∀ w10 : Int32, w10 = (if ((I 108) w3.toNatClampNeg) < 0 then nI 0 else (if (nI 4) ≤ ((I 108) w3.toNatClampNeg) then nI 0 else ((I 108) w3.toNatClampNeg))) → (∀ w11 : Int32, w11 = (((nI 16) + ((nI 6) * p1)) + w10) → (∀ w12 : Int32, w12 = (((nI 16) + ((nI 6) * p1)) + (nI 4)) → (vp_in w12 51 ∧ (∀ w14 : Int32, w14 = (((I 116) w12.toNatClampNeg) + (nI 1)) → ((((I 106) w3.toNatClampNeg) = nI 0 → (vp_in w7 51 ∧ (am_ww 241 220 [.ref 99, .int p1, .int p2, .int w3, .int w7, .int w11, .int w14] [] E (u_I I 116 (upd (I 116) w7.toNatClampNeg ((I 108) w3.toNatClampNeg))) J S Q))) ∧ (((I 106) w3.toNatClampNeg) = nI 1 → (vp_in ((I 108) w3.toNatClampNeg) 51 ∧ (vp_in w7 51 ∧ (am_ww 241 220 [.ref 99, .int p1, .int p2, .int w3, .int w7, .int w11, .int w14] [] E (u_I I 116 (upd (I 116) w7.toNatClampNeg ((I 116) (((I 108) w3.toNatClampNeg).toNatClampNeg)))) J S Q)))) ∧ (((I 106) w3.toNatClampNeg) = nI 2 → (vp_in w11 51 ∧ (vp_in ((I 107) w3.toNatClampNeg) 51 ∧ (am_ww 241 220 [.ref 99, .int p1, .int p2, .int w3, .int w7, .int w11, .int w14] [] E (u_I I 116 (upd (I 116) (((I 107) w3.toNatClampNeg).toNatClampNeg) ((I 116) w11.toNatClampNeg))) J S Q)))) ∧ (((I 106) w3.toNatClampNeg) = nI 3 → (vp_in w7 51 ∧ (vp_in w11 51 ∧ (am_ww 241 220 [.ref 99, .int p1, .int p2, .int w3, .int w7, .int w11, .int w14] [] E (u_I I 116 (upd (I 116) w7.toNatClampNeg (((I 116) w7.toNatClampNeg) + ((I 116) w11.toNatClampNeg)))) J S Q)))) ∧ (((I 106) w3.toNatClampNeg) = nI 4 → (vp_in w7 51 ∧ (vp_in w11 51 ∧ (am_ww 241 220 [.ref 99, .int p1, .int p2, .int w3, .int w7, .int w11, .int w14] [] E (u_I I 116 (upd (I 116) w7.toNatClampNeg (((I 116) w7.toNatClampNeg) - ((I 116) w11.toNatClampNeg)))) J S Q)))) ∧ (((I 106) w3.toNatClampNeg) = nI 5 → (vp_in w7 51 ∧ (vp_in w11 51 ∧ (am_ww 241 220 [.ref 99, .int p1, .int p2, .int w3, .int w7, .int w11, .int w14] [] E (u_I I 116 (upd (I 116) w7.toNatClampNeg (((I 116) w7.toNatClampNeg) * ((I 116) w11.toNatClampNeg)))) J S Q)))) ∧ (((I 106) w3.toNatClampNeg) = nI 6 → (vp_in w7 51 ∧ (vp_in ((nI 48) + ((I 108) w3.toNatClampNeg)) 51 ∧ (am_ww 241 220 [.ref 99, .int p1, .int p2, .int w3, .int w7, .int w11, .int w14] [] E (u_I I 116 (upd (upd (I 116) w7.toNatClampNeg p2) (((nI 48) + ((I 108) w3.toNatClampNeg)).toNatClampNeg) (((upd (I 116) w7.toNatClampNeg p2) (((nI 48) + ((I 108) w3.toNatClampNeg)).toNatClampNeg)) + (nI 1)))) J S Q)))) ∧ (((I 106) w3.toNatClampNeg) = nI 7 → (vp_in ((nI 40) + ((I 107) w3.toNatClampNeg)) 51 ∧ (am_ww 241 220 [.ref 99, .int p1, .int p2, .int w3, .int w7, .int w11, .int w14] [] E (u_I I 116 (upd (I 116) (((nI 40) + ((I 107) w3.toNatClampNeg)).toNatClampNeg) p1)) J S Q))) ∧ (((I 106) w3.toNatClampNeg) = nI 8 → (vp_in ((nI 40) + ((I 107) w3.toNatClampNeg)) 51 ∧ (∀ w31 : Int32, w31 = (if ((I 116) (((nI 40) + ((I 107) w3.toNatClampNeg)).toNatClampNeg)) = p1 then (-1) else ((I 116) (((nI 40) + ((I 107) w3.toNatClampNeg)).toNatClampNeg))) → (am_ww 241 220 [.ref 99, .int p1, .int p2, .int w3, .int w7, .int w11, .int w14] [] E (u_I I 116 (upd (I 116) (((nI 40) + ((I 107) w3.toNatClampNeg)).toNatClampNeg) w31)) J S Q)))) ∧ (((I 106) w3.toNatClampNeg) = nI 9 → (am_ww 241 220 [.ref 99, .int p1, .int p2, .int w3, .int w7, .int w11, .int ((I 109) w3.toNatClampNeg)] [] E I J S Q)) ∧ (((I 106) w3.toNatClampNeg) = nI 10 → (vp_in w7 51 ∧ (∀ w34 : Int32, w34 = (if ((I 116) w7.toNatClampNeg) = 0 then ((I 109) w3.toNatClampNeg) else w14) → (am_ww 241 220 [.ref 99, .int p1, .int p2, .int w3, .int w7, .int w11, .int w34] [] E I J S Q)))) ∧ (((I 106) w3.toNatClampNeg) = nI 11 → (vp_in w7 51 ∧ (vp_in w11 51 ∧ (∀ w38 : Int32, w38 = (if ((I 116) w11.toNatClampNeg) ≤ ((I 116) w7.toNatClampNeg) then w14 else ((I 109) w3.toNatClampNeg)) → (am_ww 241 220 [.ref 99, .int p1, .int p2, .int w3, .int w7, .int w11, .int w38] [] E I J S Q))))) ∧ (¬ ((I 106) w3.toNatClampNeg) = nI 0 → ¬ ((I 106) w3.toNatClampNeg) = nI 1 → ¬ ((I 106) w3.toNatClampNeg) = nI 2 → ¬ ((I 106) w3.toNatClampNeg) = nI 3 → ¬ ((I 106) w3.toNatClampNeg) = nI 4 → ¬ ((I 106) w3.toNatClampNeg) = nI 5 → ¬ ((I 106) w3.toNatClampNeg) = nI 6 → ¬ ((I 106) w3.toNatClampNeg) = nI 7 → ¬ ((I 106) w3.toNatClampNeg) = nI 8 → ¬ ((I 106) w3.toNatClampNeg) = nI 9 → ¬ ((I 106) w3.toNatClampNeg) = nI 10 → ¬ ((I 106) w3.toNatClampNeg) = nI 11 → (am_ww 241 220 [.ref 99, .int p1, .int p2, .int w3, .int w7, .int w11, .int w14] [] E I J S Q)))))))))))))) : am_ww 241 0 [.ref 99, .int p1, .int p2, am_U, am_U, am_U, am_U] [] E I J S Q := by
  refine w_st (i' := 1) (ls' := [.ref 99, .int p1, .int p2, am_U, am_U, am_U, am_U]) (st' := [.ref 99]) (E' := E) (I' := I) (J' := J) (S' := S) am_e241 rfl rfl rfl rfl ?_
  refine w_st (i' := 2) (ls' := [.ref 99, .int p1, .int p2, am_U, am_U, am_U, am_U]) (st' := [.int p1, .ref 99]) (E' := E) (I' := I) (J' := J) (S' := S) am_e241 rfl rfl rfl rfl ?_
  refine w_cI am_e241 rfl rfl (as := [.ref 99, .int p1]) (rest := []) rfl rfl ?_
  show am_ww 223 0 [.ref 99, .int p1] [] E I J S _
  refine w_st (i' := 1) (ls' := [.ref 99, .int p1]) (st' := [.int (nI 16)]) (E' := E) (I' := I) (J' := J) (S' := S) am_e223 rfl rfl rfl rfl ?_
  refine w_st (i' := 2) (ls' := [.ref 99, .int p1]) (st' := [.int p1, .int (nI 16)]) (E' := E) (I' := I) (J' := J) (S' := S) am_e223 rfl rfl rfl rfl ?_
  refine w_st (i' := 3) (ls' := [.ref 99, .int p1]) (st' := [.int ((nI 16) * p1)]) (E' := E) (I' := I) (J' := J) (S' := S) am_e223 rfl rfl rfl rfl ?_
  refine w_st (i' := 4) (ls' := [.ref 99, .int p1]) (st' := [.ref 99, .int ((nI 16) * p1)]) (E' := E) (I' := I) (J' := J) (S' := S) am_e223 rfl rfl rfl rfl ?_
  refine w_st (i' := 5) (ls' := [.ref 99, .int p1]) (st' := [.ref 116, .int ((nI 16) * p1)]) (E' := E) (I' := I) (J' := J) (S' := S) am_e223 rfl rfl rfl rfl ?_
  refine w_st (i' := 6) (ls' := [.ref 99, .int p1]) (st' := [.int p1, .ref 116, .int ((nI 16) * p1)]) (E' := E) (I' := I) (J' := J) (S' := S) am_e223 rfl rfl rfl rfl ?_
  refine w_st (i' := 7) (ls' := [.ref 99, .int p1]) (st' := [.int (nI 4), .int p1, .ref 116, .int ((nI 16) * p1)]) (E' := E) (I' := I) (J' := J) (S' := S) am_e223 rfl rfl rfl rfl ?_
  refine w_cI am_e223 rfl rfl (as := [.int p1, .int (nI 4)]) (rest := [.ref 116, .int ((nI 16) * p1)]) rfl rfl ?_
  show am_ww 222 0 [.int p1, .int (nI 4)] [] E I J S _
  refine w_st (i' := 1) (ls' := [.int p1, .int (nI 4)]) (st' := [.int (nI 16)]) (E' := E) (I' := I) (J' := J) (S' := S) am_e222 rfl rfl rfl rfl ?_
  refine w_st (i' := 2) (ls' := [.int p1, .int (nI 4)]) (st' := [.int (nI 6), .int (nI 16)]) (E' := E) (I' := I) (J' := J) (S' := S) am_e222 rfl rfl rfl rfl ?_
  refine w_st (i' := 3) (ls' := [.int p1, .int (nI 4)]) (st' := [.int p1, .int (nI 6), .int (nI 16)]) (E' := E) (I' := I) (J' := J) (S' := S) am_e222 rfl rfl rfl rfl ?_
  refine w_st (i' := 4) (ls' := [.int p1, .int (nI 4)]) (st' := [.int ((nI 6) * p1), .int (nI 16)]) (E' := E) (I' := I) (J' := J) (S' := S) am_e222 rfl rfl rfl rfl ?_
  refine w_st (i' := 5) (ls' := [.int p1, .int (nI 4)]) (st' := [.int ((nI 16) + ((nI 6) * p1))]) (E' := E) (I' := I) (J' := J) (S' := S) am_e222 rfl rfl rfl rfl ?_
  refine w_st (i' := 6) (ls' := [.int p1, .int (nI 4)]) (st' := [.int (nI 4), .int ((nI 16) + ((nI 6) * p1))]) (E' := E) (I' := I) (J' := J) (S' := S) am_e222 rfl rfl rfl rfl ?_
  refine w_st (i' := 7) (ls' := [.int p1, .int (nI 4)]) (st' := [.int (((nI 16) + ((nI 6) * p1)) + (nI 4))]) (E' := E) (I' := I) (J' := J) (S' := S) am_e222 rfl rfl rfl rfl ?_
  refine w_ri am_e222 rfl rfl (q_mkI ?_)
  show am_ww 223 8 [.ref 99, .int p1] [.int (((nI 16) + ((nI 6) * p1)) + (nI 4)), .ref 116, .int ((nI 16) * p1)] E I J S _
  refine w_var (fun w1 => am_ww 223 8 [.ref 99, .int p1] [.int w1, .ref 116, .int ((nI 16) * p1)] E I J S _) (((nI 16) + ((nI 6) * p1)) + (nI 4)) (fun w1 hw1 => ?_)
  replace h := h w1 hw1
  have hf2 := h.1
  replace h := h.2
  refine w_ia (k := 116) (n := 51) (jn := w1.toNatClampNeg) am_e223 rfl rfl (by decide) hf2 rfl ?_
  refine w_st (i' := 10) (ls' := [.ref 99, .int p1]) (st' := [.int (((nI 16) * p1) + ((I 116) w1.toNatClampNeg))]) (E' := E) (I' := I) (J' := J) (S' := S) am_e223 rfl rfl rfl rfl ?_
  refine w_ri am_e223 rfl rfl (q_mkI ?_)
  show am_ww 241 3 [.ref 99, .int p1, .int p2, am_U, am_U, am_U, am_U] [.int (((nI 16) * p1) + ((I 116) w1.toNatClampNeg))] E I J S _
  refine w_var (fun w3 => am_ww 241 3 [.ref 99, .int p1, .int p2, am_U, am_U, am_U, am_U] [.int w3] E I J S _) (((nI 16) * p1) + ((I 116) w1.toNatClampNeg)) (fun w3 hw3 => ?_)
  replace h := h w3 hw3
  refine w_st (i' := 4) (ls' := [.ref 99, .int p1, .int p2, .int w3, am_U, am_U, am_U]) (st' := []) (E' := E) (I' := I) (J' := J) (S' := S) am_e241 rfl rfl rfl rfl ?_
  refine w_st (i' := 5) (ls' := [.ref 99, .int p1, .int p2, .int w3, am_U, am_U, am_U]) (st' := [.int p1]) (E' := E) (I' := I) (J' := J) (S' := S) am_e241 rfl rfl rfl rfl ?_
  refine w_st (i' := 6) (ls' := [.ref 99, .int p1, .int p2, .int w3, am_U, am_U, am_U]) (st' := [.ref 99, .int p1]) (E' := E) (I' := I) (J' := J) (S' := S) am_e241 rfl rfl rfl rfl ?_
  refine w_st (i' := 7) (ls' := [.ref 99, .int p1, .int p2, .int w3, am_U, am_U, am_U]) (st' := [.ref 107, .int p1]) (E' := E) (I' := I) (J' := J) (S' := S) am_e241 rfl rfl rfl rfl ?_
  refine w_st (i' := 8) (ls' := [.ref 99, .int p1, .int p2, .int w3, am_U, am_U, am_U]) (st' := [.int w3, .ref 107, .int p1]) (E' := E) (I' := I) (J' := J) (S' := S) am_e241 rfl rfl rfl rfl ?_
  have hf4 := h.1
  replace h := h.2
  refine w_ia (k := 107) (n := 128) (jn := w3.toNatClampNeg) am_e241 rfl rfl (by decide) hf4 rfl ?_
  refine w_st (i' := 10) (ls' := [.ref 99, .int p1, .int p2, .int w3, am_U, am_U, am_U]) (st' := [.int (nI 4), .int ((I 107) w3.toNatClampNeg), .int p1]) (E' := E) (I' := I) (J' := J) (S' := S) am_e241 rfl rfl rfl rfl ?_
  refine w_mg (i := 17) (ls' := [.ref 99, .int p1, .int p2, .int w3, am_U, am_U, am_U]) (st' := [.int (if (nI 4) ≤ ((I 107) w3.toNatClampNeg) then nI 0 else ((I 107) w3.toNatClampNeg)), .int p1]) (fun hm => ?_) ?_
  · clear h
    refine w_if2 am_e241 rfl rfl (fun c => ?_) (fun c => ?_)
    · have m5 : (nI 4) ≤ ((I 107) w3.toNatClampNeg) := (of_decide_eq_true c)
      refine w_st (i' := 17) (ls' := [.ref 99, .int p1, .int p2, .int w3, am_U, am_U, am_U]) (st' := [.int (nI 0), .int p1]) (E' := E) (I' := I) (J' := J) (S' := S) am_e241 rfl rfl rfl rfl ?_
      first | exact hm | (simp only [if_pos m5] at hm; exact hm)
    · have m5 : ¬ ((nI 4) ≤ ((I 107) w3.toNatClampNeg)) := (of_decide_eq_false c)
      refine w_st (i' := 12) (ls' := [.ref 99, .int p1, .int p2, .int w3, am_U, am_U, am_U]) (st' := [.ref 99, .int p1]) (E' := E) (I' := I) (J' := J) (S' := S) am_e241 rfl rfl rfl rfl ?_
      refine w_st (i' := 13) (ls' := [.ref 99, .int p1, .int p2, .int w3, am_U, am_U, am_U]) (st' := [.ref 107, .int p1]) (E' := E) (I' := I) (J' := J) (S' := S) am_e241 rfl rfl rfl rfl ?_
      refine w_st (i' := 14) (ls' := [.ref 99, .int p1, .int p2, .int w3, am_U, am_U, am_U]) (st' := [.int w3, .ref 107, .int p1]) (E' := E) (I' := I) (J' := J) (S' := S) am_e241 rfl rfl rfl rfl ?_
      refine w_ia (k := 107) (n := 128) (jn := w3.toNatClampNeg) am_e241 rfl rfl (by decide) hf4 rfl ?_
      show am_ww 241 15 [.ref 99, .int p1, .int p2, .int w3, am_U, am_U, am_U] [.int ((I 107) w3.toNatClampNeg), .int p1] E I J S _
      refine w_st (i' := 17) (ls' := [.ref 99, .int p1, .int p2, .int w3, am_U, am_U, am_U]) (st' := [.int ((I 107) w3.toNatClampNeg), .int p1]) (E' := E) (I' := I) (J' := J) (S' := S) am_e241 rfl rfl rfl rfl ?_
      first | exact hm | (simp only [if_neg m5] at hm; exact hm)
  refine w_var (fun w6 => am_ww 241 17 [.ref 99, .int p1, .int p2, .int w3, am_U, am_U, am_U] [.int w6, .int p1] E I J S _) (if (nI 4) ≤ ((I 107) w3.toNatClampNeg) then nI 0 else ((I 107) w3.toNatClampNeg)) (fun w6 hw6 => ?_)
  replace h := h w6 hw6
  refine w_cI am_e241 rfl rfl (as := [.int p1, .int w6]) (rest := []) rfl rfl ?_
  show am_ww 222 0 [.int p1, .int w6] [] E I J S _
  refine w_st (i' := 1) (ls' := [.int p1, .int w6]) (st' := [.int (nI 16)]) (E' := E) (I' := I) (J' := J) (S' := S) am_e222 rfl rfl rfl rfl ?_
  refine w_st (i' := 2) (ls' := [.int p1, .int w6]) (st' := [.int (nI 6), .int (nI 16)]) (E' := E) (I' := I) (J' := J) (S' := S) am_e222 rfl rfl rfl rfl ?_
  refine w_st (i' := 3) (ls' := [.int p1, .int w6]) (st' := [.int p1, .int (nI 6), .int (nI 16)]) (E' := E) (I' := I) (J' := J) (S' := S) am_e222 rfl rfl rfl rfl ?_
  refine w_st (i' := 4) (ls' := [.int p1, .int w6]) (st' := [.int ((nI 6) * p1), .int (nI 16)]) (E' := E) (I' := I) (J' := J) (S' := S) am_e222 rfl rfl rfl rfl ?_
  refine w_st (i' := 5) (ls' := [.int p1, .int w6]) (st' := [.int ((nI 16) + ((nI 6) * p1))]) (E' := E) (I' := I) (J' := J) (S' := S) am_e222 rfl rfl rfl rfl ?_
  refine w_st (i' := 6) (ls' := [.int p1, .int w6]) (st' := [.int w6, .int ((nI 16) + ((nI 6) * p1))]) (E' := E) (I' := I) (J' := J) (S' := S) am_e222 rfl rfl rfl rfl ?_
  refine w_st (i' := 7) (ls' := [.int p1, .int w6]) (st' := [.int (((nI 16) + ((nI 6) * p1)) + w6)]) (E' := E) (I' := I) (J' := J) (S' := S) am_e222 rfl rfl rfl rfl ?_
  refine w_ri am_e222 rfl rfl (q_mkI ?_)
  show am_ww 241 18 [.ref 99, .int p1, .int p2, .int w3, am_U, am_U, am_U] [.int (((nI 16) + ((nI 6) * p1)) + w6)] E I J S _
  refine w_var (fun w7 => am_ww 241 18 [.ref 99, .int p1, .int p2, .int w3, am_U, am_U, am_U] [.int w7] E I J S _) (((nI 16) + ((nI 6) * p1)) + w6) (fun w7 hw7 => ?_)
  replace h := h w7 hw7
  refine w_st (i' := 19) (ls' := [.ref 99, .int p1, .int p2, .int w3, .int w7, am_U, am_U]) (st' := []) (E' := E) (I' := I) (J' := J) (S' := S) am_e241 rfl rfl rfl rfl ?_
  refine w_st (i' := 20) (ls' := [.ref 99, .int p1, .int p2, .int w3, .int w7, am_U, am_U]) (st' := [.int p1]) (E' := E) (I' := I) (J' := J) (S' := S) am_e241 rfl rfl rfl rfl ?_
  refine w_st (i' := 21) (ls' := [.ref 99, .int p1, .int p2, .int w3, .int w7, am_U, am_U]) (st' := [.ref 99, .int p1]) (E' := E) (I' := I) (J' := J) (S' := S) am_e241 rfl rfl rfl rfl ?_
  refine w_st (i' := 22) (ls' := [.ref 99, .int p1, .int p2, .int w3, .int w7, am_U, am_U]) (st' := [.ref 108, .int p1]) (E' := E) (I' := I) (J' := J) (S' := S) am_e241 rfl rfl rfl rfl ?_
  refine w_st (i' := 23) (ls' := [.ref 99, .int p1, .int p2, .int w3, .int w7, am_U, am_U]) (st' := [.int w3, .ref 108, .int p1]) (E' := E) (I' := I) (J' := J) (S' := S) am_e241 rfl rfl rfl rfl ?_
  refine w_ia (k := 108) (n := 128) (jn := w3.toNatClampNeg) am_e241 rfl rfl (by decide) hf4 rfl ?_
  refine w_mg (i := 37) (ls' := [.ref 99, .int p1, .int p2, .int w3, .int w7, am_U, am_U]) (st' := [.int (if ((I 108) w3.toNatClampNeg) < 0 then nI 0 else (if (nI 4) ≤ ((I 108) w3.toNatClampNeg) then nI 0 else ((I 108) w3.toNatClampNeg))), .int p1]) (fun hm => ?_) ?_
  · clear h
    refine w_if1 am_e241 rfl rfl (fun c => ?_) (fun c => ?_)
    · have m8 : ((I 108) w3.toNatClampNeg) < 0 := (of_decide_eq_true c)
      refine w_st (i' := 37) (ls' := [.ref 99, .int p1, .int p2, .int w3, .int w7, am_U, am_U]) (st' := [.int (nI 0), .int p1]) (E' := E) (I' := I) (J' := J) (S' := S) am_e241 rfl rfl rfl rfl ?_
      first | exact hm | (simp only [if_pos m8] at hm; exact hm)
    · have m8 : ¬ (((I 108) w3.toNatClampNeg) < 0) := (of_decide_eq_false c)
      refine w_st (i' := 26) (ls' := [.ref 99, .int p1, .int p2, .int w3, .int w7, am_U, am_U]) (st' := [.ref 99, .int p1]) (E' := E) (I' := I) (J' := J) (S' := S) am_e241 rfl rfl rfl rfl ?_
      refine w_st (i' := 27) (ls' := [.ref 99, .int p1, .int p2, .int w3, .int w7, am_U, am_U]) (st' := [.ref 108, .int p1]) (E' := E) (I' := I) (J' := J) (S' := S) am_e241 rfl rfl rfl rfl ?_
      refine w_st (i' := 28) (ls' := [.ref 99, .int p1, .int p2, .int w3, .int w7, am_U, am_U]) (st' := [.int w3, .ref 108, .int p1]) (E' := E) (I' := I) (J' := J) (S' := S) am_e241 rfl rfl rfl rfl ?_
      refine w_ia (k := 108) (n := 128) (jn := w3.toNatClampNeg) am_e241 rfl rfl (by decide) hf4 rfl ?_
      show am_ww 241 29 [.ref 99, .int p1, .int p2, .int w3, .int w7, am_U, am_U] [.int ((I 108) w3.toNatClampNeg), .int p1] E I J S _
      refine w_st (i' := 30) (ls' := [.ref 99, .int p1, .int p2, .int w3, .int w7, am_U, am_U]) (st' := [.int (nI 4), .int ((I 108) w3.toNatClampNeg), .int p1]) (E' := E) (I' := I) (J' := J) (S' := S) am_e241 rfl rfl rfl rfl ?_
      refine w_if2 am_e241 rfl rfl (fun c => ?_) (fun c => ?_)
      · have m9 : (nI 4) ≤ ((I 108) w3.toNatClampNeg) := (of_decide_eq_true c)
        refine w_st (i' := 37) (ls' := [.ref 99, .int p1, .int p2, .int w3, .int w7, am_U, am_U]) (st' := [.int (nI 0), .int p1]) (E' := E) (I' := I) (J' := J) (S' := S) am_e241 rfl rfl rfl rfl ?_
        first | exact hm | (simp only [if_neg m8, if_pos m9] at hm; exact hm)
      · have m9 : ¬ ((nI 4) ≤ ((I 108) w3.toNatClampNeg)) := (of_decide_eq_false c)
        refine w_st (i' := 32) (ls' := [.ref 99, .int p1, .int p2, .int w3, .int w7, am_U, am_U]) (st' := [.ref 99, .int p1]) (E' := E) (I' := I) (J' := J) (S' := S) am_e241 rfl rfl rfl rfl ?_
        refine w_st (i' := 33) (ls' := [.ref 99, .int p1, .int p2, .int w3, .int w7, am_U, am_U]) (st' := [.ref 108, .int p1]) (E' := E) (I' := I) (J' := J) (S' := S) am_e241 rfl rfl rfl rfl ?_
        refine w_st (i' := 34) (ls' := [.ref 99, .int p1, .int p2, .int w3, .int w7, am_U, am_U]) (st' := [.int w3, .ref 108, .int p1]) (E' := E) (I' := I) (J' := J) (S' := S) am_e241 rfl rfl rfl rfl ?_
        refine w_ia (k := 108) (n := 128) (jn := w3.toNatClampNeg) am_e241 rfl rfl (by decide) hf4 rfl ?_
        show am_ww 241 35 [.ref 99, .int p1, .int p2, .int w3, .int w7, am_U, am_U] [.int ((I 108) w3.toNatClampNeg), .int p1] E I J S _
        refine w_st (i' := 37) (ls' := [.ref 99, .int p1, .int p2, .int w3, .int w7, am_U, am_U]) (st' := [.int ((I 108) w3.toNatClampNeg), .int p1]) (E' := E) (I' := I) (J' := J) (S' := S) am_e241 rfl rfl rfl rfl ?_
        first | exact hm | (simp only [if_neg m8, if_neg m9] at hm; exact hm)
  refine w_var (fun w10 => am_ww 241 37 [.ref 99, .int p1, .int p2, .int w3, .int w7, am_U, am_U] [.int w10, .int p1] E I J S _) (if ((I 108) w3.toNatClampNeg) < 0 then nI 0 else (if (nI 4) ≤ ((I 108) w3.toNatClampNeg) then nI 0 else ((I 108) w3.toNatClampNeg))) (fun w10 hw10 => ?_)
  replace h := h w10 hw10
  refine w_cI am_e241 rfl rfl (as := [.int p1, .int w10]) (rest := []) rfl rfl ?_
  show am_ww 222 0 [.int p1, .int w10] [] E I J S _
  refine w_st (i' := 1) (ls' := [.int p1, .int w10]) (st' := [.int (nI 16)]) (E' := E) (I' := I) (J' := J) (S' := S) am_e222 rfl rfl rfl rfl ?_
  refine w_st (i' := 2) (ls' := [.int p1, .int w10]) (st' := [.int (nI 6), .int (nI 16)]) (E' := E) (I' := I) (J' := J) (S' := S) am_e222 rfl rfl rfl rfl ?_
  refine w_st (i' := 3) (ls' := [.int p1, .int w10]) (st' := [.int p1, .int (nI 6), .int (nI 16)]) (E' := E) (I' := I) (J' := J) (S' := S) am_e222 rfl rfl rfl rfl ?_
  refine w_st (i' := 4) (ls' := [.int p1, .int w10]) (st' := [.int ((nI 6) * p1), .int (nI 16)]) (E' := E) (I' := I) (J' := J) (S' := S) am_e222 rfl rfl rfl rfl ?_
  refine w_st (i' := 5) (ls' := [.int p1, .int w10]) (st' := [.int ((nI 16) + ((nI 6) * p1))]) (E' := E) (I' := I) (J' := J) (S' := S) am_e222 rfl rfl rfl rfl ?_
  refine w_st (i' := 6) (ls' := [.int p1, .int w10]) (st' := [.int w10, .int ((nI 16) + ((nI 6) * p1))]) (E' := E) (I' := I) (J' := J) (S' := S) am_e222 rfl rfl rfl rfl ?_
  refine w_st (i' := 7) (ls' := [.int p1, .int w10]) (st' := [.int (((nI 16) + ((nI 6) * p1)) + w10)]) (E' := E) (I' := I) (J' := J) (S' := S) am_e222 rfl rfl rfl rfl ?_
  refine w_ri am_e222 rfl rfl (q_mkI ?_)
  show am_ww 241 38 [.ref 99, .int p1, .int p2, .int w3, .int w7, am_U, am_U] [.int (((nI 16) + ((nI 6) * p1)) + w10)] E I J S _
  refine w_var (fun w11 => am_ww 241 38 [.ref 99, .int p1, .int p2, .int w3, .int w7, am_U, am_U] [.int w11] E I J S _) (((nI 16) + ((nI 6) * p1)) + w10) (fun w11 hw11 => ?_)
  replace h := h w11 hw11
  refine w_st (i' := 39) (ls' := [.ref 99, .int p1, .int p2, .int w3, .int w7, .int w11, am_U]) (st' := []) (E' := E) (I' := I) (J' := J) (S' := S) am_e241 rfl rfl rfl rfl ?_
  refine w_st (i' := 40) (ls' := [.ref 99, .int p1, .int p2, .int w3, .int w7, .int w11, am_U]) (st' := [.ref 99]) (E' := E) (I' := I) (J' := J) (S' := S) am_e241 rfl rfl rfl rfl ?_
  refine w_st (i' := 41) (ls' := [.ref 99, .int p1, .int p2, .int w3, .int w7, .int w11, am_U]) (st' := [.ref 116]) (E' := E) (I' := I) (J' := J) (S' := S) am_e241 rfl rfl rfl rfl ?_
  refine w_st (i' := 42) (ls' := [.ref 99, .int p1, .int p2, .int w3, .int w7, .int w11, am_U]) (st' := [.int p1, .ref 116]) (E' := E) (I' := I) (J' := J) (S' := S) am_e241 rfl rfl rfl rfl ?_
  refine w_st (i' := 43) (ls' := [.ref 99, .int p1, .int p2, .int w3, .int w7, .int w11, am_U]) (st' := [.int (nI 4), .int p1, .ref 116]) (E' := E) (I' := I) (J' := J) (S' := S) am_e241 rfl rfl rfl rfl ?_
  refine w_cI am_e241 rfl rfl (as := [.int p1, .int (nI 4)]) (rest := [.ref 116]) rfl rfl ?_
  show am_ww 222 0 [.int p1, .int (nI 4)] [] E I J S _
  refine w_st (i' := 1) (ls' := [.int p1, .int (nI 4)]) (st' := [.int (nI 16)]) (E' := E) (I' := I) (J' := J) (S' := S) am_e222 rfl rfl rfl rfl ?_
  refine w_st (i' := 2) (ls' := [.int p1, .int (nI 4)]) (st' := [.int (nI 6), .int (nI 16)]) (E' := E) (I' := I) (J' := J) (S' := S) am_e222 rfl rfl rfl rfl ?_
  refine w_st (i' := 3) (ls' := [.int p1, .int (nI 4)]) (st' := [.int p1, .int (nI 6), .int (nI 16)]) (E' := E) (I' := I) (J' := J) (S' := S) am_e222 rfl rfl rfl rfl ?_
  refine w_st (i' := 4) (ls' := [.int p1, .int (nI 4)]) (st' := [.int ((nI 6) * p1), .int (nI 16)]) (E' := E) (I' := I) (J' := J) (S' := S) am_e222 rfl rfl rfl rfl ?_
  refine w_st (i' := 5) (ls' := [.int p1, .int (nI 4)]) (st' := [.int ((nI 16) + ((nI 6) * p1))]) (E' := E) (I' := I) (J' := J) (S' := S) am_e222 rfl rfl rfl rfl ?_
  refine w_st (i' := 6) (ls' := [.int p1, .int (nI 4)]) (st' := [.int (nI 4), .int ((nI 16) + ((nI 6) * p1))]) (E' := E) (I' := I) (J' := J) (S' := S) am_e222 rfl rfl rfl rfl ?_
  refine w_st (i' := 7) (ls' := [.int p1, .int (nI 4)]) (st' := [.int (((nI 16) + ((nI 6) * p1)) + (nI 4))]) (E' := E) (I' := I) (J' := J) (S' := S) am_e222 rfl rfl rfl rfl ?_
  refine w_ri am_e222 rfl rfl (q_mkI ?_)
  show am_ww 241 44 [.ref 99, .int p1, .int p2, .int w3, .int w7, .int w11, am_U] [.int (((nI 16) + ((nI 6) * p1)) + (nI 4)), .ref 116] E I J S _
  refine w_var (fun w12 => am_ww 241 44 [.ref 99, .int p1, .int p2, .int w3, .int w7, .int w11, am_U] [.int w12, .ref 116] E I J S _) (((nI 16) + ((nI 6) * p1)) + (nI 4)) (fun w12 hw12 => ?_)
  replace h := h w12 hw12
  have hf13 := h.1
  replace h := h.2
  refine w_ia (k := 116) (n := 51) (jn := w12.toNatClampNeg) am_e241 rfl rfl (by decide) hf13 rfl ?_
  refine w_st (i' := 46) (ls' := [.ref 99, .int p1, .int p2, .int w3, .int w7, .int w11, am_U]) (st' := [.int (nI 1), .int ((I 116) w12.toNatClampNeg)]) (E' := E) (I' := I) (J' := J) (S' := S) am_e241 rfl rfl rfl rfl ?_
  refine w_st (i' := 47) (ls' := [.ref 99, .int p1, .int p2, .int w3, .int w7, .int w11, am_U]) (st' := [.int (((I 116) w12.toNatClampNeg) + (nI 1))]) (E' := E) (I' := I) (J' := J) (S' := S) am_e241 rfl rfl rfl rfl ?_
  refine w_st (i' := 48) (ls' := [.ref 99, .int p1, .int p2, .int w3, .int w7, .int w11, .int (((I 116) w12.toNatClampNeg) + (nI 1))]) (st' := []) (E' := E) (I' := I) (J' := J) (S' := S) am_e241 rfl rfl rfl rfl ?_
  refine w_var (fun w14 => am_ww 241 48 [.ref 99, .int p1, .int p2, .int w3, .int w7, .int w11, .int w14] [] E I J S _) (((I 116) w12.toNatClampNeg) + (nI 1)) (fun w14 hw14 => ?_)
  replace h := h w14 hw14
  refine w_st (i' := 49) (ls' := [.ref 99, .int p1, .int p2, .int w3, .int w7, .int w11, .int w14]) (st' := [.ref 99]) (E' := E) (I' := I) (J' := J) (S' := S) am_e241 rfl rfl rfl rfl ?_
  refine w_st (i' := 50) (ls' := [.ref 99, .int p1, .int p2, .int w3, .int w7, .int w11, .int w14]) (st' := [.ref 106]) (E' := E) (I' := I) (J' := J) (S' := S) am_e241 rfl rfl rfl rfl ?_
  refine w_st (i' := 51) (ls' := [.ref 99, .int p1, .int p2, .int w3, .int w7, .int w11, .int w14]) (st' := [.int w3, .ref 106]) (E' := E) (I' := I) (J' := J) (S' := S) am_e241 rfl rfl rfl rfl ?_
  refine w_ia (k := 106) (n := 128) (jn := w3.toNatClampNeg) am_e241 rfl rfl (by decide) hf4 rfl ?_
  refine w_tb am_e241 rfl ?_
  by_cases c0 : ((I 106) w3.toNatClampNeg) = nI 0
  · replace h := h.1 c0
    refine w_to (i2 := 53) (by rw [c0]; first | done | rfl) ?_
    refine w_st (i' := 54) (ls' := [.ref 99, .int p1, .int p2, .int w3, .int w7, .int w11, .int w14]) (st' := [.ref 99]) (E' := E) (I' := I) (J' := J) (S' := S) am_e241 rfl rfl rfl rfl ?_
    refine w_st (i' := 55) (ls' := [.ref 99, .int p1, .int p2, .int w3, .int w7, .int w11, .int w14]) (st' := [.ref 116]) (E' := E) (I' := I) (J' := J) (S' := S) am_e241 rfl rfl rfl rfl ?_
    refine w_st (i' := 56) (ls' := [.ref 99, .int p1, .int p2, .int w3, .int w7, .int w11, .int w14]) (st' := [.int w7, .ref 116]) (E' := E) (I' := I) (J' := J) (S' := S) am_e241 rfl rfl rfl rfl ?_
    refine w_st (i' := 57) (ls' := [.ref 99, .int p1, .int p2, .int w3, .int w7, .int w11, .int w14]) (st' := [.ref 99, .int w7, .ref 116]) (E' := E) (I' := I) (J' := J) (S' := S) am_e241 rfl rfl rfl rfl ?_
    refine w_st (i' := 58) (ls' := [.ref 99, .int p1, .int p2, .int w3, .int w7, .int w11, .int w14]) (st' := [.ref 108, .int w7, .ref 116]) (E' := E) (I' := I) (J' := J) (S' := S) am_e241 rfl rfl rfl rfl ?_
    refine w_st (i' := 59) (ls' := [.ref 99, .int p1, .int p2, .int w3, .int w7, .int w11, .int w14]) (st' := [.int w3, .ref 108, .int w7, .ref 116]) (E' := E) (I' := I) (J' := J) (S' := S) am_e241 rfl rfl rfl rfl ?_
    refine w_ia (k := 108) (n := 128) (jn := w3.toNatClampNeg) am_e241 rfl rfl (by decide) hf4 rfl ?_
    have hf15 := h.1
    replace h := h.2
    refine w_is (k := 116) (n := 51) (jn := w7.toNatClampNeg) am_e241 rfl rfl (by decide) hf15 rfl ?_
    show am_ww 241 61 [.ref 99, .int p1, .int p2, .int w3, .int w7, .int w11, .int w14] [] E (u_I I 116 (upd (I 116) w7.toNatClampNeg ((I 108) w3.toNatClampNeg))) J S _
    refine w_st (i' := 220) (ls' := [.ref 99, .int p1, .int p2, .int w3, .int w7, .int w11, .int w14]) (st' := []) (E' := E) (I' := (u_I I 116 (upd (I 116) w7.toNatClampNeg ((I 108) w3.toNatClampNeg)))) (J' := J) (S' := S) am_e241 rfl rfl rfl rfl ?_
    exact h
  by_cases c1 : ((I 106) w3.toNatClampNeg) = nI 1
  · replace h := h.2.1 c1
    refine w_to (i2 := 62) (by rw [c1]; first | done | rfl) ?_
    refine w_st (i' := 63) (ls' := [.ref 99, .int p1, .int p2, .int w3, .int w7, .int w11, .int w14]) (st' := [.ref 99]) (E' := E) (I' := I) (J' := J) (S' := S) am_e241 rfl rfl rfl rfl ?_
    refine w_st (i' := 64) (ls' := [.ref 99, .int p1, .int p2, .int w3, .int w7, .int w11, .int w14]) (st' := [.ref 116]) (E' := E) (I' := I) (J' := J) (S' := S) am_e241 rfl rfl rfl rfl ?_
    refine w_st (i' := 65) (ls' := [.ref 99, .int p1, .int p2, .int w3, .int w7, .int w11, .int w14]) (st' := [.int w7, .ref 116]) (E' := E) (I' := I) (J' := J) (S' := S) am_e241 rfl rfl rfl rfl ?_
    refine w_st (i' := 66) (ls' := [.ref 99, .int p1, .int p2, .int w3, .int w7, .int w11, .int w14]) (st' := [.ref 99, .int w7, .ref 116]) (E' := E) (I' := I) (J' := J) (S' := S) am_e241 rfl rfl rfl rfl ?_
    refine w_st (i' := 67) (ls' := [.ref 99, .int p1, .int p2, .int w3, .int w7, .int w11, .int w14]) (st' := [.ref 116, .int w7, .ref 116]) (E' := E) (I' := I) (J' := J) (S' := S) am_e241 rfl rfl rfl rfl ?_
    refine w_st (i' := 68) (ls' := [.ref 99, .int p1, .int p2, .int w3, .int w7, .int w11, .int w14]) (st' := [.ref 99, .ref 116, .int w7, .ref 116]) (E' := E) (I' := I) (J' := J) (S' := S) am_e241 rfl rfl rfl rfl ?_
    refine w_st (i' := 69) (ls' := [.ref 99, .int p1, .int p2, .int w3, .int w7, .int w11, .int w14]) (st' := [.ref 108, .ref 116, .int w7, .ref 116]) (E' := E) (I' := I) (J' := J) (S' := S) am_e241 rfl rfl rfl rfl ?_
    refine w_st (i' := 70) (ls' := [.ref 99, .int p1, .int p2, .int w3, .int w7, .int w11, .int w14]) (st' := [.int w3, .ref 108, .ref 116, .int w7, .ref 116]) (E' := E) (I' := I) (J' := J) (S' := S) am_e241 rfl rfl rfl rfl ?_
    refine w_ia (k := 108) (n := 128) (jn := w3.toNatClampNeg) am_e241 rfl rfl (by decide) hf4 rfl ?_
    have hf16 := h.1
    replace h := h.2
    refine w_ia (k := 116) (n := 51) (jn := ((I 108) w3.toNatClampNeg).toNatClampNeg) am_e241 rfl rfl (by decide) hf16 rfl ?_
    have hf17 := h.1
    replace h := h.2
    refine w_is (k := 116) (n := 51) (jn := w7.toNatClampNeg) am_e241 rfl rfl (by decide) hf17 rfl ?_
    show am_ww 241 73 [.ref 99, .int p1, .int p2, .int w3, .int w7, .int w11, .int w14] [] E (u_I I 116 (upd (I 116) w7.toNatClampNeg ((I 116) (((I 108) w3.toNatClampNeg).toNatClampNeg)))) J S _
    refine w_st (i' := 220) (ls' := [.ref 99, .int p1, .int p2, .int w3, .int w7, .int w11, .int w14]) (st' := []) (E' := E) (I' := (u_I I 116 (upd (I 116) w7.toNatClampNeg ((I 116) (((I 108) w3.toNatClampNeg).toNatClampNeg))))) (J' := J) (S' := S) am_e241 rfl rfl rfl rfl ?_
    exact h
  by_cases c2 : ((I 106) w3.toNatClampNeg) = nI 2
  · replace h := h.2.2.1 c2
    refine w_to (i2 := 74) (by rw [c2]; first | done | rfl) ?_
    refine w_st (i' := 75) (ls' := [.ref 99, .int p1, .int p2, .int w3, .int w7, .int w11, .int w14]) (st' := [.ref 99]) (E' := E) (I' := I) (J' := J) (S' := S) am_e241 rfl rfl rfl rfl ?_
    refine w_st (i' := 76) (ls' := [.ref 99, .int p1, .int p2, .int w3, .int w7, .int w11, .int w14]) (st' := [.ref 116]) (E' := E) (I' := I) (J' := J) (S' := S) am_e241 rfl rfl rfl rfl ?_
    refine w_st (i' := 77) (ls' := [.ref 99, .int p1, .int p2, .int w3, .int w7, .int w11, .int w14]) (st' := [.ref 99, .ref 116]) (E' := E) (I' := I) (J' := J) (S' := S) am_e241 rfl rfl rfl rfl ?_
    refine w_st (i' := 78) (ls' := [.ref 99, .int p1, .int p2, .int w3, .int w7, .int w11, .int w14]) (st' := [.ref 107, .ref 116]) (E' := E) (I' := I) (J' := J) (S' := S) am_e241 rfl rfl rfl rfl ?_
    refine w_st (i' := 79) (ls' := [.ref 99, .int p1, .int p2, .int w3, .int w7, .int w11, .int w14]) (st' := [.int w3, .ref 107, .ref 116]) (E' := E) (I' := I) (J' := J) (S' := S) am_e241 rfl rfl rfl rfl ?_
    refine w_ia (k := 107) (n := 128) (jn := w3.toNatClampNeg) am_e241 rfl rfl (by decide) hf4 rfl ?_
    refine w_st (i' := 81) (ls' := [.ref 99, .int p1, .int p2, .int w3, .int w7, .int w11, .int w14]) (st' := [.ref 99, .int ((I 107) w3.toNatClampNeg), .ref 116]) (E' := E) (I' := I) (J' := J) (S' := S) am_e241 rfl rfl rfl rfl ?_
    refine w_st (i' := 82) (ls' := [.ref 99, .int p1, .int p2, .int w3, .int w7, .int w11, .int w14]) (st' := [.ref 116, .int ((I 107) w3.toNatClampNeg), .ref 116]) (E' := E) (I' := I) (J' := J) (S' := S) am_e241 rfl rfl rfl rfl ?_
    refine w_st (i' := 83) (ls' := [.ref 99, .int p1, .int p2, .int w3, .int w7, .int w11, .int w14]) (st' := [.int w11, .ref 116, .int ((I 107) w3.toNatClampNeg), .ref 116]) (E' := E) (I' := I) (J' := J) (S' := S) am_e241 rfl rfl rfl rfl ?_
    have hf18 := h.1
    replace h := h.2
    refine w_ia (k := 116) (n := 51) (jn := w11.toNatClampNeg) am_e241 rfl rfl (by decide) hf18 rfl ?_
    have hf19 := h.1
    replace h := h.2
    refine w_is (k := 116) (n := 51) (jn := ((I 107) w3.toNatClampNeg).toNatClampNeg) am_e241 rfl rfl (by decide) hf19 rfl ?_
    show am_ww 241 85 [.ref 99, .int p1, .int p2, .int w3, .int w7, .int w11, .int w14] [] E (u_I I 116 (upd (I 116) (((I 107) w3.toNatClampNeg).toNatClampNeg) ((I 116) w11.toNatClampNeg))) J S _
    refine w_st (i' := 220) (ls' := [.ref 99, .int p1, .int p2, .int w3, .int w7, .int w11, .int w14]) (st' := []) (E' := E) (I' := (u_I I 116 (upd (I 116) (((I 107) w3.toNatClampNeg).toNatClampNeg) ((I 116) w11.toNatClampNeg)))) (J' := J) (S' := S) am_e241 rfl rfl rfl rfl ?_
    exact h
  by_cases c3 : ((I 106) w3.toNatClampNeg) = nI 3
  · replace h := h.2.2.2.1 c3
    refine w_to (i2 := 86) (by rw [c3]; first | done | rfl) ?_
    refine w_st (i' := 87) (ls' := [.ref 99, .int p1, .int p2, .int w3, .int w7, .int w11, .int w14]) (st' := [.ref 99]) (E' := E) (I' := I) (J' := J) (S' := S) am_e241 rfl rfl rfl rfl ?_
    refine w_st (i' := 88) (ls' := [.ref 99, .int p1, .int p2, .int w3, .int w7, .int w11, .int w14]) (st' := [.ref 116]) (E' := E) (I' := I) (J' := J) (S' := S) am_e241 rfl rfl rfl rfl ?_
    refine w_st (i' := 89) (ls' := [.ref 99, .int p1, .int p2, .int w3, .int w7, .int w11, .int w14]) (st' := [.int w7, .ref 116]) (E' := E) (I' := I) (J' := J) (S' := S) am_e241 rfl rfl rfl rfl ?_
    refine w_st (i' := 90) (ls' := [.ref 99, .int p1, .int p2, .int w3, .int w7, .int w11, .int w14]) (st' := [.int w7, .ref 116, .int w7, .ref 116]) (E' := E) (I' := I) (J' := J) (S' := S) am_e241 rfl rfl rfl rfl ?_
    have hf20 := h.1
    replace h := h.2
    refine w_ia (k := 116) (n := 51) (jn := w7.toNatClampNeg) am_e241 rfl rfl (by decide) hf20 rfl ?_
    refine w_st (i' := 92) (ls' := [.ref 99, .int p1, .int p2, .int w3, .int w7, .int w11, .int w14]) (st' := [.ref 99, .int ((I 116) w7.toNatClampNeg), .int w7, .ref 116]) (E' := E) (I' := I) (J' := J) (S' := S) am_e241 rfl rfl rfl rfl ?_
    refine w_st (i' := 93) (ls' := [.ref 99, .int p1, .int p2, .int w3, .int w7, .int w11, .int w14]) (st' := [.ref 116, .int ((I 116) w7.toNatClampNeg), .int w7, .ref 116]) (E' := E) (I' := I) (J' := J) (S' := S) am_e241 rfl rfl rfl rfl ?_
    refine w_st (i' := 94) (ls' := [.ref 99, .int p1, .int p2, .int w3, .int w7, .int w11, .int w14]) (st' := [.int w11, .ref 116, .int ((I 116) w7.toNatClampNeg), .int w7, .ref 116]) (E' := E) (I' := I) (J' := J) (S' := S) am_e241 rfl rfl rfl rfl ?_
    have hf21 := h.1
    replace h := h.2
    refine w_ia (k := 116) (n := 51) (jn := w11.toNatClampNeg) am_e241 rfl rfl (by decide) hf21 rfl ?_
    refine w_st (i' := 96) (ls' := [.ref 99, .int p1, .int p2, .int w3, .int w7, .int w11, .int w14]) (st' := [.int (((I 116) w7.toNatClampNeg) + ((I 116) w11.toNatClampNeg)), .int w7, .ref 116]) (E' := E) (I' := I) (J' := J) (S' := S) am_e241 rfl rfl rfl rfl ?_
    refine w_is (k := 116) (n := 51) (jn := w7.toNatClampNeg) am_e241 rfl rfl (by decide) hf20 rfl ?_
    show am_ww 241 97 [.ref 99, .int p1, .int p2, .int w3, .int w7, .int w11, .int w14] [] E (u_I I 116 (upd (I 116) w7.toNatClampNeg (((I 116) w7.toNatClampNeg) + ((I 116) w11.toNatClampNeg)))) J S _
    refine w_st (i' := 220) (ls' := [.ref 99, .int p1, .int p2, .int w3, .int w7, .int w11, .int w14]) (st' := []) (E' := E) (I' := (u_I I 116 (upd (I 116) w7.toNatClampNeg (((I 116) w7.toNatClampNeg) + ((I 116) w11.toNatClampNeg))))) (J' := J) (S' := S) am_e241 rfl rfl rfl rfl ?_
    exact h
  by_cases c4 : ((I 106) w3.toNatClampNeg) = nI 4
  · replace h := h.2.2.2.2.1 c4
    refine w_to (i2 := 98) (by rw [c4]; first | done | rfl) ?_
    refine w_st (i' := 99) (ls' := [.ref 99, .int p1, .int p2, .int w3, .int w7, .int w11, .int w14]) (st' := [.ref 99]) (E' := E) (I' := I) (J' := J) (S' := S) am_e241 rfl rfl rfl rfl ?_
    refine w_st (i' := 100) (ls' := [.ref 99, .int p1, .int p2, .int w3, .int w7, .int w11, .int w14]) (st' := [.ref 116]) (E' := E) (I' := I) (J' := J) (S' := S) am_e241 rfl rfl rfl rfl ?_
    refine w_st (i' := 101) (ls' := [.ref 99, .int p1, .int p2, .int w3, .int w7, .int w11, .int w14]) (st' := [.int w7, .ref 116]) (E' := E) (I' := I) (J' := J) (S' := S) am_e241 rfl rfl rfl rfl ?_
    refine w_st (i' := 102) (ls' := [.ref 99, .int p1, .int p2, .int w3, .int w7, .int w11, .int w14]) (st' := [.int w7, .ref 116, .int w7, .ref 116]) (E' := E) (I' := I) (J' := J) (S' := S) am_e241 rfl rfl rfl rfl ?_
    have hf22 := h.1
    replace h := h.2
    refine w_ia (k := 116) (n := 51) (jn := w7.toNatClampNeg) am_e241 rfl rfl (by decide) hf22 rfl ?_
    refine w_st (i' := 104) (ls' := [.ref 99, .int p1, .int p2, .int w3, .int w7, .int w11, .int w14]) (st' := [.ref 99, .int ((I 116) w7.toNatClampNeg), .int w7, .ref 116]) (E' := E) (I' := I) (J' := J) (S' := S) am_e241 rfl rfl rfl rfl ?_
    refine w_st (i' := 105) (ls' := [.ref 99, .int p1, .int p2, .int w3, .int w7, .int w11, .int w14]) (st' := [.ref 116, .int ((I 116) w7.toNatClampNeg), .int w7, .ref 116]) (E' := E) (I' := I) (J' := J) (S' := S) am_e241 rfl rfl rfl rfl ?_
    refine w_st (i' := 106) (ls' := [.ref 99, .int p1, .int p2, .int w3, .int w7, .int w11, .int w14]) (st' := [.int w11, .ref 116, .int ((I 116) w7.toNatClampNeg), .int w7, .ref 116]) (E' := E) (I' := I) (J' := J) (S' := S) am_e241 rfl rfl rfl rfl ?_
    have hf23 := h.1
    replace h := h.2
    refine w_ia (k := 116) (n := 51) (jn := w11.toNatClampNeg) am_e241 rfl rfl (by decide) hf23 rfl ?_
    refine w_st (i' := 108) (ls' := [.ref 99, .int p1, .int p2, .int w3, .int w7, .int w11, .int w14]) (st' := [.int (((I 116) w7.toNatClampNeg) - ((I 116) w11.toNatClampNeg)), .int w7, .ref 116]) (E' := E) (I' := I) (J' := J) (S' := S) am_e241 rfl rfl rfl rfl ?_
    refine w_is (k := 116) (n := 51) (jn := w7.toNatClampNeg) am_e241 rfl rfl (by decide) hf22 rfl ?_
    show am_ww 241 109 [.ref 99, .int p1, .int p2, .int w3, .int w7, .int w11, .int w14] [] E (u_I I 116 (upd (I 116) w7.toNatClampNeg (((I 116) w7.toNatClampNeg) - ((I 116) w11.toNatClampNeg)))) J S _
    refine w_st (i' := 220) (ls' := [.ref 99, .int p1, .int p2, .int w3, .int w7, .int w11, .int w14]) (st' := []) (E' := E) (I' := (u_I I 116 (upd (I 116) w7.toNatClampNeg (((I 116) w7.toNatClampNeg) - ((I 116) w11.toNatClampNeg))))) (J' := J) (S' := S) am_e241 rfl rfl rfl rfl ?_
    exact h
  by_cases c5 : ((I 106) w3.toNatClampNeg) = nI 5
  · replace h := h.2.2.2.2.2.1 c5
    refine w_to (i2 := 110) (by rw [c5]; first | done | rfl) ?_
    refine w_st (i' := 111) (ls' := [.ref 99, .int p1, .int p2, .int w3, .int w7, .int w11, .int w14]) (st' := [.ref 99]) (E' := E) (I' := I) (J' := J) (S' := S) am_e241 rfl rfl rfl rfl ?_
    refine w_st (i' := 112) (ls' := [.ref 99, .int p1, .int p2, .int w3, .int w7, .int w11, .int w14]) (st' := [.ref 116]) (E' := E) (I' := I) (J' := J) (S' := S) am_e241 rfl rfl rfl rfl ?_
    refine w_st (i' := 113) (ls' := [.ref 99, .int p1, .int p2, .int w3, .int w7, .int w11, .int w14]) (st' := [.int w7, .ref 116]) (E' := E) (I' := I) (J' := J) (S' := S) am_e241 rfl rfl rfl rfl ?_
    refine w_st (i' := 114) (ls' := [.ref 99, .int p1, .int p2, .int w3, .int w7, .int w11, .int w14]) (st' := [.int w7, .ref 116, .int w7, .ref 116]) (E' := E) (I' := I) (J' := J) (S' := S) am_e241 rfl rfl rfl rfl ?_
    have hf24 := h.1
    replace h := h.2
    refine w_ia (k := 116) (n := 51) (jn := w7.toNatClampNeg) am_e241 rfl rfl (by decide) hf24 rfl ?_
    refine w_st (i' := 116) (ls' := [.ref 99, .int p1, .int p2, .int w3, .int w7, .int w11, .int w14]) (st' := [.ref 99, .int ((I 116) w7.toNatClampNeg), .int w7, .ref 116]) (E' := E) (I' := I) (J' := J) (S' := S) am_e241 rfl rfl rfl rfl ?_
    refine w_st (i' := 117) (ls' := [.ref 99, .int p1, .int p2, .int w3, .int w7, .int w11, .int w14]) (st' := [.ref 116, .int ((I 116) w7.toNatClampNeg), .int w7, .ref 116]) (E' := E) (I' := I) (J' := J) (S' := S) am_e241 rfl rfl rfl rfl ?_
    refine w_st (i' := 118) (ls' := [.ref 99, .int p1, .int p2, .int w3, .int w7, .int w11, .int w14]) (st' := [.int w11, .ref 116, .int ((I 116) w7.toNatClampNeg), .int w7, .ref 116]) (E' := E) (I' := I) (J' := J) (S' := S) am_e241 rfl rfl rfl rfl ?_
    have hf25 := h.1
    replace h := h.2
    refine w_ia (k := 116) (n := 51) (jn := w11.toNatClampNeg) am_e241 rfl rfl (by decide) hf25 rfl ?_
    refine w_st (i' := 120) (ls' := [.ref 99, .int p1, .int p2, .int w3, .int w7, .int w11, .int w14]) (st' := [.int (((I 116) w7.toNatClampNeg) * ((I 116) w11.toNatClampNeg)), .int w7, .ref 116]) (E' := E) (I' := I) (J' := J) (S' := S) am_e241 rfl rfl rfl rfl ?_
    refine w_is (k := 116) (n := 51) (jn := w7.toNatClampNeg) am_e241 rfl rfl (by decide) hf24 rfl ?_
    show am_ww 241 121 [.ref 99, .int p1, .int p2, .int w3, .int w7, .int w11, .int w14] [] E (u_I I 116 (upd (I 116) w7.toNatClampNeg (((I 116) w7.toNatClampNeg) * ((I 116) w11.toNatClampNeg)))) J S _
    refine w_st (i' := 220) (ls' := [.ref 99, .int p1, .int p2, .int w3, .int w7, .int w11, .int w14]) (st' := []) (E' := E) (I' := (u_I I 116 (upd (I 116) w7.toNatClampNeg (((I 116) w7.toNatClampNeg) * ((I 116) w11.toNatClampNeg))))) (J' := J) (S' := S) am_e241 rfl rfl rfl rfl ?_
    exact h
  by_cases c6 : ((I 106) w3.toNatClampNeg) = nI 6
  · replace h := h.2.2.2.2.2.2.1 c6
    refine w_to (i2 := 122) (by rw [c6]; first | done | rfl) ?_
    refine w_st (i' := 123) (ls' := [.ref 99, .int p1, .int p2, .int w3, .int w7, .int w11, .int w14]) (st' := [.ref 99]) (E' := E) (I' := I) (J' := J) (S' := S) am_e241 rfl rfl rfl rfl ?_
    refine w_st (i' := 124) (ls' := [.ref 99, .int p1, .int p2, .int w3, .int w7, .int w11, .int w14]) (st' := [.ref 116]) (E' := E) (I' := I) (J' := J) (S' := S) am_e241 rfl rfl rfl rfl ?_
    refine w_st (i' := 125) (ls' := [.ref 99, .int p1, .int p2, .int w3, .int w7, .int w11, .int w14]) (st' := [.int w7, .ref 116]) (E' := E) (I' := I) (J' := J) (S' := S) am_e241 rfl rfl rfl rfl ?_
    refine w_st (i' := 126) (ls' := [.ref 99, .int p1, .int p2, .int w3, .int w7, .int w11, .int w14]) (st' := [.int p2, .int w7, .ref 116]) (E' := E) (I' := I) (J' := J) (S' := S) am_e241 rfl rfl rfl rfl ?_
    have hf26 := h.1
    replace h := h.2
    refine w_is (k := 116) (n := 51) (jn := w7.toNatClampNeg) am_e241 rfl rfl (by decide) hf26 rfl ?_
    show am_ww 241 127 [.ref 99, .int p1, .int p2, .int w3, .int w7, .int w11, .int w14] [] E (u_I I 116 (upd (I 116) w7.toNatClampNeg p2)) J S _
    refine w_st (i' := 128) (ls' := [.ref 99, .int p1, .int p2, .int w3, .int w7, .int w11, .int w14]) (st' := [.ref 99]) (E' := E) (I' := (u_I I 116 (upd (I 116) w7.toNatClampNeg p2))) (J' := J) (S' := S) am_e241 rfl rfl rfl rfl ?_
    refine w_st (i' := 129) (ls' := [.ref 99, .int p1, .int p2, .int w3, .int w7, .int w11, .int w14]) (st' := [.ref 116]) (E' := E) (I' := (u_I I 116 (upd (I 116) w7.toNatClampNeg p2))) (J' := J) (S' := S) am_e241 rfl rfl rfl rfl ?_
    refine w_st (i' := 130) (ls' := [.ref 99, .int p1, .int p2, .int w3, .int w7, .int w11, .int w14]) (st' := [.int (nI 48), .ref 116]) (E' := E) (I' := (u_I I 116 (upd (I 116) w7.toNatClampNeg p2))) (J' := J) (S' := S) am_e241 rfl rfl rfl rfl ?_
    refine w_st (i' := 131) (ls' := [.ref 99, .int p1, .int p2, .int w3, .int w7, .int w11, .int w14]) (st' := [.ref 99, .int (nI 48), .ref 116]) (E' := E) (I' := (u_I I 116 (upd (I 116) w7.toNatClampNeg p2))) (J' := J) (S' := S) am_e241 rfl rfl rfl rfl ?_
    refine w_st (i' := 132) (ls' := [.ref 99, .int p1, .int p2, .int w3, .int w7, .int w11, .int w14]) (st' := [.ref 108, .int (nI 48), .ref 116]) (E' := E) (I' := (u_I I 116 (upd (I 116) w7.toNatClampNeg p2))) (J' := J) (S' := S) am_e241 rfl rfl rfl rfl ?_
    refine w_st (i' := 133) (ls' := [.ref 99, .int p1, .int p2, .int w3, .int w7, .int w11, .int w14]) (st' := [.int w3, .ref 108, .int (nI 48), .ref 116]) (E' := E) (I' := (u_I I 116 (upd (I 116) w7.toNatClampNeg p2))) (J' := J) (S' := S) am_e241 rfl rfl rfl rfl ?_
    refine w_ia (k := 108) (n := 128) (jn := w3.toNatClampNeg) am_e241 rfl rfl (by decide) hf4 rfl ?_
    show am_ww 241 134 [.ref 99, .int p1, .int p2, .int w3, .int w7, .int w11, .int w14] [.int ((I 108) w3.toNatClampNeg), .int (nI 48), .ref 116] E (u_I I 116 (upd (I 116) w7.toNatClampNeg p2)) J S _
    refine w_st (i' := 135) (ls' := [.ref 99, .int p1, .int p2, .int w3, .int w7, .int w11, .int w14]) (st' := [.int ((nI 48) + ((I 108) w3.toNatClampNeg)), .ref 116]) (E' := E) (I' := (u_I I 116 (upd (I 116) w7.toNatClampNeg p2))) (J' := J) (S' := S) am_e241 rfl rfl rfl rfl ?_
    refine w_st (i' := 136) (ls' := [.ref 99, .int p1, .int p2, .int w3, .int w7, .int w11, .int w14]) (st' := [.int ((nI 48) + ((I 108) w3.toNatClampNeg)), .ref 116, .int ((nI 48) + ((I 108) w3.toNatClampNeg)), .ref 116]) (E' := E) (I' := (u_I I 116 (upd (I 116) w7.toNatClampNeg p2))) (J' := J) (S' := S) am_e241 rfl rfl rfl rfl ?_
    have hf27 := h.1
    replace h := h.2
    refine w_ia (k := 116) (n := 51) (jn := ((nI 48) + ((I 108) w3.toNatClampNeg)).toNatClampNeg) am_e241 rfl rfl (by decide) hf27 rfl ?_
    show am_ww 241 137 [.ref 99, .int p1, .int p2, .int w3, .int w7, .int w11, .int w14] [.int ((upd (I 116) w7.toNatClampNeg p2) (((nI 48) + ((I 108) w3.toNatClampNeg)).toNatClampNeg)), .int ((nI 48) + ((I 108) w3.toNatClampNeg)), .ref 116] E (u_I I 116 (upd (I 116) w7.toNatClampNeg p2)) J S _
    refine w_st (i' := 138) (ls' := [.ref 99, .int p1, .int p2, .int w3, .int w7, .int w11, .int w14]) (st' := [.int (nI 1), .int ((upd (I 116) w7.toNatClampNeg p2) (((nI 48) + ((I 108) w3.toNatClampNeg)).toNatClampNeg)), .int ((nI 48) + ((I 108) w3.toNatClampNeg)), .ref 116]) (E' := E) (I' := (u_I I 116 (upd (I 116) w7.toNatClampNeg p2))) (J' := J) (S' := S) am_e241 rfl rfl rfl rfl ?_
    refine w_st (i' := 139) (ls' := [.ref 99, .int p1, .int p2, .int w3, .int w7, .int w11, .int w14]) (st' := [.int (((upd (I 116) w7.toNatClampNeg p2) (((nI 48) + ((I 108) w3.toNatClampNeg)).toNatClampNeg)) + (nI 1)), .int ((nI 48) + ((I 108) w3.toNatClampNeg)), .ref 116]) (E' := E) (I' := (u_I I 116 (upd (I 116) w7.toNatClampNeg p2))) (J' := J) (S' := S) am_e241 rfl rfl rfl rfl ?_
    refine w_is (k := 116) (n := 51) (jn := ((nI 48) + ((I 108) w3.toNatClampNeg)).toNatClampNeg) am_e241 rfl rfl (by decide) hf27 rfl ?_
    refine w_eI (uI_0 ..) ?_
    show am_ww 241 140 [.ref 99, .int p1, .int p2, .int w3, .int w7, .int w11, .int w14] [] E (u_I I 116 (upd (upd (I 116) w7.toNatClampNeg p2) (((nI 48) + ((I 108) w3.toNatClampNeg)).toNatClampNeg) (((upd (I 116) w7.toNatClampNeg p2) (((nI 48) + ((I 108) w3.toNatClampNeg)).toNatClampNeg)) + (nI 1)))) J S _
    refine w_st (i' := 220) (ls' := [.ref 99, .int p1, .int p2, .int w3, .int w7, .int w11, .int w14]) (st' := []) (E' := E) (I' := (u_I I 116 (upd (upd (I 116) w7.toNatClampNeg p2) (((nI 48) + ((I 108) w3.toNatClampNeg)).toNatClampNeg) (((upd (I 116) w7.toNatClampNeg p2) (((nI 48) + ((I 108) w3.toNatClampNeg)).toNatClampNeg)) + (nI 1))))) (J' := J) (S' := S) am_e241 rfl rfl rfl rfl ?_
    exact h
  by_cases c7 : ((I 106) w3.toNatClampNeg) = nI 7
  · replace h := h.2.2.2.2.2.2.2.1 c7
    refine w_to (i2 := 141) (by rw [c7]; first | done | rfl) ?_
    refine w_st (i' := 142) (ls' := [.ref 99, .int p1, .int p2, .int w3, .int w7, .int w11, .int w14]) (st' := [.ref 99]) (E' := E) (I' := I) (J' := J) (S' := S) am_e241 rfl rfl rfl rfl ?_
    refine w_st (i' := 143) (ls' := [.ref 99, .int p1, .int p2, .int w3, .int w7, .int w11, .int w14]) (st' := [.ref 116]) (E' := E) (I' := I) (J' := J) (S' := S) am_e241 rfl rfl rfl rfl ?_
    refine w_st (i' := 144) (ls' := [.ref 99, .int p1, .int p2, .int w3, .int w7, .int w11, .int w14]) (st' := [.int (nI 40), .ref 116]) (E' := E) (I' := I) (J' := J) (S' := S) am_e241 rfl rfl rfl rfl ?_
    refine w_st (i' := 145) (ls' := [.ref 99, .int p1, .int p2, .int w3, .int w7, .int w11, .int w14]) (st' := [.ref 99, .int (nI 40), .ref 116]) (E' := E) (I' := I) (J' := J) (S' := S) am_e241 rfl rfl rfl rfl ?_
    refine w_st (i' := 146) (ls' := [.ref 99, .int p1, .int p2, .int w3, .int w7, .int w11, .int w14]) (st' := [.ref 107, .int (nI 40), .ref 116]) (E' := E) (I' := I) (J' := J) (S' := S) am_e241 rfl rfl rfl rfl ?_
    refine w_st (i' := 147) (ls' := [.ref 99, .int p1, .int p2, .int w3, .int w7, .int w11, .int w14]) (st' := [.int w3, .ref 107, .int (nI 40), .ref 116]) (E' := E) (I' := I) (J' := J) (S' := S) am_e241 rfl rfl rfl rfl ?_
    refine w_ia (k := 107) (n := 128) (jn := w3.toNatClampNeg) am_e241 rfl rfl (by decide) hf4 rfl ?_
    refine w_st (i' := 149) (ls' := [.ref 99, .int p1, .int p2, .int w3, .int w7, .int w11, .int w14]) (st' := [.int ((nI 40) + ((I 107) w3.toNatClampNeg)), .ref 116]) (E' := E) (I' := I) (J' := J) (S' := S) am_e241 rfl rfl rfl rfl ?_
    refine w_st (i' := 150) (ls' := [.ref 99, .int p1, .int p2, .int w3, .int w7, .int w11, .int w14]) (st' := [.int p1, .int ((nI 40) + ((I 107) w3.toNatClampNeg)), .ref 116]) (E' := E) (I' := I) (J' := J) (S' := S) am_e241 rfl rfl rfl rfl ?_
    have hf28 := h.1
    replace h := h.2
    refine w_is (k := 116) (n := 51) (jn := ((nI 40) + ((I 107) w3.toNatClampNeg)).toNatClampNeg) am_e241 rfl rfl (by decide) hf28 rfl ?_
    show am_ww 241 151 [.ref 99, .int p1, .int p2, .int w3, .int w7, .int w11, .int w14] [] E (u_I I 116 (upd (I 116) (((nI 40) + ((I 107) w3.toNatClampNeg)).toNatClampNeg) p1)) J S _
    refine w_st (i' := 220) (ls' := [.ref 99, .int p1, .int p2, .int w3, .int w7, .int w11, .int w14]) (st' := []) (E' := E) (I' := (u_I I 116 (upd (I 116) (((nI 40) + ((I 107) w3.toNatClampNeg)).toNatClampNeg) p1))) (J' := J) (S' := S) am_e241 rfl rfl rfl rfl ?_
    exact h
  by_cases c8 : ((I 106) w3.toNatClampNeg) = nI 8
  · replace h := h.2.2.2.2.2.2.2.2.1 c8
    refine w_to (i2 := 152) (by rw [c8]; first | done | rfl) ?_
    refine w_st (i' := 153) (ls' := [.ref 99, .int p1, .int p2, .int w3, .int w7, .int w11, .int w14]) (st' := [.ref 99]) (E' := E) (I' := I) (J' := J) (S' := S) am_e241 rfl rfl rfl rfl ?_
    refine w_st (i' := 154) (ls' := [.ref 99, .int p1, .int p2, .int w3, .int w7, .int w11, .int w14]) (st' := [.ref 116]) (E' := E) (I' := I) (J' := J) (S' := S) am_e241 rfl rfl rfl rfl ?_
    refine w_st (i' := 155) (ls' := [.ref 99, .int p1, .int p2, .int w3, .int w7, .int w11, .int w14]) (st' := [.int (nI 40), .ref 116]) (E' := E) (I' := I) (J' := J) (S' := S) am_e241 rfl rfl rfl rfl ?_
    refine w_st (i' := 156) (ls' := [.ref 99, .int p1, .int p2, .int w3, .int w7, .int w11, .int w14]) (st' := [.ref 99, .int (nI 40), .ref 116]) (E' := E) (I' := I) (J' := J) (S' := S) am_e241 rfl rfl rfl rfl ?_
    refine w_st (i' := 157) (ls' := [.ref 99, .int p1, .int p2, .int w3, .int w7, .int w11, .int w14]) (st' := [.ref 107, .int (nI 40), .ref 116]) (E' := E) (I' := I) (J' := J) (S' := S) am_e241 rfl rfl rfl rfl ?_
    refine w_st (i' := 158) (ls' := [.ref 99, .int p1, .int p2, .int w3, .int w7, .int w11, .int w14]) (st' := [.int w3, .ref 107, .int (nI 40), .ref 116]) (E' := E) (I' := I) (J' := J) (S' := S) am_e241 rfl rfl rfl rfl ?_
    refine w_ia (k := 107) (n := 128) (jn := w3.toNatClampNeg) am_e241 rfl rfl (by decide) hf4 rfl ?_
    refine w_st (i' := 160) (ls' := [.ref 99, .int p1, .int p2, .int w3, .int w7, .int w11, .int w14]) (st' := [.int ((nI 40) + ((I 107) w3.toNatClampNeg)), .ref 116]) (E' := E) (I' := I) (J' := J) (S' := S) am_e241 rfl rfl rfl rfl ?_
    refine w_st (i' := 161) (ls' := [.ref 99, .int p1, .int p2, .int w3, .int w7, .int w11, .int w14]) (st' := [.ref 99, .int ((nI 40) + ((I 107) w3.toNatClampNeg)), .ref 116]) (E' := E) (I' := I) (J' := J) (S' := S) am_e241 rfl rfl rfl rfl ?_
    refine w_st (i' := 162) (ls' := [.ref 99, .int p1, .int p2, .int w3, .int w7, .int w11, .int w14]) (st' := [.ref 116, .int ((nI 40) + ((I 107) w3.toNatClampNeg)), .ref 116]) (E' := E) (I' := I) (J' := J) (S' := S) am_e241 rfl rfl rfl rfl ?_
    refine w_st (i' := 163) (ls' := [.ref 99, .int p1, .int p2, .int w3, .int w7, .int w11, .int w14]) (st' := [.int (nI 40), .ref 116, .int ((nI 40) + ((I 107) w3.toNatClampNeg)), .ref 116]) (E' := E) (I' := I) (J' := J) (S' := S) am_e241 rfl rfl rfl rfl ?_
    refine w_st (i' := 164) (ls' := [.ref 99, .int p1, .int p2, .int w3, .int w7, .int w11, .int w14]) (st' := [.ref 99, .int (nI 40), .ref 116, .int ((nI 40) + ((I 107) w3.toNatClampNeg)), .ref 116]) (E' := E) (I' := I) (J' := J) (S' := S) am_e241 rfl rfl rfl rfl ?_
    refine w_st (i' := 165) (ls' := [.ref 99, .int p1, .int p2, .int w3, .int w7, .int w11, .int w14]) (st' := [.ref 107, .int (nI 40), .ref 116, .int ((nI 40) + ((I 107) w3.toNatClampNeg)), .ref 116]) (E' := E) (I' := I) (J' := J) (S' := S) am_e241 rfl rfl rfl rfl ?_
    refine w_st (i' := 166) (ls' := [.ref 99, .int p1, .int p2, .int w3, .int w7, .int w11, .int w14]) (st' := [.int w3, .ref 107, .int (nI 40), .ref 116, .int ((nI 40) + ((I 107) w3.toNatClampNeg)), .ref 116]) (E' := E) (I' := I) (J' := J) (S' := S) am_e241 rfl rfl rfl rfl ?_
    refine w_ia (k := 107) (n := 128) (jn := w3.toNatClampNeg) am_e241 rfl rfl (by decide) hf4 rfl ?_
    refine w_st (i' := 168) (ls' := [.ref 99, .int p1, .int p2, .int w3, .int w7, .int w11, .int w14]) (st' := [.int ((nI 40) + ((I 107) w3.toNatClampNeg)), .ref 116, .int ((nI 40) + ((I 107) w3.toNatClampNeg)), .ref 116]) (E' := E) (I' := I) (J' := J) (S' := S) am_e241 rfl rfl rfl rfl ?_
    have hf29 := h.1
    replace h := h.2
    refine w_ia (k := 116) (n := 51) (jn := ((nI 40) + ((I 107) w3.toNatClampNeg)).toNatClampNeg) am_e241 rfl rfl (by decide) hf29 rfl ?_
    refine w_st (i' := 170) (ls' := [.ref 99, .int p1, .int p2, .int w3, .int w7, .int w11, .int w14]) (st' := [.int p1, .int ((I 116) (((nI 40) + ((I 107) w3.toNatClampNeg)).toNatClampNeg)), .int ((nI 40) + ((I 107) w3.toNatClampNeg)), .ref 116]) (E' := E) (I' := I) (J' := J) (S' := S) am_e241 rfl rfl rfl rfl ?_
    refine w_mg (i := 182) (ls' := [.ref 99, .int p1, .int p2, .int w3, .int w7, .int w11, .int w14]) (st' := [.int (if ((I 116) (((nI 40) + ((I 107) w3.toNatClampNeg)).toNatClampNeg)) = p1 then (-1) else ((I 116) (((nI 40) + ((I 107) w3.toNatClampNeg)).toNatClampNeg))), .int ((nI 40) + ((I 107) w3.toNatClampNeg)), .ref 116]) (fun hm => ?_) ?_
    · clear h
      refine w_if2 am_e241 rfl rfl (fun c => ?_) (fun c => ?_)
      · have m30 : ¬ (((I 116) (((nI 40) + ((I 107) w3.toNatClampNeg)).toNatClampNeg)) = p1) := (of_decide_eq_true c)
        refine w_st (i' := 174) (ls' := [.ref 99, .int p1, .int p2, .int w3, .int w7, .int w11, .int w14]) (st' := [.ref 99, .int ((nI 40) + ((I 107) w3.toNatClampNeg)), .ref 116]) (E' := E) (I' := I) (J' := J) (S' := S) am_e241 rfl rfl rfl rfl ?_
        refine w_st (i' := 175) (ls' := [.ref 99, .int p1, .int p2, .int w3, .int w7, .int w11, .int w14]) (st' := [.ref 116, .int ((nI 40) + ((I 107) w3.toNatClampNeg)), .ref 116]) (E' := E) (I' := I) (J' := J) (S' := S) am_e241 rfl rfl rfl rfl ?_
        refine w_st (i' := 176) (ls' := [.ref 99, .int p1, .int p2, .int w3, .int w7, .int w11, .int w14]) (st' := [.int (nI 40), .ref 116, .int ((nI 40) + ((I 107) w3.toNatClampNeg)), .ref 116]) (E' := E) (I' := I) (J' := J) (S' := S) am_e241 rfl rfl rfl rfl ?_
        refine w_st (i' := 177) (ls' := [.ref 99, .int p1, .int p2, .int w3, .int w7, .int w11, .int w14]) (st' := [.ref 99, .int (nI 40), .ref 116, .int ((nI 40) + ((I 107) w3.toNatClampNeg)), .ref 116]) (E' := E) (I' := I) (J' := J) (S' := S) am_e241 rfl rfl rfl rfl ?_
        refine w_st (i' := 178) (ls' := [.ref 99, .int p1, .int p2, .int w3, .int w7, .int w11, .int w14]) (st' := [.ref 107, .int (nI 40), .ref 116, .int ((nI 40) + ((I 107) w3.toNatClampNeg)), .ref 116]) (E' := E) (I' := I) (J' := J) (S' := S) am_e241 rfl rfl rfl rfl ?_
        refine w_st (i' := 179) (ls' := [.ref 99, .int p1, .int p2, .int w3, .int w7, .int w11, .int w14]) (st' := [.int w3, .ref 107, .int (nI 40), .ref 116, .int ((nI 40) + ((I 107) w3.toNatClampNeg)), .ref 116]) (E' := E) (I' := I) (J' := J) (S' := S) am_e241 rfl rfl rfl rfl ?_
        refine w_ia (k := 107) (n := 128) (jn := w3.toNatClampNeg) am_e241 rfl rfl (by decide) hf4 rfl ?_
        show am_ww 241 180 [.ref 99, .int p1, .int p2, .int w3, .int w7, .int w11, .int w14] [.int ((I 107) w3.toNatClampNeg), .int (nI 40), .ref 116, .int ((nI 40) + ((I 107) w3.toNatClampNeg)), .ref 116] E I J S _
        refine w_st (i' := 181) (ls' := [.ref 99, .int p1, .int p2, .int w3, .int w7, .int w11, .int w14]) (st' := [.int ((nI 40) + ((I 107) w3.toNatClampNeg)), .ref 116, .int ((nI 40) + ((I 107) w3.toNatClampNeg)), .ref 116]) (E' := E) (I' := I) (J' := J) (S' := S) am_e241 rfl rfl rfl rfl ?_
        refine w_ia (k := 116) (n := 51) (jn := ((nI 40) + ((I 107) w3.toNatClampNeg)).toNatClampNeg) am_e241 rfl rfl (by decide) hf29 rfl ?_
        show am_ww 241 182 [.ref 99, .int p1, .int p2, .int w3, .int w7, .int w11, .int w14] [.int ((I 116) (((nI 40) + ((I 107) w3.toNatClampNeg)).toNatClampNeg)), .int ((nI 40) + ((I 107) w3.toNatClampNeg)), .ref 116] E I J S _
        first | exact hm | (simp only [if_neg m30] at hm; exact hm)
      · have m30 : ((I 116) (((nI 40) + ((I 107) w3.toNatClampNeg)).toNatClampNeg)) = p1 := (Decidable.not_not.mp (of_decide_eq_false c))
        refine w_st (i' := 172) (ls' := [.ref 99, .int p1, .int p2, .int w3, .int w7, .int w11, .int w14]) (st' := [.int (-1), .int ((nI 40) + ((I 107) w3.toNatClampNeg)), .ref 116]) (E' := E) (I' := I) (J' := J) (S' := S) am_e241 rfl rfl rfl rfl ?_
        refine w_st (i' := 182) (ls' := [.ref 99, .int p1, .int p2, .int w3, .int w7, .int w11, .int w14]) (st' := [.int (-1), .int ((nI 40) + ((I 107) w3.toNatClampNeg)), .ref 116]) (E' := E) (I' := I) (J' := J) (S' := S) am_e241 rfl rfl rfl rfl ?_
        first | exact hm | (simp only [if_pos m30] at hm; exact hm)
    refine w_var (fun w31 => am_ww 241 182 [.ref 99, .int p1, .int p2, .int w3, .int w7, .int w11, .int w14] [.int w31, .int ((nI 40) + ((I 107) w3.toNatClampNeg)), .ref 116] E I J S _) (if ((I 116) (((nI 40) + ((I 107) w3.toNatClampNeg)).toNatClampNeg)) = p1 then (-1) else ((I 116) (((nI 40) + ((I 107) w3.toNatClampNeg)).toNatClampNeg))) (fun w31 hw31 => ?_)
    replace h := h w31 hw31
    refine w_is (k := 116) (n := 51) (jn := ((nI 40) + ((I 107) w3.toNatClampNeg)).toNatClampNeg) am_e241 rfl rfl (by decide) hf29 rfl ?_
    show am_ww 241 183 [.ref 99, .int p1, .int p2, .int w3, .int w7, .int w11, .int w14] [] E (u_I I 116 (upd (I 116) (((nI 40) + ((I 107) w3.toNatClampNeg)).toNatClampNeg) w31)) J S _
    refine w_st (i' := 220) (ls' := [.ref 99, .int p1, .int p2, .int w3, .int w7, .int w11, .int w14]) (st' := []) (E' := E) (I' := (u_I I 116 (upd (I 116) (((nI 40) + ((I 107) w3.toNatClampNeg)).toNatClampNeg) w31))) (J' := J) (S' := S) am_e241 rfl rfl rfl rfl ?_
    exact h
  by_cases c9 : ((I 106) w3.toNatClampNeg) = nI 9
  · replace h := h.2.2.2.2.2.2.2.2.2.1 c9
    refine w_to (i2 := 184) (by rw [c9]; first | done | rfl) ?_
    refine w_st (i' := 185) (ls' := [.ref 99, .int p1, .int p2, .int w3, .int w7, .int w11, .int w14]) (st' := [.ref 99]) (E' := E) (I' := I) (J' := J) (S' := S) am_e241 rfl rfl rfl rfl ?_
    refine w_st (i' := 186) (ls' := [.ref 99, .int p1, .int p2, .int w3, .int w7, .int w11, .int w14]) (st' := [.ref 109]) (E' := E) (I' := I) (J' := J) (S' := S) am_e241 rfl rfl rfl rfl ?_
    refine w_st (i' := 187) (ls' := [.ref 99, .int p1, .int p2, .int w3, .int w7, .int w11, .int w14]) (st' := [.int w3, .ref 109]) (E' := E) (I' := I) (J' := J) (S' := S) am_e241 rfl rfl rfl rfl ?_
    refine w_ia (k := 109) (n := 128) (jn := w3.toNatClampNeg) am_e241 rfl rfl (by decide) hf4 rfl ?_
    refine w_st (i' := 189) (ls' := [.ref 99, .int p1, .int p2, .int w3, .int w7, .int w11, .int ((I 109) w3.toNatClampNeg)]) (st' := []) (E' := E) (I' := I) (J' := J) (S' := S) am_e241 rfl rfl rfl rfl ?_
    refine w_st (i' := 220) (ls' := [.ref 99, .int p1, .int p2, .int w3, .int w7, .int w11, .int ((I 109) w3.toNatClampNeg)]) (st' := []) (E' := E) (I' := I) (J' := J) (S' := S) am_e241 rfl rfl rfl rfl ?_
    exact h
  by_cases c10 : ((I 106) w3.toNatClampNeg) = nI 10
  · replace h := h.2.2.2.2.2.2.2.2.2.2.1 c10
    refine w_to (i2 := 190) (by rw [c10]; first | done | rfl) ?_
    refine w_st (i' := 191) (ls' := [.ref 99, .int p1, .int p2, .int w3, .int w7, .int w11, .int w14]) (st' := [.ref 99]) (E' := E) (I' := I) (J' := J) (S' := S) am_e241 rfl rfl rfl rfl ?_
    refine w_st (i' := 192) (ls' := [.ref 99, .int p1, .int p2, .int w3, .int w7, .int w11, .int w14]) (st' := [.ref 116]) (E' := E) (I' := I) (J' := J) (S' := S) am_e241 rfl rfl rfl rfl ?_
    refine w_st (i' := 193) (ls' := [.ref 99, .int p1, .int p2, .int w3, .int w7, .int w11, .int w14]) (st' := [.int w7, .ref 116]) (E' := E) (I' := I) (J' := J) (S' := S) am_e241 rfl rfl rfl rfl ?_
    have hf32 := h.1
    replace h := h.2
    refine w_ia (k := 116) (n := 51) (jn := w7.toNatClampNeg) am_e241 rfl rfl (by decide) hf32 rfl ?_
    refine w_mg (i := 201) (ls' := [.ref 99, .int p1, .int p2, .int w3, .int w7, .int w11, .int w14]) (st' := [.int (if ((I 116) w7.toNatClampNeg) = 0 then ((I 109) w3.toNatClampNeg) else w14)]) (fun hm => ?_) ?_
    · clear h
      refine w_if1 am_e241 rfl rfl (fun c => ?_) (fun c => ?_)
      · have m33 : ¬ (((I 116) w7.toNatClampNeg) = 0) := (of_decide_eq_true c)
        refine w_st (i' := 201) (ls' := [.ref 99, .int p1, .int p2, .int w3, .int w7, .int w11, .int w14]) (st' := [.int w14]) (E' := E) (I' := I) (J' := J) (S' := S) am_e241 rfl rfl rfl rfl ?_
        first | exact hm | (simp only [if_neg m33] at hm; exact hm)
      · have m33 : ((I 116) w7.toNatClampNeg) = 0 := (Decidable.not_not.mp (of_decide_eq_false c))
        refine w_st (i' := 196) (ls' := [.ref 99, .int p1, .int p2, .int w3, .int w7, .int w11, .int w14]) (st' := [.ref 99]) (E' := E) (I' := I) (J' := J) (S' := S) am_e241 rfl rfl rfl rfl ?_
        refine w_st (i' := 197) (ls' := [.ref 99, .int p1, .int p2, .int w3, .int w7, .int w11, .int w14]) (st' := [.ref 109]) (E' := E) (I' := I) (J' := J) (S' := S) am_e241 rfl rfl rfl rfl ?_
        refine w_st (i' := 198) (ls' := [.ref 99, .int p1, .int p2, .int w3, .int w7, .int w11, .int w14]) (st' := [.int w3, .ref 109]) (E' := E) (I' := I) (J' := J) (S' := S) am_e241 rfl rfl rfl rfl ?_
        refine w_ia (k := 109) (n := 128) (jn := w3.toNatClampNeg) am_e241 rfl rfl (by decide) hf4 rfl ?_
        show am_ww 241 199 [.ref 99, .int p1, .int p2, .int w3, .int w7, .int w11, .int w14] [.int ((I 109) w3.toNatClampNeg)] E I J S _
        refine w_st (i' := 201) (ls' := [.ref 99, .int p1, .int p2, .int w3, .int w7, .int w11, .int w14]) (st' := [.int ((I 109) w3.toNatClampNeg)]) (E' := E) (I' := I) (J' := J) (S' := S) am_e241 rfl rfl rfl rfl ?_
        first | exact hm | (simp only [if_pos m33] at hm; exact hm)
    refine w_var (fun w34 => am_ww 241 201 [.ref 99, .int p1, .int p2, .int w3, .int w7, .int w11, .int w14] [.int w34] E I J S _) (if ((I 116) w7.toNatClampNeg) = 0 then ((I 109) w3.toNatClampNeg) else w14) (fun w34 hw34 => ?_)
    replace h := h w34 hw34
    refine w_st (i' := 202) (ls' := [.ref 99, .int p1, .int p2, .int w3, .int w7, .int w11, .int w34]) (st' := []) (E' := E) (I' := I) (J' := J) (S' := S) am_e241 rfl rfl rfl rfl ?_
    refine w_st (i' := 220) (ls' := [.ref 99, .int p1, .int p2, .int w3, .int w7, .int w11, .int w34]) (st' := []) (E' := E) (I' := I) (J' := J) (S' := S) am_e241 rfl rfl rfl rfl ?_
    exact h
  by_cases c11 : ((I 106) w3.toNatClampNeg) = nI 11
  · replace h := h.2.2.2.2.2.2.2.2.2.2.2.1 c11
    refine w_to (i2 := 203) (by rw [c11]; first | done | rfl) ?_
    refine w_st (i' := 204) (ls' := [.ref 99, .int p1, .int p2, .int w3, .int w7, .int w11, .int w14]) (st' := [.ref 99]) (E' := E) (I' := I) (J' := J) (S' := S) am_e241 rfl rfl rfl rfl ?_
    refine w_st (i' := 205) (ls' := [.ref 99, .int p1, .int p2, .int w3, .int w7, .int w11, .int w14]) (st' := [.ref 116]) (E' := E) (I' := I) (J' := J) (S' := S) am_e241 rfl rfl rfl rfl ?_
    refine w_st (i' := 206) (ls' := [.ref 99, .int p1, .int p2, .int w3, .int w7, .int w11, .int w14]) (st' := [.int w7, .ref 116]) (E' := E) (I' := I) (J' := J) (S' := S) am_e241 rfl rfl rfl rfl ?_
    have hf35 := h.1
    replace h := h.2
    refine w_ia (k := 116) (n := 51) (jn := w7.toNatClampNeg) am_e241 rfl rfl (by decide) hf35 rfl ?_
    refine w_st (i' := 208) (ls' := [.ref 99, .int p1, .int p2, .int w3, .int w7, .int w11, .int w14]) (st' := [.ref 99, .int ((I 116) w7.toNatClampNeg)]) (E' := E) (I' := I) (J' := J) (S' := S) am_e241 rfl rfl rfl rfl ?_
    refine w_st (i' := 209) (ls' := [.ref 99, .int p1, .int p2, .int w3, .int w7, .int w11, .int w14]) (st' := [.ref 116, .int ((I 116) w7.toNatClampNeg)]) (E' := E) (I' := I) (J' := J) (S' := S) am_e241 rfl rfl rfl rfl ?_
    refine w_st (i' := 210) (ls' := [.ref 99, .int p1, .int p2, .int w3, .int w7, .int w11, .int w14]) (st' := [.int w11, .ref 116, .int ((I 116) w7.toNatClampNeg)]) (E' := E) (I' := I) (J' := J) (S' := S) am_e241 rfl rfl rfl rfl ?_
    have hf36 := h.1
    replace h := h.2
    refine w_ia (k := 116) (n := 51) (jn := w11.toNatClampNeg) am_e241 rfl rfl (by decide) hf36 rfl ?_
    refine w_mg (i := 218) (ls' := [.ref 99, .int p1, .int p2, .int w3, .int w7, .int w11, .int w14]) (st' := [.int (if ((I 116) w11.toNatClampNeg) ≤ ((I 116) w7.toNatClampNeg) then w14 else ((I 109) w3.toNatClampNeg))]) (fun hm => ?_) ?_
    · clear h
      refine w_if2 am_e241 rfl rfl (fun c => ?_) (fun c => ?_)
      · have m37 : ((I 116) w11.toNatClampNeg) ≤ ((I 116) w7.toNatClampNeg) := (of_decide_eq_true c)
        refine w_st (i' := 218) (ls' := [.ref 99, .int p1, .int p2, .int w3, .int w7, .int w11, .int w14]) (st' := [.int w14]) (E' := E) (I' := I) (J' := J) (S' := S) am_e241 rfl rfl rfl rfl ?_
        first | exact hm | (simp only [if_pos m37] at hm; exact hm)
      · have m37 : ¬ (((I 116) w11.toNatClampNeg) ≤ ((I 116) w7.toNatClampNeg)) := (of_decide_eq_false c)
        refine w_st (i' := 213) (ls' := [.ref 99, .int p1, .int p2, .int w3, .int w7, .int w11, .int w14]) (st' := [.ref 99]) (E' := E) (I' := I) (J' := J) (S' := S) am_e241 rfl rfl rfl rfl ?_
        refine w_st (i' := 214) (ls' := [.ref 99, .int p1, .int p2, .int w3, .int w7, .int w11, .int w14]) (st' := [.ref 109]) (E' := E) (I' := I) (J' := J) (S' := S) am_e241 rfl rfl rfl rfl ?_
        refine w_st (i' := 215) (ls' := [.ref 99, .int p1, .int p2, .int w3, .int w7, .int w11, .int w14]) (st' := [.int w3, .ref 109]) (E' := E) (I' := I) (J' := J) (S' := S) am_e241 rfl rfl rfl rfl ?_
        refine w_ia (k := 109) (n := 128) (jn := w3.toNatClampNeg) am_e241 rfl rfl (by decide) hf4 rfl ?_
        show am_ww 241 216 [.ref 99, .int p1, .int p2, .int w3, .int w7, .int w11, .int w14] [.int ((I 109) w3.toNatClampNeg)] E I J S _
        refine w_st (i' := 218) (ls' := [.ref 99, .int p1, .int p2, .int w3, .int w7, .int w11, .int w14]) (st' := [.int ((I 109) w3.toNatClampNeg)]) (E' := E) (I' := I) (J' := J) (S' := S) am_e241 rfl rfl rfl rfl ?_
        first | exact hm | (simp only [if_neg m37] at hm; exact hm)
    refine w_var (fun w38 => am_ww 241 218 [.ref 99, .int p1, .int p2, .int w3, .int w7, .int w11, .int w14] [.int w38] E I J S _) (if ((I 116) w11.toNatClampNeg) ≤ ((I 116) w7.toNatClampNeg) then w14 else ((I 109) w3.toNatClampNeg)) (fun w38 hw38 => ?_)
    replace h := h w38 hw38
    refine w_st (i' := 219) (ls' := [.ref 99, .int p1, .int p2, .int w3, .int w7, .int w11, .int w38]) (st' := []) (E' := E) (I' := I) (J' := J) (S' := S) am_e241 rfl rfl rfl rfl ?_
    refine w_st (i' := 220) (ls' := [.ref 99, .int p1, .int p2, .int w3, .int w7, .int w11, .int w38]) (st' := []) (E' := E) (I' := I) (J' := J) (S' := S) am_e241 rfl rfl rfl rfl ?_
    exact h
  replace h := h.2.2.2.2.2.2.2.2.2.2.2.2 c0 c1 c2 c3 c4 c5 c6 c7 c8 c9 c10 c11
  refine w_to (i2 := 220) (am_tb_out (lo := 0) (up := 11) (by intro q h1 h2; have : q = 0 ∨ q = 1 ∨ q = 2 ∨ q = 3 ∨ q = 4 ∨ q = 5 ∨ q = 6 ∨ q = 7 ∨ q = 8 ∨ q = 9 ∨ q = 10 ∨ q = 11 := (by omega); rcases this with rfl | rfl | rfl | rfl | rfl | rfl | rfl | rfl | rfl | rfl | rfl | rfl <;> assumption)) ?_
  exact h
theorem g241_220 {x1 : Int32} {d2 : Value} {x3 : Int32} {d4 : Value} {d5 : Value} {x6 : Int32} {E : am_Ev} {I : Nat → Nat → Int32} {J : Nat → Nat → Int64} {S : Nat → Nat → Option Nat} {Q : am_Qt} (hd2 : am_isL d2 = false) (hd4 : am_isL d4 = false) (hd5 : am_isL d5 = false) (h : ∀ w1 : Int32, w1 = (((nI 16) + ((nI 6) * x1)) + (nI 5)) → (vp_in w1 51 ∧ (vp_in x3 128 ∧ ((((I 106) x3.toNatClampNeg) < (nI 9) → (∀ w4 : Int32, w4 = (((nI 16) + ((nI 6) * x1)) + (nI 4)) → (vp_in w4 51 ∧ (Q (.inl none) E (u_I I 116 (upd (upd (I 116) w1.toNatClampNeg (((I 116) w1.toNatClampNeg) + (nI 0))) w4.toNatClampNeg x6)) J S)))) ∧ (¬ ((I 106) x3.toNatClampNeg) < (nI 9) → (((nI 11) < ((I 106) x3.toNatClampNeg) → (∀ w6 : Int32, w6 = (((nI 16) + ((nI 6) * x1)) + (nI 4)) → (vp_in w6 51 ∧ (Q (.inl none) E (u_I I 116 (upd (upd (I 116) w1.toNatClampNeg (((I 116) w1.toNatClampNeg) + (nI 0))) w6.toNatClampNeg x6)) J S)))) ∧ (¬ (nI 11) < ((I 106) x3.toNatClampNeg) → (∀ w8 : Int32, w8 = (((nI 16) + ((nI 6) * x1)) + (nI 4)) → (vp_in w8 51 ∧ (Q (.inl none) E (u_I I 116 (upd (upd (I 116) w1.toNatClampNeg (((I 116) w1.toNatClampNeg) + (nI 1))) w8.toNatClampNeg x6)) J S)))))))))) : am_ww 241 220 [.ref 99, .int x1, d2, .int x3, d4, d5, .int x6] [] E I J S Q := by
  refine w_st (i' := 221) (ls' := [.ref 99, .int x1, d2, .int x3, d4, d5, .int x6]) (st' := [.ref 99]) (E' := E) (I' := I) (J' := J) (S' := S) am_e241 rfl rfl rfl rfl ?_
  refine w_st (i' := 222) (ls' := [.ref 99, .int x1, d2, .int x3, d4, d5, .int x6]) (st' := [.ref 116]) (E' := E) (I' := I) (J' := J) (S' := S) am_e241 rfl rfl rfl rfl ?_
  refine w_st (i' := 223) (ls' := [.ref 99, .int x1, d2, .int x3, d4, d5, .int x6]) (st' := [.int x1, .ref 116]) (E' := E) (I' := I) (J' := J) (S' := S) am_e241 rfl rfl rfl rfl ?_
  refine w_st (i' := 224) (ls' := [.ref 99, .int x1, d2, .int x3, d4, d5, .int x6]) (st' := [.int (nI 5), .int x1, .ref 116]) (E' := E) (I' := I) (J' := J) (S' := S) am_e241 rfl rfl rfl rfl ?_
  refine w_cI am_e241 rfl rfl (as := [.int x1, .int (nI 5)]) (rest := [.ref 116]) rfl rfl ?_
  show am_ww 222 0 [.int x1, .int (nI 5)] [] E I J S _
  refine w_st (i' := 1) (ls' := [.int x1, .int (nI 5)]) (st' := [.int (nI 16)]) (E' := E) (I' := I) (J' := J) (S' := S) am_e222 rfl rfl rfl rfl ?_
  refine w_st (i' := 2) (ls' := [.int x1, .int (nI 5)]) (st' := [.int (nI 6), .int (nI 16)]) (E' := E) (I' := I) (J' := J) (S' := S) am_e222 rfl rfl rfl rfl ?_
  refine w_st (i' := 3) (ls' := [.int x1, .int (nI 5)]) (st' := [.int x1, .int (nI 6), .int (nI 16)]) (E' := E) (I' := I) (J' := J) (S' := S) am_e222 rfl rfl rfl rfl ?_
  refine w_st (i' := 4) (ls' := [.int x1, .int (nI 5)]) (st' := [.int ((nI 6) * x1), .int (nI 16)]) (E' := E) (I' := I) (J' := J) (S' := S) am_e222 rfl rfl rfl rfl ?_
  refine w_st (i' := 5) (ls' := [.int x1, .int (nI 5)]) (st' := [.int ((nI 16) + ((nI 6) * x1))]) (E' := E) (I' := I) (J' := J) (S' := S) am_e222 rfl rfl rfl rfl ?_
  refine w_st (i' := 6) (ls' := [.int x1, .int (nI 5)]) (st' := [.int (nI 5), .int ((nI 16) + ((nI 6) * x1))]) (E' := E) (I' := I) (J' := J) (S' := S) am_e222 rfl rfl rfl rfl ?_
  refine w_st (i' := 7) (ls' := [.int x1, .int (nI 5)]) (st' := [.int (((nI 16) + ((nI 6) * x1)) + (nI 5))]) (E' := E) (I' := I) (J' := J) (S' := S) am_e222 rfl rfl rfl rfl ?_
  refine w_ri am_e222 rfl rfl (q_mkI ?_)
  show am_ww 241 225 [.ref 99, .int x1, d2, .int x3, d4, d5, .int x6] [.int (((nI 16) + ((nI 6) * x1)) + (nI 5)), .ref 116] E I J S _
  refine w_var (fun w1 => am_ww 241 225 [.ref 99, .int x1, d2, .int x3, d4, d5, .int x6] [.int w1, .ref 116] E I J S _) (((nI 16) + ((nI 6) * x1)) + (nI 5)) (fun w1 hw1 => ?_)
  replace h := h w1 hw1
  refine w_st (i' := 226) (ls' := [.ref 99, .int x1, d2, .int x3, d4, d5, .int x6]) (st' := [.int w1, .ref 116, .int w1, .ref 116]) (E' := E) (I' := I) (J' := J) (S' := S) am_e241 rfl rfl rfl rfl ?_
  have hf2 := h.1
  replace h := h.2
  refine w_ia (k := 116) (n := 51) (jn := w1.toNatClampNeg) am_e241 rfl rfl (by decide) hf2 rfl ?_
  refine w_st (i' := 228) (ls' := [.ref 99, .int x1, d2, .int x3, d4, d5, .int x6]) (st' := [.ref 99, .int ((I 116) w1.toNatClampNeg), .int w1, .ref 116]) (E' := E) (I' := I) (J' := J) (S' := S) am_e241 rfl rfl rfl rfl ?_
  refine w_st (i' := 229) (ls' := [.ref 99, .int x1, d2, .int x3, d4, d5, .int x6]) (st' := [.ref 106, .int ((I 116) w1.toNatClampNeg), .int w1, .ref 116]) (E' := E) (I' := I) (J' := J) (S' := S) am_e241 rfl rfl rfl rfl ?_
  refine w_st (i' := 230) (ls' := [.ref 99, .int x1, d2, .int x3, d4, d5, .int x6]) (st' := [.int x3, .ref 106, .int ((I 116) w1.toNatClampNeg), .int w1, .ref 116]) (E' := E) (I' := I) (J' := J) (S' := S) am_e241 rfl rfl rfl rfl ?_
  have hf3 := h.1
  replace h := h.2
  refine w_ia (k := 106) (n := 128) (jn := x3.toNatClampNeg) am_e241 rfl rfl (by decide) hf3 rfl ?_
  refine w_st (i' := 232) (ls' := [.ref 99, .int x1, d2, .int x3, d4, d5, .int x6]) (st' := [.int (nI 9), .int ((I 106) x3.toNatClampNeg), .int ((I 116) w1.toNatClampNeg), .int w1, .ref 116]) (E' := E) (I' := I) (J' := J) (S' := S) am_e241 rfl rfl rfl rfl ?_
  refine w_st (i' := 233) (ls' := [.ref 99, .int x1, d2, .int x3, d4, d5, .int x6]) (st' := [.int (nI 11), .int (nI 9), .int ((I 106) x3.toNatClampNeg), .int ((I 116) w1.toNatClampNeg), .int w1, .ref 116]) (E' := E) (I' := I) (J' := J) (S' := S) am_e241 rfl rfl rfl rfl ?_
  refine w_cI am_e241 rfl rfl (as := [.int ((I 106) x3.toNatClampNeg), .int (nI 9), .int (nI 11)]) (rest := [.int ((I 116) w1.toNatClampNeg), .int w1, .ref 116]) rfl rfl ?_
  show am_ww 232 0 [.int ((I 106) x3.toNatClampNeg), .int (nI 9), .int (nI 11)] [] E I J S _
  refine w_st (i' := 1) (ls' := [.int ((I 106) x3.toNatClampNeg), .int (nI 9), .int (nI 11)]) (st' := [.int ((I 106) x3.toNatClampNeg)]) (E' := E) (I' := I) (J' := J) (S' := S) am_e232 rfl rfl rfl rfl ?_
  refine w_st (i' := 2) (ls' := [.int ((I 106) x3.toNatClampNeg), .int (nI 9), .int (nI 11)]) (st' := [.int (nI 9), .int ((I 106) x3.toNatClampNeg)]) (E' := E) (I' := I) (J' := J) (S' := S) am_e232 rfl rfl rfl rfl ?_
  refine w_if2 am_e232 rfl rfl (fun c => ?_) (fun c => ?_)
  · replace h := h.1 (of_decide_eq_true c)
    refine w_st (i' := 9) (ls' := [.int ((I 106) x3.toNatClampNeg), .int (nI 9), .int (nI 11)]) (st' := [.int (nI 0)]) (E' := E) (I' := I) (J' := J) (S' := S) am_e232 rfl rfl rfl rfl ?_
    refine w_end (E' := E) (I' := I) (J' := J) (S' := S) am_e232 rfl rfl rfl (q_mkI ?_)
    show am_ww 241 234 [.ref 99, .int x1, d2, .int x3, d4, d5, .int x6] [.int (nI 0), .int ((I 116) w1.toNatClampNeg), .int w1, .ref 116] E I J S _
    refine w_st (i' := 237) (ls' := [.ref 99, .int x1, d2, .int x3, d4, d5, .int x6]) (st' := [.int ((I 116) w1.toNatClampNeg), .int w1, .ref 116]) (E' := E) (I' := I) (J' := J) (S' := S) am_e241 rfl rfl rfl rfl ?_
    refine w_st (i' := 238) (ls' := [.ref 99, .int x1, d2, .int x3, d4, d5, .int x6]) (st' := [.int (nI 0), .int ((I 116) w1.toNatClampNeg), .int w1, .ref 116]) (E' := E) (I' := I) (J' := J) (S' := S) am_e241 rfl rfl rfl rfl ?_
    refine w_st (i' := 239) (ls' := [.ref 99, .int x1, d2, .int x3, d4, d5, .int x6]) (st' := [.int (((I 116) w1.toNatClampNeg) + (nI 0)), .int w1, .ref 116]) (E' := E) (I' := I) (J' := J) (S' := S) am_e241 rfl rfl rfl rfl ?_
    refine w_is (k := 116) (n := 51) (jn := w1.toNatClampNeg) am_e241 rfl rfl (by decide) hf2 rfl ?_
    show am_ww 241 240 [.ref 99, .int x1, d2, .int x3, d4, d5, .int x6] [] E (u_I I 116 (upd (I 116) w1.toNatClampNeg (((I 116) w1.toNatClampNeg) + (nI 0)))) J S _
    refine w_st (i' := 241) (ls' := [.ref 99, .int x1, d2, .int x3, d4, d5, .int x6]) (st' := [.ref 99]) (E' := E) (I' := (u_I I 116 (upd (I 116) w1.toNatClampNeg (((I 116) w1.toNatClampNeg) + (nI 0))))) (J' := J) (S' := S) am_e241 rfl rfl rfl rfl ?_
    refine w_st (i' := 242) (ls' := [.ref 99, .int x1, d2, .int x3, d4, d5, .int x6]) (st' := [.ref 116]) (E' := E) (I' := (u_I I 116 (upd (I 116) w1.toNatClampNeg (((I 116) w1.toNatClampNeg) + (nI 0))))) (J' := J) (S' := S) am_e241 rfl rfl rfl rfl ?_
    refine w_st (i' := 243) (ls' := [.ref 99, .int x1, d2, .int x3, d4, d5, .int x6]) (st' := [.int x1, .ref 116]) (E' := E) (I' := (u_I I 116 (upd (I 116) w1.toNatClampNeg (((I 116) w1.toNatClampNeg) + (nI 0))))) (J' := J) (S' := S) am_e241 rfl rfl rfl rfl ?_
    refine w_st (i' := 244) (ls' := [.ref 99, .int x1, d2, .int x3, d4, d5, .int x6]) (st' := [.int (nI 4), .int x1, .ref 116]) (E' := E) (I' := (u_I I 116 (upd (I 116) w1.toNatClampNeg (((I 116) w1.toNatClampNeg) + (nI 0))))) (J' := J) (S' := S) am_e241 rfl rfl rfl rfl ?_
    refine w_cI am_e241 rfl rfl (as := [.int x1, .int (nI 4)]) (rest := [.ref 116]) rfl rfl ?_
    show am_ww 222 0 [.int x1, .int (nI 4)] [] E (u_I I 116 (upd (I 116) w1.toNatClampNeg (((I 116) w1.toNatClampNeg) + (nI 0)))) J S _
    refine w_st (i' := 1) (ls' := [.int x1, .int (nI 4)]) (st' := [.int (nI 16)]) (E' := E) (I' := (u_I I 116 (upd (I 116) w1.toNatClampNeg (((I 116) w1.toNatClampNeg) + (nI 0))))) (J' := J) (S' := S) am_e222 rfl rfl rfl rfl ?_
    refine w_st (i' := 2) (ls' := [.int x1, .int (nI 4)]) (st' := [.int (nI 6), .int (nI 16)]) (E' := E) (I' := (u_I I 116 (upd (I 116) w1.toNatClampNeg (((I 116) w1.toNatClampNeg) + (nI 0))))) (J' := J) (S' := S) am_e222 rfl rfl rfl rfl ?_
    refine w_st (i' := 3) (ls' := [.int x1, .int (nI 4)]) (st' := [.int x1, .int (nI 6), .int (nI 16)]) (E' := E) (I' := (u_I I 116 (upd (I 116) w1.toNatClampNeg (((I 116) w1.toNatClampNeg) + (nI 0))))) (J' := J) (S' := S) am_e222 rfl rfl rfl rfl ?_
    refine w_st (i' := 4) (ls' := [.int x1, .int (nI 4)]) (st' := [.int ((nI 6) * x1), .int (nI 16)]) (E' := E) (I' := (u_I I 116 (upd (I 116) w1.toNatClampNeg (((I 116) w1.toNatClampNeg) + (nI 0))))) (J' := J) (S' := S) am_e222 rfl rfl rfl rfl ?_
    refine w_st (i' := 5) (ls' := [.int x1, .int (nI 4)]) (st' := [.int ((nI 16) + ((nI 6) * x1))]) (E' := E) (I' := (u_I I 116 (upd (I 116) w1.toNatClampNeg (((I 116) w1.toNatClampNeg) + (nI 0))))) (J' := J) (S' := S) am_e222 rfl rfl rfl rfl ?_
    refine w_st (i' := 6) (ls' := [.int x1, .int (nI 4)]) (st' := [.int (nI 4), .int ((nI 16) + ((nI 6) * x1))]) (E' := E) (I' := (u_I I 116 (upd (I 116) w1.toNatClampNeg (((I 116) w1.toNatClampNeg) + (nI 0))))) (J' := J) (S' := S) am_e222 rfl rfl rfl rfl ?_
    refine w_st (i' := 7) (ls' := [.int x1, .int (nI 4)]) (st' := [.int (((nI 16) + ((nI 6) * x1)) + (nI 4))]) (E' := E) (I' := (u_I I 116 (upd (I 116) w1.toNatClampNeg (((I 116) w1.toNatClampNeg) + (nI 0))))) (J' := J) (S' := S) am_e222 rfl rfl rfl rfl ?_
    refine w_ri am_e222 rfl rfl (q_mkI ?_)
    show am_ww 241 245 [.ref 99, .int x1, d2, .int x3, d4, d5, .int x6] [.int (((nI 16) + ((nI 6) * x1)) + (nI 4)), .ref 116] E (u_I I 116 (upd (I 116) w1.toNatClampNeg (((I 116) w1.toNatClampNeg) + (nI 0)))) J S _
    refine w_var (fun w4 => am_ww 241 245 [.ref 99, .int x1, d2, .int x3, d4, d5, .int x6] [.int w4, .ref 116] E (u_I I 116 (upd (I 116) w1.toNatClampNeg (((I 116) w1.toNatClampNeg) + (nI 0)))) J S _) (((nI 16) + ((nI 6) * x1)) + (nI 4)) (fun w4 hw4 => ?_)
    replace h := h w4 hw4
    refine w_st (i' := 246) (ls' := [.ref 99, .int x1, d2, .int x3, d4, d5, .int x6]) (st' := [.int x6, .int w4, .ref 116]) (E' := E) (I' := (u_I I 116 (upd (I 116) w1.toNatClampNeg (((I 116) w1.toNatClampNeg) + (nI 0))))) (J' := J) (S' := S) am_e241 rfl rfl rfl rfl ?_
    have hf5 := h.1
    replace h := h.2
    refine w_is (k := 116) (n := 51) (jn := w4.toNatClampNeg) am_e241 rfl rfl (by decide) hf5 rfl ?_
    refine w_eI (uI_0 ..) ?_
    show am_ww 241 247 [.ref 99, .int x1, d2, .int x3, d4, d5, .int x6] [] E (u_I I 116 (upd (upd (I 116) w1.toNatClampNeg (((I 116) w1.toNatClampNeg) + (nI 0))) w4.toNatClampNeg x6)) J S _
    exact w_end am_e241 rfl rfl rfl h
  · replace h := h.2 (of_decide_eq_false c)
    refine w_st (i' := 4) (ls' := [.int ((I 106) x3.toNatClampNeg), .int (nI 9), .int (nI 11)]) (st' := [.int ((I 106) x3.toNatClampNeg)]) (E' := E) (I' := I) (J' := J) (S' := S) am_e232 rfl rfl rfl rfl ?_
    refine w_st (i' := 5) (ls' := [.int ((I 106) x3.toNatClampNeg), .int (nI 9), .int (nI 11)]) (st' := [.int (nI 11), .int ((I 106) x3.toNatClampNeg)]) (E' := E) (I' := I) (J' := J) (S' := S) am_e232 rfl rfl rfl rfl ?_
    refine w_if2 am_e232 rfl rfl (fun c => ?_) (fun c => ?_)
    · replace h := h.1 (of_decide_eq_true c)
      refine w_st (i' := 9) (ls' := [.int ((I 106) x3.toNatClampNeg), .int (nI 9), .int (nI 11)]) (st' := [.int (nI 0)]) (E' := E) (I' := I) (J' := J) (S' := S) am_e232 rfl rfl rfl rfl ?_
      refine w_end (E' := E) (I' := I) (J' := J) (S' := S) am_e232 rfl rfl rfl (q_mkI ?_)
      show am_ww 241 234 [.ref 99, .int x1, d2, .int x3, d4, d5, .int x6] [.int (nI 0), .int ((I 116) w1.toNatClampNeg), .int w1, .ref 116] E I J S _
      refine w_st (i' := 237) (ls' := [.ref 99, .int x1, d2, .int x3, d4, d5, .int x6]) (st' := [.int ((I 116) w1.toNatClampNeg), .int w1, .ref 116]) (E' := E) (I' := I) (J' := J) (S' := S) am_e241 rfl rfl rfl rfl ?_
      refine w_st (i' := 238) (ls' := [.ref 99, .int x1, d2, .int x3, d4, d5, .int x6]) (st' := [.int (nI 0), .int ((I 116) w1.toNatClampNeg), .int w1, .ref 116]) (E' := E) (I' := I) (J' := J) (S' := S) am_e241 rfl rfl rfl rfl ?_
      refine w_st (i' := 239) (ls' := [.ref 99, .int x1, d2, .int x3, d4, d5, .int x6]) (st' := [.int (((I 116) w1.toNatClampNeg) + (nI 0)), .int w1, .ref 116]) (E' := E) (I' := I) (J' := J) (S' := S) am_e241 rfl rfl rfl rfl ?_
      refine w_is (k := 116) (n := 51) (jn := w1.toNatClampNeg) am_e241 rfl rfl (by decide) hf2 rfl ?_
      show am_ww 241 240 [.ref 99, .int x1, d2, .int x3, d4, d5, .int x6] [] E (u_I I 116 (upd (I 116) w1.toNatClampNeg (((I 116) w1.toNatClampNeg) + (nI 0)))) J S _
      refine w_st (i' := 241) (ls' := [.ref 99, .int x1, d2, .int x3, d4, d5, .int x6]) (st' := [.ref 99]) (E' := E) (I' := (u_I I 116 (upd (I 116) w1.toNatClampNeg (((I 116) w1.toNatClampNeg) + (nI 0))))) (J' := J) (S' := S) am_e241 rfl rfl rfl rfl ?_
      refine w_st (i' := 242) (ls' := [.ref 99, .int x1, d2, .int x3, d4, d5, .int x6]) (st' := [.ref 116]) (E' := E) (I' := (u_I I 116 (upd (I 116) w1.toNatClampNeg (((I 116) w1.toNatClampNeg) + (nI 0))))) (J' := J) (S' := S) am_e241 rfl rfl rfl rfl ?_
      refine w_st (i' := 243) (ls' := [.ref 99, .int x1, d2, .int x3, d4, d5, .int x6]) (st' := [.int x1, .ref 116]) (E' := E) (I' := (u_I I 116 (upd (I 116) w1.toNatClampNeg (((I 116) w1.toNatClampNeg) + (nI 0))))) (J' := J) (S' := S) am_e241 rfl rfl rfl rfl ?_
      refine w_st (i' := 244) (ls' := [.ref 99, .int x1, d2, .int x3, d4, d5, .int x6]) (st' := [.int (nI 4), .int x1, .ref 116]) (E' := E) (I' := (u_I I 116 (upd (I 116) w1.toNatClampNeg (((I 116) w1.toNatClampNeg) + (nI 0))))) (J' := J) (S' := S) am_e241 rfl rfl rfl rfl ?_
      refine w_cI am_e241 rfl rfl (as := [.int x1, .int (nI 4)]) (rest := [.ref 116]) rfl rfl ?_
      show am_ww 222 0 [.int x1, .int (nI 4)] [] E (u_I I 116 (upd (I 116) w1.toNatClampNeg (((I 116) w1.toNatClampNeg) + (nI 0)))) J S _
      refine w_st (i' := 1) (ls' := [.int x1, .int (nI 4)]) (st' := [.int (nI 16)]) (E' := E) (I' := (u_I I 116 (upd (I 116) w1.toNatClampNeg (((I 116) w1.toNatClampNeg) + (nI 0))))) (J' := J) (S' := S) am_e222 rfl rfl rfl rfl ?_
      refine w_st (i' := 2) (ls' := [.int x1, .int (nI 4)]) (st' := [.int (nI 6), .int (nI 16)]) (E' := E) (I' := (u_I I 116 (upd (I 116) w1.toNatClampNeg (((I 116) w1.toNatClampNeg) + (nI 0))))) (J' := J) (S' := S) am_e222 rfl rfl rfl rfl ?_
      refine w_st (i' := 3) (ls' := [.int x1, .int (nI 4)]) (st' := [.int x1, .int (nI 6), .int (nI 16)]) (E' := E) (I' := (u_I I 116 (upd (I 116) w1.toNatClampNeg (((I 116) w1.toNatClampNeg) + (nI 0))))) (J' := J) (S' := S) am_e222 rfl rfl rfl rfl ?_
      refine w_st (i' := 4) (ls' := [.int x1, .int (nI 4)]) (st' := [.int ((nI 6) * x1), .int (nI 16)]) (E' := E) (I' := (u_I I 116 (upd (I 116) w1.toNatClampNeg (((I 116) w1.toNatClampNeg) + (nI 0))))) (J' := J) (S' := S) am_e222 rfl rfl rfl rfl ?_
      refine w_st (i' := 5) (ls' := [.int x1, .int (nI 4)]) (st' := [.int ((nI 16) + ((nI 6) * x1))]) (E' := E) (I' := (u_I I 116 (upd (I 116) w1.toNatClampNeg (((I 116) w1.toNatClampNeg) + (nI 0))))) (J' := J) (S' := S) am_e222 rfl rfl rfl rfl ?_
      refine w_st (i' := 6) (ls' := [.int x1, .int (nI 4)]) (st' := [.int (nI 4), .int ((nI 16) + ((nI 6) * x1))]) (E' := E) (I' := (u_I I 116 (upd (I 116) w1.toNatClampNeg (((I 116) w1.toNatClampNeg) + (nI 0))))) (J' := J) (S' := S) am_e222 rfl rfl rfl rfl ?_
      refine w_st (i' := 7) (ls' := [.int x1, .int (nI 4)]) (st' := [.int (((nI 16) + ((nI 6) * x1)) + (nI 4))]) (E' := E) (I' := (u_I I 116 (upd (I 116) w1.toNatClampNeg (((I 116) w1.toNatClampNeg) + (nI 0))))) (J' := J) (S' := S) am_e222 rfl rfl rfl rfl ?_
      refine w_ri am_e222 rfl rfl (q_mkI ?_)
      show am_ww 241 245 [.ref 99, .int x1, d2, .int x3, d4, d5, .int x6] [.int (((nI 16) + ((nI 6) * x1)) + (nI 4)), .ref 116] E (u_I I 116 (upd (I 116) w1.toNatClampNeg (((I 116) w1.toNatClampNeg) + (nI 0)))) J S _
      refine w_var (fun w6 => am_ww 241 245 [.ref 99, .int x1, d2, .int x3, d4, d5, .int x6] [.int w6, .ref 116] E (u_I I 116 (upd (I 116) w1.toNatClampNeg (((I 116) w1.toNatClampNeg) + (nI 0)))) J S _) (((nI 16) + ((nI 6) * x1)) + (nI 4)) (fun w6 hw6 => ?_)
      replace h := h w6 hw6
      refine w_st (i' := 246) (ls' := [.ref 99, .int x1, d2, .int x3, d4, d5, .int x6]) (st' := [.int x6, .int w6, .ref 116]) (E' := E) (I' := (u_I I 116 (upd (I 116) w1.toNatClampNeg (((I 116) w1.toNatClampNeg) + (nI 0))))) (J' := J) (S' := S) am_e241 rfl rfl rfl rfl ?_
      have hf7 := h.1
      replace h := h.2
      refine w_is (k := 116) (n := 51) (jn := w6.toNatClampNeg) am_e241 rfl rfl (by decide) hf7 rfl ?_
      refine w_eI (uI_0 ..) ?_
      show am_ww 241 247 [.ref 99, .int x1, d2, .int x3, d4, d5, .int x6] [] E (u_I I 116 (upd (upd (I 116) w1.toNatClampNeg (((I 116) w1.toNatClampNeg) + (nI 0))) w6.toNatClampNeg x6)) J S _
      exact w_end am_e241 rfl rfl rfl h
    · replace h := h.2 (of_decide_eq_false c)
      refine w_st (i' := 7) (ls' := [.int ((I 106) x3.toNatClampNeg), .int (nI 9), .int (nI 11)]) (st' := [.int (nI 1)]) (E' := E) (I' := I) (J' := J) (S' := S) am_e232 rfl rfl rfl rfl ?_
      refine w_st (i' := 9) (ls' := [.int ((I 106) x3.toNatClampNeg), .int (nI 9), .int (nI 11)]) (st' := [.int (nI 1)]) (E' := E) (I' := I) (J' := J) (S' := S) am_e232 rfl rfl rfl rfl ?_
      refine w_end (E' := E) (I' := I) (J' := J) (S' := S) am_e232 rfl rfl rfl (q_mkI ?_)
      show am_ww 241 234 [.ref 99, .int x1, d2, .int x3, d4, d5, .int x6] [.int (nI 1), .int ((I 116) w1.toNatClampNeg), .int w1, .ref 116] E I J S _
      refine w_st (i' := 235) (ls' := [.ref 99, .int x1, d2, .int x3, d4, d5, .int x6]) (st' := [.int ((I 116) w1.toNatClampNeg), .int w1, .ref 116]) (E' := E) (I' := I) (J' := J) (S' := S) am_e241 rfl rfl rfl rfl ?_
      refine w_st (i' := 236) (ls' := [.ref 99, .int x1, d2, .int x3, d4, d5, .int x6]) (st' := [.int (nI 1), .int ((I 116) w1.toNatClampNeg), .int w1, .ref 116]) (E' := E) (I' := I) (J' := J) (S' := S) am_e241 rfl rfl rfl rfl ?_
      refine w_st (i' := 238) (ls' := [.ref 99, .int x1, d2, .int x3, d4, d5, .int x6]) (st' := [.int (nI 1), .int ((I 116) w1.toNatClampNeg), .int w1, .ref 116]) (E' := E) (I' := I) (J' := J) (S' := S) am_e241 rfl rfl rfl rfl ?_
      refine w_st (i' := 239) (ls' := [.ref 99, .int x1, d2, .int x3, d4, d5, .int x6]) (st' := [.int (((I 116) w1.toNatClampNeg) + (nI 1)), .int w1, .ref 116]) (E' := E) (I' := I) (J' := J) (S' := S) am_e241 rfl rfl rfl rfl ?_
      refine w_is (k := 116) (n := 51) (jn := w1.toNatClampNeg) am_e241 rfl rfl (by decide) hf2 rfl ?_
      show am_ww 241 240 [.ref 99, .int x1, d2, .int x3, d4, d5, .int x6] [] E (u_I I 116 (upd (I 116) w1.toNatClampNeg (((I 116) w1.toNatClampNeg) + (nI 1)))) J S _
      refine w_st (i' := 241) (ls' := [.ref 99, .int x1, d2, .int x3, d4, d5, .int x6]) (st' := [.ref 99]) (E' := E) (I' := (u_I I 116 (upd (I 116) w1.toNatClampNeg (((I 116) w1.toNatClampNeg) + (nI 1))))) (J' := J) (S' := S) am_e241 rfl rfl rfl rfl ?_
      refine w_st (i' := 242) (ls' := [.ref 99, .int x1, d2, .int x3, d4, d5, .int x6]) (st' := [.ref 116]) (E' := E) (I' := (u_I I 116 (upd (I 116) w1.toNatClampNeg (((I 116) w1.toNatClampNeg) + (nI 1))))) (J' := J) (S' := S) am_e241 rfl rfl rfl rfl ?_
      refine w_st (i' := 243) (ls' := [.ref 99, .int x1, d2, .int x3, d4, d5, .int x6]) (st' := [.int x1, .ref 116]) (E' := E) (I' := (u_I I 116 (upd (I 116) w1.toNatClampNeg (((I 116) w1.toNatClampNeg) + (nI 1))))) (J' := J) (S' := S) am_e241 rfl rfl rfl rfl ?_
      refine w_st (i' := 244) (ls' := [.ref 99, .int x1, d2, .int x3, d4, d5, .int x6]) (st' := [.int (nI 4), .int x1, .ref 116]) (E' := E) (I' := (u_I I 116 (upd (I 116) w1.toNatClampNeg (((I 116) w1.toNatClampNeg) + (nI 1))))) (J' := J) (S' := S) am_e241 rfl rfl rfl rfl ?_
      refine w_cI am_e241 rfl rfl (as := [.int x1, .int (nI 4)]) (rest := [.ref 116]) rfl rfl ?_
      show am_ww 222 0 [.int x1, .int (nI 4)] [] E (u_I I 116 (upd (I 116) w1.toNatClampNeg (((I 116) w1.toNatClampNeg) + (nI 1)))) J S _
      refine w_st (i' := 1) (ls' := [.int x1, .int (nI 4)]) (st' := [.int (nI 16)]) (E' := E) (I' := (u_I I 116 (upd (I 116) w1.toNatClampNeg (((I 116) w1.toNatClampNeg) + (nI 1))))) (J' := J) (S' := S) am_e222 rfl rfl rfl rfl ?_
      refine w_st (i' := 2) (ls' := [.int x1, .int (nI 4)]) (st' := [.int (nI 6), .int (nI 16)]) (E' := E) (I' := (u_I I 116 (upd (I 116) w1.toNatClampNeg (((I 116) w1.toNatClampNeg) + (nI 1))))) (J' := J) (S' := S) am_e222 rfl rfl rfl rfl ?_
      refine w_st (i' := 3) (ls' := [.int x1, .int (nI 4)]) (st' := [.int x1, .int (nI 6), .int (nI 16)]) (E' := E) (I' := (u_I I 116 (upd (I 116) w1.toNatClampNeg (((I 116) w1.toNatClampNeg) + (nI 1))))) (J' := J) (S' := S) am_e222 rfl rfl rfl rfl ?_
      refine w_st (i' := 4) (ls' := [.int x1, .int (nI 4)]) (st' := [.int ((nI 6) * x1), .int (nI 16)]) (E' := E) (I' := (u_I I 116 (upd (I 116) w1.toNatClampNeg (((I 116) w1.toNatClampNeg) + (nI 1))))) (J' := J) (S' := S) am_e222 rfl rfl rfl rfl ?_
      refine w_st (i' := 5) (ls' := [.int x1, .int (nI 4)]) (st' := [.int ((nI 16) + ((nI 6) * x1))]) (E' := E) (I' := (u_I I 116 (upd (I 116) w1.toNatClampNeg (((I 116) w1.toNatClampNeg) + (nI 1))))) (J' := J) (S' := S) am_e222 rfl rfl rfl rfl ?_
      refine w_st (i' := 6) (ls' := [.int x1, .int (nI 4)]) (st' := [.int (nI 4), .int ((nI 16) + ((nI 6) * x1))]) (E' := E) (I' := (u_I I 116 (upd (I 116) w1.toNatClampNeg (((I 116) w1.toNatClampNeg) + (nI 1))))) (J' := J) (S' := S) am_e222 rfl rfl rfl rfl ?_
      refine w_st (i' := 7) (ls' := [.int x1, .int (nI 4)]) (st' := [.int (((nI 16) + ((nI 6) * x1)) + (nI 4))]) (E' := E) (I' := (u_I I 116 (upd (I 116) w1.toNatClampNeg (((I 116) w1.toNatClampNeg) + (nI 1))))) (J' := J) (S' := S) am_e222 rfl rfl rfl rfl ?_
      refine w_ri am_e222 rfl rfl (q_mkI ?_)
      show am_ww 241 245 [.ref 99, .int x1, d2, .int x3, d4, d5, .int x6] [.int (((nI 16) + ((nI 6) * x1)) + (nI 4)), .ref 116] E (u_I I 116 (upd (I 116) w1.toNatClampNeg (((I 116) w1.toNatClampNeg) + (nI 1)))) J S _
      refine w_var (fun w8 => am_ww 241 245 [.ref 99, .int x1, d2, .int x3, d4, d5, .int x6] [.int w8, .ref 116] E (u_I I 116 (upd (I 116) w1.toNatClampNeg (((I 116) w1.toNatClampNeg) + (nI 1)))) J S _) (((nI 16) + ((nI 6) * x1)) + (nI 4)) (fun w8 hw8 => ?_)
      replace h := h w8 hw8
      refine w_st (i' := 246) (ls' := [.ref 99, .int x1, d2, .int x3, d4, d5, .int x6]) (st' := [.int x6, .int w8, .ref 116]) (E' := E) (I' := (u_I I 116 (upd (I 116) w1.toNatClampNeg (((I 116) w1.toNatClampNeg) + (nI 1))))) (J' := J) (S' := S) am_e241 rfl rfl rfl rfl ?_
      have hf9 := h.1
      replace h := h.2
      refine w_is (k := 116) (n := 51) (jn := w8.toNatClampNeg) am_e241 rfl rfl (by decide) hf9 rfl ?_
      refine w_eI (uI_0 ..) ?_
      show am_ww 241 247 [.ref 99, .int x1, d2, .int x3, d4, d5, .int x6] [] E (u_I I 116 (upd (upd (I 116) w1.toNatClampNeg (((I 116) w1.toNatClampNeg) + (nI 1))) w8.toNatClampNeg x6)) J S _
      exact w_end am_e241 rfl rfl rfl h
-- 240 does
theorem g240_0 {p1 : Int32} {E : am_Ev} {I : Nat → Nat → Int32} {J : Nat → Nat → Int64} {S : Nat → Nat → Option Nat} {Q : am_Qt}  (h : ∀ w1 : Int32, w1 = (((nI 16) + ((nI 6) * ((I 116) 44))) + (nI 4)) → (vp_in w1 51 ∧ (∀ w3 : Int32, w3 = (((nI 16) * ((I 116) 44)) + ((I 116) w1.toNatClampNeg)) → (am_cl 241 [.ref 99, .int ((I 116) 44), .int p1] E (u_I I 99 (upd (upd (I 99) 39 ((I 116) 44)) 40 w3)) J S (q_V fun E4 I4 J4 S4 => Q (.inl none) E4 I4 J4 S4))))) : am_ww 240 0 [.ref 99, .int p1] [] E I J S Q := by
  refine w_st (i' := 1) (ls' := [.ref 99, .int p1]) (st' := [.ref 99]) (E' := E) (I' := I) (J' := J) (S' := S) am_e240 rfl rfl rfl rfl ?_
  refine w_st (i' := 2) (ls' := [.ref 99, .int p1]) (st' := [.ref 99, .ref 99]) (E' := E) (I' := I) (J' := J) (S' := S) am_e240 rfl rfl rfl rfl ?_
  refine w_st (i' := 3) (ls' := [.ref 99, .int p1]) (st' := [.ref 116, .ref 99]) (E' := E) (I' := I) (J' := J) (S' := S) am_e240 rfl rfl rfl rfl ?_
  refine w_st (i' := 4) (ls' := [.ref 99, .int p1]) (st' := [.int (nI 44), .ref 116, .ref 99]) (E' := E) (I' := I) (J' := J) (S' := S) am_e240 rfl rfl rfl rfl ?_
  refine w_ia (k := 116) (n := 51) (jn := 44) am_e240 rfl rfl (by decide) (vp_in_nI (by decide) (by decide)) rfl ?_
  show am_ww 240 5 [.ref 99, .int p1] [.int ((I 116) 44), .ref 99] E I J S _
  refine w_st (i' := 6) (ls' := [.ref 99, .int p1]) (st' := []) (E' := E) (I' := (u_I I 99 (upd (I 99) 39 ((I 116) 44)))) (J' := J) (S' := S) am_e240 rfl rfl rfl rfl ?_
  refine w_st (i' := 7) (ls' := [.ref 99, .int p1]) (st' := [.ref 99]) (E' := E) (I' := (u_I I 99 (upd (I 99) 39 ((I 116) 44)))) (J' := J) (S' := S) am_e240 rfl rfl rfl rfl ?_
  refine w_st (i' := 8) (ls' := [.ref 99, .int p1]) (st' := [.ref 99, .ref 99]) (E' := E) (I' := (u_I I 99 (upd (I 99) 39 ((I 116) 44)))) (J' := J) (S' := S) am_e240 rfl rfl rfl rfl ?_
  refine w_st (i' := 9) (ls' := [.ref 99, .int p1]) (st' := [.ref 99, .ref 99, .ref 99]) (E' := E) (I' := (u_I I 99 (upd (I 99) 39 ((I 116) 44)))) (J' := J) (S' := S) am_e240 rfl rfl rfl rfl ?_
  refine w_st (i' := 10) (ls' := [.ref 99, .int p1]) (st' := [.int ((I 116) 44), .ref 99, .ref 99]) (E' := E) (I' := (u_I I 99 (upd (I 99) 39 ((I 116) 44)))) (J' := J) (S' := S) am_e240 rfl rfl rfl rfl ?_
  refine w_cI am_e240 rfl rfl (as := [.ref 99, .int ((I 116) 44)]) (rest := [.ref 99]) rfl rfl ?_
  show am_ww 223 0 [.ref 99, .int ((I 116) 44)] [] E (u_I I 99 (upd (I 99) 39 ((I 116) 44))) J S _
  refine w_st (i' := 1) (ls' := [.ref 99, .int ((I 116) 44)]) (st' := [.int (nI 16)]) (E' := E) (I' := (u_I I 99 (upd (I 99) 39 ((I 116) 44)))) (J' := J) (S' := S) am_e223 rfl rfl rfl rfl ?_
  refine w_st (i' := 2) (ls' := [.ref 99, .int ((I 116) 44)]) (st' := [.int ((I 116) 44), .int (nI 16)]) (E' := E) (I' := (u_I I 99 (upd (I 99) 39 ((I 116) 44)))) (J' := J) (S' := S) am_e223 rfl rfl rfl rfl ?_
  refine w_st (i' := 3) (ls' := [.ref 99, .int ((I 116) 44)]) (st' := [.int ((nI 16) * ((I 116) 44))]) (E' := E) (I' := (u_I I 99 (upd (I 99) 39 ((I 116) 44)))) (J' := J) (S' := S) am_e223 rfl rfl rfl rfl ?_
  refine w_st (i' := 4) (ls' := [.ref 99, .int ((I 116) 44)]) (st' := [.ref 99, .int ((nI 16) * ((I 116) 44))]) (E' := E) (I' := (u_I I 99 (upd (I 99) 39 ((I 116) 44)))) (J' := J) (S' := S) am_e223 rfl rfl rfl rfl ?_
  refine w_st (i' := 5) (ls' := [.ref 99, .int ((I 116) 44)]) (st' := [.ref 116, .int ((nI 16) * ((I 116) 44))]) (E' := E) (I' := (u_I I 99 (upd (I 99) 39 ((I 116) 44)))) (J' := J) (S' := S) am_e223 rfl rfl rfl rfl ?_
  refine w_st (i' := 6) (ls' := [.ref 99, .int ((I 116) 44)]) (st' := [.int ((I 116) 44), .ref 116, .int ((nI 16) * ((I 116) 44))]) (E' := E) (I' := (u_I I 99 (upd (I 99) 39 ((I 116) 44)))) (J' := J) (S' := S) am_e223 rfl rfl rfl rfl ?_
  refine w_st (i' := 7) (ls' := [.ref 99, .int ((I 116) 44)]) (st' := [.int (nI 4), .int ((I 116) 44), .ref 116, .int ((nI 16) * ((I 116) 44))]) (E' := E) (I' := (u_I I 99 (upd (I 99) 39 ((I 116) 44)))) (J' := J) (S' := S) am_e223 rfl rfl rfl rfl ?_
  refine w_cI am_e223 rfl rfl (as := [.int ((I 116) 44), .int (nI 4)]) (rest := [.ref 116, .int ((nI 16) * ((I 116) 44))]) rfl rfl ?_
  show am_ww 222 0 [.int ((I 116) 44), .int (nI 4)] [] E (u_I I 99 (upd (I 99) 39 ((I 116) 44))) J S _
  refine w_st (i' := 1) (ls' := [.int ((I 116) 44), .int (nI 4)]) (st' := [.int (nI 16)]) (E' := E) (I' := (u_I I 99 (upd (I 99) 39 ((I 116) 44)))) (J' := J) (S' := S) am_e222 rfl rfl rfl rfl ?_
  refine w_st (i' := 2) (ls' := [.int ((I 116) 44), .int (nI 4)]) (st' := [.int (nI 6), .int (nI 16)]) (E' := E) (I' := (u_I I 99 (upd (I 99) 39 ((I 116) 44)))) (J' := J) (S' := S) am_e222 rfl rfl rfl rfl ?_
  refine w_st (i' := 3) (ls' := [.int ((I 116) 44), .int (nI 4)]) (st' := [.int ((I 116) 44), .int (nI 6), .int (nI 16)]) (E' := E) (I' := (u_I I 99 (upd (I 99) 39 ((I 116) 44)))) (J' := J) (S' := S) am_e222 rfl rfl rfl rfl ?_
  refine w_st (i' := 4) (ls' := [.int ((I 116) 44), .int (nI 4)]) (st' := [.int ((nI 6) * ((I 116) 44)), .int (nI 16)]) (E' := E) (I' := (u_I I 99 (upd (I 99) 39 ((I 116) 44)))) (J' := J) (S' := S) am_e222 rfl rfl rfl rfl ?_
  refine w_st (i' := 5) (ls' := [.int ((I 116) 44), .int (nI 4)]) (st' := [.int ((nI 16) + ((nI 6) * ((I 116) 44)))]) (E' := E) (I' := (u_I I 99 (upd (I 99) 39 ((I 116) 44)))) (J' := J) (S' := S) am_e222 rfl rfl rfl rfl ?_
  refine w_st (i' := 6) (ls' := [.int ((I 116) 44), .int (nI 4)]) (st' := [.int (nI 4), .int ((nI 16) + ((nI 6) * ((I 116) 44)))]) (E' := E) (I' := (u_I I 99 (upd (I 99) 39 ((I 116) 44)))) (J' := J) (S' := S) am_e222 rfl rfl rfl rfl ?_
  refine w_st (i' := 7) (ls' := [.int ((I 116) 44), .int (nI 4)]) (st' := [.int (((nI 16) + ((nI 6) * ((I 116) 44))) + (nI 4))]) (E' := E) (I' := (u_I I 99 (upd (I 99) 39 ((I 116) 44)))) (J' := J) (S' := S) am_e222 rfl rfl rfl rfl ?_
  refine w_ri am_e222 rfl rfl (q_mkI ?_)
  show am_ww 223 8 [.ref 99, .int ((I 116) 44)] [.int (((nI 16) + ((nI 6) * ((I 116) 44))) + (nI 4)), .ref 116, .int ((nI 16) * ((I 116) 44))] E (u_I I 99 (upd (I 99) 39 ((I 116) 44))) J S _
  refine w_var (fun w1 => am_ww 223 8 [.ref 99, .int ((I 116) 44)] [.int w1, .ref 116, .int ((nI 16) * ((I 116) 44))] E (u_I I 99 (upd (I 99) 39 ((I 116) 44))) J S _) (((nI 16) + ((nI 6) * ((I 116) 44))) + (nI 4)) (fun w1 hw1 => ?_)
  replace h := h w1 hw1
  have hf2 := h.1
  replace h := h.2
  refine w_ia (k := 116) (n := 51) (jn := w1.toNatClampNeg) am_e223 rfl rfl (by decide) hf2 rfl ?_
  show am_ww 223 9 [.ref 99, .int ((I 116) 44)] [.int ((I 116) w1.toNatClampNeg), .int ((nI 16) * ((I 116) 44))] E (u_I I 99 (upd (I 99) 39 ((I 116) 44))) J S _
  refine w_st (i' := 10) (ls' := [.ref 99, .int ((I 116) 44)]) (st' := [.int (((nI 16) * ((I 116) 44)) + ((I 116) w1.toNatClampNeg))]) (E' := E) (I' := (u_I I 99 (upd (I 99) 39 ((I 116) 44)))) (J' := J) (S' := S) am_e223 rfl rfl rfl rfl ?_
  refine w_ri am_e223 rfl rfl (q_mkI ?_)
  show am_ww 240 11 [.ref 99, .int p1] [.int (((nI 16) * ((I 116) 44)) + ((I 116) w1.toNatClampNeg)), .ref 99] E (u_I I 99 (upd (I 99) 39 ((I 116) 44))) J S _
  refine w_var (fun w3 => am_ww 240 11 [.ref 99, .int p1] [.int w3, .ref 99] E (u_I I 99 (upd (I 99) 39 ((I 116) 44))) J S _) (((nI 16) * ((I 116) 44)) + ((I 116) w1.toNatClampNeg)) (fun w3 hw3 => ?_)
  replace h := h w3 hw3
  refine w_st (i' := 12) (ls' := [.ref 99, .int p1]) (st' := []) (E' := E) (I' := (u_I (u_I I 99 (upd (I 99) 39 ((I 116) 44))) 99 (upd (upd (I 99) 39 ((I 116) 44)) 40 w3))) (J' := J) (S' := S) am_e240 rfl rfl rfl rfl ?_
  refine w_eI (uI_0 ..) ?_
  show am_ww 240 12 [.ref 99, .int p1] [] E (u_I I 99 (upd (upd (I 99) 39 ((I 116) 44)) 40 w3)) J S _
  refine w_st (i' := 13) (ls' := [.ref 99, .int p1]) (st' := [.ref 99]) (E' := E) (I' := (u_I I 99 (upd (upd (I 99) 39 ((I 116) 44)) 40 w3))) (J' := J) (S' := S) am_e240 rfl rfl rfl rfl ?_
  refine w_st (i' := 14) (ls' := [.ref 99, .int p1]) (st' := [.ref 99, .ref 99]) (E' := E) (I' := (u_I I 99 (upd (upd (I 99) 39 ((I 116) 44)) 40 w3))) (J' := J) (S' := S) am_e240 rfl rfl rfl rfl ?_
  refine w_st (i' := 15) (ls' := [.ref 99, .int p1]) (st' := [.int ((I 116) 44), .ref 99]) (E' := E) (I' := (u_I I 99 (upd (upd (I 99) 39 ((I 116) 44)) 40 w3))) (J' := J) (S' := S) am_e240 rfl rfl rfl rfl ?_
  refine w_st (i' := 16) (ls' := [.ref 99, .int p1]) (st' := [.int p1, .int ((I 116) 44), .ref 99]) (E' := E) (I' := (u_I I 99 (upd (upd (I 99) 39 ((I 116) 44)) 40 w3))) (J' := J) (S' := S) am_e240 rfl rfl rfl rfl ?_
  refine w_cV am_e240 rfl rfl (as := [.ref 99, .int ((I 116) 44), .int p1]) (rest := []) rfl rfl (am_ww.mono h ?_)
  rintro _ E4 I4 J4 S4 ⟨rfl, h⟩
  refine q_mkV ?_
  exact w_end am_e240 rfl rfl rfl h
-- 239 inputNow
theorem g239_0  {E : am_Ev} {I : Nat → Nat → Int32} {J : Nat → Nat → Int64} {S : Nat → Nat → Option Nat} {Q : am_Qt}  (h : ∀ w1 : Int32, w1 = (((nI 16) + ((nI 6) * ((I 116) 44))) + (nI 4)) → (vp_in w1 51 ∧ (∀ w3 : Int32, w3 = (((nI 16) * ((I 116) 44)) + ((I 116) w1.toNatClampNeg)) → (vp_in w3 128 ∧ (((((I 106) w3.toNatClampNeg) = (nI 6) → (vp_in ((nI 48) + ((I 108) w3.toNatClampNeg)) 51 ∧ (vp_in (((nI 30) * ((I 108) w3.toNatClampNeg)) + ((I 116) (((nI 48) + ((I 108) w3.toNatClampNeg)).toNatClampNeg))) 90 ∧ True))) ∧ (¬ ((I 106) w3.toNatClampNeg) = (nI 6) → (True))) ∧ (∀ w6 : Int32, w6 = (if ((I 106) w3.toNatClampNeg) = (nI 6) then ((I 123) ((((nI 30) * ((I 108) w3.toNatClampNeg)) + ((I 116) (((nI 48) + ((I 108) w3.toNatClampNeg)).toNatClampNeg))).toNatClampNeg)) else nI 0) → (Q (.inl (some (.int w6))) E I J S))))))) : am_ww 239 0 [.ref 99, am_U] [] E I J S Q := by
  refine w_st (i' := 1) (ls' := [.ref 99, am_U]) (st' := [.ref 99]) (E' := E) (I' := I) (J' := J) (S' := S) am_e239 rfl rfl rfl rfl ?_
  refine w_st (i' := 2) (ls' := [.ref 99, am_U]) (st' := [.ref 99, .ref 99]) (E' := E) (I' := I) (J' := J) (S' := S) am_e239 rfl rfl rfl rfl ?_
  refine w_st (i' := 3) (ls' := [.ref 99, am_U]) (st' := [.ref 116, .ref 99]) (E' := E) (I' := I) (J' := J) (S' := S) am_e239 rfl rfl rfl rfl ?_
  refine w_st (i' := 4) (ls' := [.ref 99, am_U]) (st' := [.int (nI 44), .ref 116, .ref 99]) (E' := E) (I' := I) (J' := J) (S' := S) am_e239 rfl rfl rfl rfl ?_
  refine w_ia (k := 116) (n := 51) (jn := 44) am_e239 rfl rfl (by decide) (vp_in_nI (by decide) (by decide)) rfl ?_
  show am_ww 239 5 [.ref 99, am_U] [.int ((I 116) 44), .ref 99] E I J S _
  refine w_cI am_e239 rfl rfl (as := [.ref 99, .int ((I 116) 44)]) (rest := []) rfl rfl ?_
  show am_ww 223 0 [.ref 99, .int ((I 116) 44)] [] E I J S _
  refine w_st (i' := 1) (ls' := [.ref 99, .int ((I 116) 44)]) (st' := [.int (nI 16)]) (E' := E) (I' := I) (J' := J) (S' := S) am_e223 rfl rfl rfl rfl ?_
  refine w_st (i' := 2) (ls' := [.ref 99, .int ((I 116) 44)]) (st' := [.int ((I 116) 44), .int (nI 16)]) (E' := E) (I' := I) (J' := J) (S' := S) am_e223 rfl rfl rfl rfl ?_
  refine w_st (i' := 3) (ls' := [.ref 99, .int ((I 116) 44)]) (st' := [.int ((nI 16) * ((I 116) 44))]) (E' := E) (I' := I) (J' := J) (S' := S) am_e223 rfl rfl rfl rfl ?_
  refine w_st (i' := 4) (ls' := [.ref 99, .int ((I 116) 44)]) (st' := [.ref 99, .int ((nI 16) * ((I 116) 44))]) (E' := E) (I' := I) (J' := J) (S' := S) am_e223 rfl rfl rfl rfl ?_
  refine w_st (i' := 5) (ls' := [.ref 99, .int ((I 116) 44)]) (st' := [.ref 116, .int ((nI 16) * ((I 116) 44))]) (E' := E) (I' := I) (J' := J) (S' := S) am_e223 rfl rfl rfl rfl ?_
  refine w_st (i' := 6) (ls' := [.ref 99, .int ((I 116) 44)]) (st' := [.int ((I 116) 44), .ref 116, .int ((nI 16) * ((I 116) 44))]) (E' := E) (I' := I) (J' := J) (S' := S) am_e223 rfl rfl rfl rfl ?_
  refine w_st (i' := 7) (ls' := [.ref 99, .int ((I 116) 44)]) (st' := [.int (nI 4), .int ((I 116) 44), .ref 116, .int ((nI 16) * ((I 116) 44))]) (E' := E) (I' := I) (J' := J) (S' := S) am_e223 rfl rfl rfl rfl ?_
  refine w_cI am_e223 rfl rfl (as := [.int ((I 116) 44), .int (nI 4)]) (rest := [.ref 116, .int ((nI 16) * ((I 116) 44))]) rfl rfl ?_
  show am_ww 222 0 [.int ((I 116) 44), .int (nI 4)] [] E I J S _
  refine w_st (i' := 1) (ls' := [.int ((I 116) 44), .int (nI 4)]) (st' := [.int (nI 16)]) (E' := E) (I' := I) (J' := J) (S' := S) am_e222 rfl rfl rfl rfl ?_
  refine w_st (i' := 2) (ls' := [.int ((I 116) 44), .int (nI 4)]) (st' := [.int (nI 6), .int (nI 16)]) (E' := E) (I' := I) (J' := J) (S' := S) am_e222 rfl rfl rfl rfl ?_
  refine w_st (i' := 3) (ls' := [.int ((I 116) 44), .int (nI 4)]) (st' := [.int ((I 116) 44), .int (nI 6), .int (nI 16)]) (E' := E) (I' := I) (J' := J) (S' := S) am_e222 rfl rfl rfl rfl ?_
  refine w_st (i' := 4) (ls' := [.int ((I 116) 44), .int (nI 4)]) (st' := [.int ((nI 6) * ((I 116) 44)), .int (nI 16)]) (E' := E) (I' := I) (J' := J) (S' := S) am_e222 rfl rfl rfl rfl ?_
  refine w_st (i' := 5) (ls' := [.int ((I 116) 44), .int (nI 4)]) (st' := [.int ((nI 16) + ((nI 6) * ((I 116) 44)))]) (E' := E) (I' := I) (J' := J) (S' := S) am_e222 rfl rfl rfl rfl ?_
  refine w_st (i' := 6) (ls' := [.int ((I 116) 44), .int (nI 4)]) (st' := [.int (nI 4), .int ((nI 16) + ((nI 6) * ((I 116) 44)))]) (E' := E) (I' := I) (J' := J) (S' := S) am_e222 rfl rfl rfl rfl ?_
  refine w_st (i' := 7) (ls' := [.int ((I 116) 44), .int (nI 4)]) (st' := [.int (((nI 16) + ((nI 6) * ((I 116) 44))) + (nI 4))]) (E' := E) (I' := I) (J' := J) (S' := S) am_e222 rfl rfl rfl rfl ?_
  refine w_ri am_e222 rfl rfl (q_mkI ?_)
  show am_ww 223 8 [.ref 99, .int ((I 116) 44)] [.int (((nI 16) + ((nI 6) * ((I 116) 44))) + (nI 4)), .ref 116, .int ((nI 16) * ((I 116) 44))] E I J S _
  refine w_var (fun w1 => am_ww 223 8 [.ref 99, .int ((I 116) 44)] [.int w1, .ref 116, .int ((nI 16) * ((I 116) 44))] E I J S _) (((nI 16) + ((nI 6) * ((I 116) 44))) + (nI 4)) (fun w1 hw1 => ?_)
  replace h := h w1 hw1
  have hf2 := h.1
  replace h := h.2
  refine w_ia (k := 116) (n := 51) (jn := w1.toNatClampNeg) am_e223 rfl rfl (by decide) hf2 rfl ?_
  refine w_st (i' := 10) (ls' := [.ref 99, .int ((I 116) 44)]) (st' := [.int (((nI 16) * ((I 116) 44)) + ((I 116) w1.toNatClampNeg))]) (E' := E) (I' := I) (J' := J) (S' := S) am_e223 rfl rfl rfl rfl ?_
  refine w_ri am_e223 rfl rfl (q_mkI ?_)
  show am_ww 239 6 [.ref 99, am_U] [.int (((nI 16) * ((I 116) 44)) + ((I 116) w1.toNatClampNeg))] E I J S _
  refine w_var (fun w3 => am_ww 239 6 [.ref 99, am_U] [.int w3] E I J S _) (((nI 16) * ((I 116) 44)) + ((I 116) w1.toNatClampNeg)) (fun w3 hw3 => ?_)
  replace h := h w3 hw3
  refine w_st (i' := 7) (ls' := [.ref 99, .int w3]) (st' := []) (E' := E) (I' := I) (J' := J) (S' := S) am_e239 rfl rfl rfl rfl ?_
  refine w_st (i' := 8) (ls' := [.ref 99, .int w3]) (st' := [.ref 99]) (E' := E) (I' := I) (J' := J) (S' := S) am_e239 rfl rfl rfl rfl ?_
  refine w_st (i' := 9) (ls' := [.ref 99, .int w3]) (st' := [.ref 106]) (E' := E) (I' := I) (J' := J) (S' := S) am_e239 rfl rfl rfl rfl ?_
  refine w_st (i' := 10) (ls' := [.ref 99, .int w3]) (st' := [.int w3, .ref 106]) (E' := E) (I' := I) (J' := J) (S' := S) am_e239 rfl rfl rfl rfl ?_
  have hf4 := h.1
  replace h := h.2
  refine w_ia (k := 106) (n := 128) (jn := w3.toNatClampNeg) am_e239 rfl rfl (by decide) hf4 rfl ?_
  refine w_st (i' := 12) (ls' := [.ref 99, .int w3]) (st' := [.int (nI 6), .int ((I 106) w3.toNatClampNeg)]) (E' := E) (I' := I) (J' := J) (S' := S) am_e239 rfl rfl rfl rfl ?_
  refine w_mg (i := 34) (ls' := [.ref 99, .int w3]) (st' := [.int (if ((I 106) w3.toNatClampNeg) = (nI 6) then ((I 123) ((((nI 30) * ((I 108) w3.toNatClampNeg)) + ((I 116) (((nI 48) + ((I 108) w3.toNatClampNeg)).toNatClampNeg))).toNatClampNeg)) else nI 0)]) (fun hm => ?_) ?_
  · replace h := h.1
    refine w_if2 am_e239 rfl rfl (fun c => ?_) (fun c => ?_)
    · have m5 : ¬ (((I 106) w3.toNatClampNeg) = (nI 6)) := (of_decide_eq_true c)
      replace h := h.2 m5
      refine w_st (i' := 34) (ls' := [.ref 99, .int w3]) (st' := [.int (nI 0)]) (E' := E) (I' := I) (J' := J) (S' := S) am_e239 rfl rfl rfl rfl ?_
      first | exact hm | (simp only [if_neg m5] at hm; exact hm)
    · have m5 : ((I 106) w3.toNatClampNeg) = (nI 6) := (Decidable.not_not.mp (of_decide_eq_false c))
      replace h := h.1 m5
      refine w_st (i' := 14) (ls' := [.ref 99, .int w3]) (st' := [.ref 99]) (E' := E) (I' := I) (J' := J) (S' := S) am_e239 rfl rfl rfl rfl ?_
      refine w_st (i' := 15) (ls' := [.ref 99, .int w3]) (st' := [.ref 123]) (E' := E) (I' := I) (J' := J) (S' := S) am_e239 rfl rfl rfl rfl ?_
      refine w_st (i' := 16) (ls' := [.ref 99, .int w3]) (st' := [.int (nI 30), .ref 123]) (E' := E) (I' := I) (J' := J) (S' := S) am_e239 rfl rfl rfl rfl ?_
      refine w_st (i' := 17) (ls' := [.ref 99, .int w3]) (st' := [.ref 99, .int (nI 30), .ref 123]) (E' := E) (I' := I) (J' := J) (S' := S) am_e239 rfl rfl rfl rfl ?_
      refine w_st (i' := 18) (ls' := [.ref 99, .int w3]) (st' := [.ref 108, .int (nI 30), .ref 123]) (E' := E) (I' := I) (J' := J) (S' := S) am_e239 rfl rfl rfl rfl ?_
      refine w_st (i' := 19) (ls' := [.ref 99, .int w3]) (st' := [.int w3, .ref 108, .int (nI 30), .ref 123]) (E' := E) (I' := I) (J' := J) (S' := S) am_e239 rfl rfl rfl rfl ?_
      refine w_ia (k := 108) (n := 128) (jn := w3.toNatClampNeg) am_e239 rfl rfl (by decide) hf4 rfl ?_
      show am_ww 239 20 [.ref 99, .int w3] [.int ((I 108) w3.toNatClampNeg), .int (nI 30), .ref 123] E I J S _
      refine w_st (i' := 21) (ls' := [.ref 99, .int w3]) (st' := [.int ((nI 30) * ((I 108) w3.toNatClampNeg)), .ref 123]) (E' := E) (I' := I) (J' := J) (S' := S) am_e239 rfl rfl rfl rfl ?_
      refine w_st (i' := 22) (ls' := [.ref 99, .int w3]) (st' := [.ref 99, .int ((nI 30) * ((I 108) w3.toNatClampNeg)), .ref 123]) (E' := E) (I' := I) (J' := J) (S' := S) am_e239 rfl rfl rfl rfl ?_
      refine w_st (i' := 23) (ls' := [.ref 99, .int w3]) (st' := [.ref 116, .int ((nI 30) * ((I 108) w3.toNatClampNeg)), .ref 123]) (E' := E) (I' := I) (J' := J) (S' := S) am_e239 rfl rfl rfl rfl ?_
      refine w_st (i' := 24) (ls' := [.ref 99, .int w3]) (st' := [.int (nI 48), .ref 116, .int ((nI 30) * ((I 108) w3.toNatClampNeg)), .ref 123]) (E' := E) (I' := I) (J' := J) (S' := S) am_e239 rfl rfl rfl rfl ?_
      refine w_st (i' := 25) (ls' := [.ref 99, .int w3]) (st' := [.ref 99, .int (nI 48), .ref 116, .int ((nI 30) * ((I 108) w3.toNatClampNeg)), .ref 123]) (E' := E) (I' := I) (J' := J) (S' := S) am_e239 rfl rfl rfl rfl ?_
      refine w_st (i' := 26) (ls' := [.ref 99, .int w3]) (st' := [.ref 108, .int (nI 48), .ref 116, .int ((nI 30) * ((I 108) w3.toNatClampNeg)), .ref 123]) (E' := E) (I' := I) (J' := J) (S' := S) am_e239 rfl rfl rfl rfl ?_
      refine w_st (i' := 27) (ls' := [.ref 99, .int w3]) (st' := [.int w3, .ref 108, .int (nI 48), .ref 116, .int ((nI 30) * ((I 108) w3.toNatClampNeg)), .ref 123]) (E' := E) (I' := I) (J' := J) (S' := S) am_e239 rfl rfl rfl rfl ?_
      refine w_ia (k := 108) (n := 128) (jn := w3.toNatClampNeg) am_e239 rfl rfl (by decide) hf4 rfl ?_
      show am_ww 239 28 [.ref 99, .int w3] [.int ((I 108) w3.toNatClampNeg), .int (nI 48), .ref 116, .int ((nI 30) * ((I 108) w3.toNatClampNeg)), .ref 123] E I J S _
      refine w_st (i' := 29) (ls' := [.ref 99, .int w3]) (st' := [.int ((nI 48) + ((I 108) w3.toNatClampNeg)), .ref 116, .int ((nI 30) * ((I 108) w3.toNatClampNeg)), .ref 123]) (E' := E) (I' := I) (J' := J) (S' := S) am_e239 rfl rfl rfl rfl ?_
      refine w_ia (k := 116) (n := 51) (jn := ((nI 48) + ((I 108) w3.toNatClampNeg)).toNatClampNeg) am_e239 rfl rfl (by decide) h.1 rfl ?_
      replace h := h.2
      show am_ww 239 30 [.ref 99, .int w3] [.int ((I 116) (((nI 48) + ((I 108) w3.toNatClampNeg)).toNatClampNeg)), .int ((nI 30) * ((I 108) w3.toNatClampNeg)), .ref 123] E I J S _
      refine w_st (i' := 31) (ls' := [.ref 99, .int w3]) (st' := [.int (((nI 30) * ((I 108) w3.toNatClampNeg)) + ((I 116) (((nI 48) + ((I 108) w3.toNatClampNeg)).toNatClampNeg))), .ref 123]) (E' := E) (I' := I) (J' := J) (S' := S) am_e239 rfl rfl rfl rfl ?_
      refine w_ia (k := 123) (n := 90) (jn := (((nI 30) * ((I 108) w3.toNatClampNeg)) + ((I 116) (((nI 48) + ((I 108) w3.toNatClampNeg)).toNatClampNeg))).toNatClampNeg) am_e239 rfl rfl (by decide) h.1 rfl ?_
      replace h := h.2
      show am_ww 239 32 [.ref 99, .int w3] [.int ((I 123) ((((nI 30) * ((I 108) w3.toNatClampNeg)) + ((I 116) (((nI 48) + ((I 108) w3.toNatClampNeg)).toNatClampNeg))).toNatClampNeg))] E I J S _
      refine w_st (i' := 34) (ls' := [.ref 99, .int w3]) (st' := [.int ((I 123) ((((nI 30) * ((I 108) w3.toNatClampNeg)) + ((I 116) (((nI 48) + ((I 108) w3.toNatClampNeg)).toNatClampNeg))).toNatClampNeg))]) (E' := E) (I' := I) (J' := J) (S' := S) am_e239 rfl rfl rfl rfl ?_
      first | exact hm | (simp only [if_pos m5] at hm; exact hm)
  replace h := h.2
  refine w_var (fun w6 => am_ww 239 34 [.ref 99, .int w3] [.int w6] E I J S _) (if ((I 106) w3.toNatClampNeg) = (nI 6) then ((I 123) ((((nI 30) * ((I 108) w3.toNatClampNeg)) + ((I 116) (((nI 48) + ((I 108) w3.toNatClampNeg)).toNatClampNeg))).toNatClampNeg)) else nI 0) (fun w6 hw6 => ?_)
  replace h := h w6 hw6
  exact w_ri am_e239 rfl rfl h
-- 237 choose
theorem g237_0 {p1 : Int32} {p2 : Int32} {p3 : Int32} {E : am_Ev} {I : Nat → Nat → Int32} {J : Nat → Nat → Int64} {S : Nat → Nat → Option Nat} {Q : am_Qt}  (h : (¬ p1 = 0) ∧ (∀ w1 : Int32, w1 = (((((((I 116) 46) * (nI 1103515245)) + (nI 12345)) >>> ((nI 16) &&& 31)) &&& (nI 32767)) - ((((((I 116) 46) * (nI 1103515245)) + (nI 12345)) >>> ((nI 16) &&& 31)) &&& (nI 32767)) / p1 * p1) → (am_ww 237 8 [.ref 99, .int p1, .int p2, .int p3, .int w1, .int (-1), .int (nI 0)] [] E (u_I I 116 (upd (I 116) 46 ((((I 116) 46) * (nI 1103515245)) + (nI 12345)))) J S Q))) : am_ww 237 0 [.ref 99, .int p1, .int p2, .int p3, am_U, am_U, am_U] [] E I J S Q := by
  refine w_st (i' := 1) (ls' := [.ref 99, .int p1, .int p2, .int p3, am_U, am_U, am_U]) (st' := [.ref 99]) (E' := E) (I' := I) (J' := J) (S' := S) am_e237 rfl rfl rfl rfl ?_
  refine w_st (i' := 2) (ls' := [.ref 99, .int p1, .int p2, .int p3, am_U, am_U, am_U]) (st' := [.int p1, .ref 99]) (E' := E) (I' := I) (J' := J) (S' := S) am_e237 rfl rfl rfl rfl ?_
  refine w_cI am_e237 rfl rfl (as := [.ref 99, .int p1]) (rest := []) rfl rfl ?_
  show am_ww 238 0 [.ref 99, .int p1] [] E I J S _
  refine w_st (i' := 1) (ls' := [.ref 99, .int p1]) (st' := [.ref 99]) (E' := E) (I' := I) (J' := J) (S' := S) am_e238 rfl rfl rfl rfl ?_
  refine w_st (i' := 2) (ls' := [.ref 99, .int p1]) (st' := [.ref 116]) (E' := E) (I' := I) (J' := J) (S' := S) am_e238 rfl rfl rfl rfl ?_
  refine w_st (i' := 3) (ls' := [.ref 99, .int p1]) (st' := [.int (nI 46), .ref 116]) (E' := E) (I' := I) (J' := J) (S' := S) am_e238 rfl rfl rfl rfl ?_
  refine w_st (i' := 4) (ls' := [.ref 99, .int p1]) (st' := [.ref 99, .int (nI 46), .ref 116]) (E' := E) (I' := I) (J' := J) (S' := S) am_e238 rfl rfl rfl rfl ?_
  refine w_st (i' := 5) (ls' := [.ref 99, .int p1]) (st' := [.ref 116, .int (nI 46), .ref 116]) (E' := E) (I' := I) (J' := J) (S' := S) am_e238 rfl rfl rfl rfl ?_
  refine w_st (i' := 6) (ls' := [.ref 99, .int p1]) (st' := [.int (nI 46), .ref 116, .int (nI 46), .ref 116]) (E' := E) (I' := I) (J' := J) (S' := S) am_e238 rfl rfl rfl rfl ?_
  refine w_ia (k := 116) (n := 51) (jn := 46) am_e238 rfl rfl (by decide) (vp_in_nI (by decide) (by decide)) rfl ?_
  show am_ww 238 7 [.ref 99, .int p1] [.int ((I 116) 46), .int (nI 46), .ref 116] E I J S _
  refine w_st (i' := 8) (ls' := [.ref 99, .int p1]) (st' := [.int (nI 1103515245), .int ((I 116) 46), .int (nI 46), .ref 116]) (E' := E) (I' := I) (J' := J) (S' := S) am_e238 rfl rfl rfl rfl ?_
  refine w_st (i' := 9) (ls' := [.ref 99, .int p1]) (st' := [.int (((I 116) 46) * (nI 1103515245)), .int (nI 46), .ref 116]) (E' := E) (I' := I) (J' := J) (S' := S) am_e238 rfl rfl rfl rfl ?_
  refine w_st (i' := 10) (ls' := [.ref 99, .int p1]) (st' := [.int (nI 12345), .int (((I 116) 46) * (nI 1103515245)), .int (nI 46), .ref 116]) (E' := E) (I' := I) (J' := J) (S' := S) am_e238 rfl rfl rfl rfl ?_
  refine w_st (i' := 11) (ls' := [.ref 99, .int p1]) (st' := [.int ((((I 116) 46) * (nI 1103515245)) + (nI 12345)), .int (nI 46), .ref 116]) (E' := E) (I' := I) (J' := J) (S' := S) am_e238 rfl rfl rfl rfl ?_
  refine w_is (k := 116) (n := 51) (jn := 46) am_e238 rfl rfl (by decide) (vp_in_nI (by decide) (by decide)) rfl ?_
  show am_ww 238 12 [.ref 99, .int p1] [] E (u_I I 116 (upd (I 116) 46 ((((I 116) 46) * (nI 1103515245)) + (nI 12345)))) J S _
  refine w_st (i' := 13) (ls' := [.ref 99, .int p1]) (st' := [.ref 99]) (E' := E) (I' := (u_I I 116 (upd (I 116) 46 ((((I 116) 46) * (nI 1103515245)) + (nI 12345))))) (J' := J) (S' := S) am_e238 rfl rfl rfl rfl ?_
  refine w_st (i' := 14) (ls' := [.ref 99, .int p1]) (st' := [.ref 116]) (E' := E) (I' := (u_I I 116 (upd (I 116) 46 ((((I 116) 46) * (nI 1103515245)) + (nI 12345))))) (J' := J) (S' := S) am_e238 rfl rfl rfl rfl ?_
  refine w_st (i' := 15) (ls' := [.ref 99, .int p1]) (st' := [.int (nI 46), .ref 116]) (E' := E) (I' := (u_I I 116 (upd (I 116) 46 ((((I 116) 46) * (nI 1103515245)) + (nI 12345))))) (J' := J) (S' := S) am_e238 rfl rfl rfl rfl ?_
  refine w_ia (k := 116) (n := 51) (jn := 46) am_e238 rfl rfl (by decide) (vp_in_nI (by decide) (by decide)) rfl ?_
  show am_ww 238 16 [.ref 99, .int p1] [.int ((((I 116) 46) * (nI 1103515245)) + (nI 12345))] E (u_I I 116 (upd (I 116) 46 ((((I 116) 46) * (nI 1103515245)) + (nI 12345)))) J S _
  refine w_st (i' := 17) (ls' := [.ref 99, .int p1]) (st' := [.int (nI 16), .int ((((I 116) 46) * (nI 1103515245)) + (nI 12345))]) (E' := E) (I' := (u_I I 116 (upd (I 116) 46 ((((I 116) 46) * (nI 1103515245)) + (nI 12345))))) (J' := J) (S' := S) am_e238 rfl rfl rfl rfl ?_
  refine w_st (i' := 18) (ls' := [.ref 99, .int p1]) (st' := [.int (((((I 116) 46) * (nI 1103515245)) + (nI 12345)) >>> ((nI 16) &&& 31))]) (E' := E) (I' := (u_I I 116 (upd (I 116) 46 ((((I 116) 46) * (nI 1103515245)) + (nI 12345))))) (J' := J) (S' := S) am_e238 rfl rfl rfl rfl ?_
  refine w_st (i' := 19) (ls' := [.ref 99, .int p1]) (st' := [.int (nI 32767), .int (((((I 116) 46) * (nI 1103515245)) + (nI 12345)) >>> ((nI 16) &&& 31))]) (E' := E) (I' := (u_I I 116 (upd (I 116) 46 ((((I 116) 46) * (nI 1103515245)) + (nI 12345))))) (J' := J) (S' := S) am_e238 rfl rfl rfl rfl ?_
  refine w_st (i' := 20) (ls' := [.ref 99, .int p1]) (st' := [.int ((((((I 116) 46) * (nI 1103515245)) + (nI 12345)) >>> ((nI 16) &&& 31)) &&& (nI 32767))]) (E' := E) (I' := (u_I I 116 (upd (I 116) 46 ((((I 116) 46) * (nI 1103515245)) + (nI 12345))))) (J' := J) (S' := S) am_e238 rfl rfl rfl rfl ?_
  refine w_st (i' := 21) (ls' := [.ref 99, .int p1]) (st' := [.int p1, .int ((((((I 116) 46) * (nI 1103515245)) + (nI 12345)) >>> ((nI 16) &&& 31)) &&& (nI 32767))]) (E' := E) (I' := (u_I I 116 (upd (I 116) 46 ((((I 116) 46) * (nI 1103515245)) + (nI 12345))))) (J' := J) (S' := S) am_e238 rfl rfl rfl rfl ?_
  refine w_rm h.1 am_e238 rfl ?_
  replace h := h.2
  refine w_ri am_e238 rfl rfl (q_mkI ?_)
  show am_ww 237 3 [.ref 99, .int p1, .int p2, .int p3, am_U, am_U, am_U] [.int (((((((I 116) 46) * (nI 1103515245)) + (nI 12345)) >>> ((nI 16) &&& 31)) &&& (nI 32767)) - ((((((I 116) 46) * (nI 1103515245)) + (nI 12345)) >>> ((nI 16) &&& 31)) &&& (nI 32767)) / p1 * p1)] E (u_I I 116 (upd (I 116) 46 ((((I 116) 46) * (nI 1103515245)) + (nI 12345)))) J S _
  refine w_var (fun w1 => am_ww 237 3 [.ref 99, .int p1, .int p2, .int p3, am_U, am_U, am_U] [.int w1] E (u_I I 116 (upd (I 116) 46 ((((I 116) 46) * (nI 1103515245)) + (nI 12345)))) J S _) (((((((I 116) 46) * (nI 1103515245)) + (nI 12345)) >>> ((nI 16) &&& 31)) &&& (nI 32767)) - ((((((I 116) 46) * (nI 1103515245)) + (nI 12345)) >>> ((nI 16) &&& 31)) &&& (nI 32767)) / p1 * p1) (fun w1 hw1 => ?_)
  replace h := h w1 hw1
  refine w_st (i' := 4) (ls' := [.ref 99, .int p1, .int p2, .int p3, .int w1, am_U, am_U]) (st' := []) (E' := E) (I' := (u_I I 116 (upd (I 116) 46 ((((I 116) 46) * (nI 1103515245)) + (nI 12345))))) (J' := J) (S' := S) am_e237 rfl rfl rfl rfl ?_
  refine w_st (i' := 5) (ls' := [.ref 99, .int p1, .int p2, .int p3, .int w1, am_U, am_U]) (st' := [.int (-1)]) (E' := E) (I' := (u_I I 116 (upd (I 116) 46 ((((I 116) 46) * (nI 1103515245)) + (nI 12345))))) (J' := J) (S' := S) am_e237 rfl rfl rfl rfl ?_
  refine w_st (i' := 6) (ls' := [.ref 99, .int p1, .int p2, .int p3, .int w1, .int (-1), am_U]) (st' := []) (E' := E) (I' := (u_I I 116 (upd (I 116) 46 ((((I 116) 46) * (nI 1103515245)) + (nI 12345))))) (J' := J) (S' := S) am_e237 rfl rfl rfl rfl ?_
  refine w_st (i' := 7) (ls' := [.ref 99, .int p1, .int p2, .int p3, .int w1, .int (-1), am_U]) (st' := [.int (nI 0)]) (E' := E) (I' := (u_I I 116 (upd (I 116) 46 ((((I 116) 46) * (nI 1103515245)) + (nI 12345))))) (J' := J) (S' := S) am_e237 rfl rfl rfl rfl ?_
  refine w_st (i' := 8) (ls' := [.ref 99, .int p1, .int p2, .int p3, .int w1, .int (-1), .int (nI 0)]) (st' := []) (E' := E) (I' := (u_I I 116 (upd (I 116) 46 ((((I 116) 46) * (nI 1103515245)) + (nI 12345))))) (J' := J) (S' := S) am_e237 rfl rfl rfl rfl ?_
  exact h
theorem g237_8 {d1 : Value} {x2 : Int32} {x3 : Int32} {x4 : Int32} {x5 : Int32} {x6 : Int32} {E : am_Ev} {I : Nat → Nat → Int32} {J : Nat → Nat → Int64} {S : Nat → Nat → Option Nat} {Q : am_Qt} (hd1 : am_isL d1 = false) (h : (((I 103) 4) ≤ x6 → (am_ww 237 29 [.ref 99, d1, .int x2, .int x3, .int x4, .int x5, .int x6] [] E I J S Q)) ∧ (¬ ((I 103) 4) ≤ x6 → ((x5 = (-1) → (am_cl 220 [.ref 99, .int x6] E I J S (q_I fun v1 E1 I1 J1 S1 => (v1 = 0 → (am_ww 237 8 [.ref 99, d1, .int x2, .int x3, .int x4, .int x5, .int (x6 + nI 1)] [] E1 I1 J1 S1 Q)) ∧ (¬ v1 = 0 → (am_ww 237 8 [.ref 99, d1, .int x2, .int x3, .int (x4 - nI 1), .int (if x4 = 0 then x6 else x5), .int (x6 + nI 1)] [] E1 I1 J1 S1 Q))))) ∧ (¬ x5 = (-1) → (am_ww 237 29 [.ref 99, d1, .int x2, .int x3, .int x4, .int x5, .int x6] [] E I J S Q))))) : am_ww 237 8 [.ref 99, d1, .int x2, .int x3, .int x4, .int x5, .int x6] [] E I J S Q := by
  refine w_st (i' := 9) (ls' := [.ref 99, d1, .int x2, .int x3, .int x4, .int x5, .int x6]) (st' := [.int x6]) (E' := E) (I' := I) (J' := J) (S' := S) am_e237 rfl rfl rfl rfl ?_
  refine w_st (i' := 10) (ls' := [.ref 99, d1, .int x2, .int x3, .int x4, .int x5, .int x6]) (st' := [.ref 99, .int x6]) (E' := E) (I' := I) (J' := J) (S' := S) am_e237 rfl rfl rfl rfl ?_
  refine w_st (i' := 11) (ls' := [.ref 99, d1, .int x2, .int x3, .int x4, .int x5, .int x6]) (st' := [.ref 103, .int x6]) (E' := E) (I' := I) (J' := J) (S' := S) am_e237 rfl rfl rfl rfl ?_
  refine w_st (i' := 12) (ls' := [.ref 99, d1, .int x2, .int x3, .int x4, .int x5, .int x6]) (st' := [.int (nI 4), .ref 103, .int x6]) (E' := E) (I' := I) (J' := J) (S' := S) am_e237 rfl rfl rfl rfl ?_
  refine w_ia (k := 103) (n := 10) (jn := 4) am_e237 rfl rfl (by decide) (vp_in_nI (by decide) (by decide)) rfl ?_
  show am_ww 237 13 [.ref 99, d1, .int x2, .int x3, .int x4, .int x5, .int x6] [.int ((I 103) 4), .int x6] E I J S _
  refine w_if2 am_e237 rfl rfl (fun c => ?_) (fun c => ?_)
  · replace h := h.1 (of_decide_eq_true c)
    exact h
  · replace h := h.2 (of_decide_eq_false c)
    refine w_st (i' := 15) (ls' := [.ref 99, d1, .int x2, .int x3, .int x4, .int x5, .int x6]) (st' := [.int x5]) (E' := E) (I' := I) (J' := J) (S' := S) am_e237 rfl rfl rfl rfl ?_
    refine w_st (i' := 16) (ls' := [.ref 99, d1, .int x2, .int x3, .int x4, .int x5, .int x6]) (st' := [.int (-1), .int x5]) (E' := E) (I' := I) (J' := J) (S' := S) am_e237 rfl rfl rfl rfl ?_
    refine w_if2 am_e237 rfl rfl (fun c => ?_) (fun c => ?_)
    · replace h := h.2 (of_decide_eq_true c)
      exact h
    · replace h := h.1 (Decidable.not_not.mp (of_decide_eq_false c))
      refine w_st (i' := 18) (ls' := [.ref 99, d1, .int x2, .int x3, .int x4, .int x5, .int x6]) (st' := [.ref 99]) (E' := E) (I' := I) (J' := J) (S' := S) am_e237 rfl rfl rfl rfl ?_
      refine w_st (i' := 19) (ls' := [.ref 99, d1, .int x2, .int x3, .int x4, .int x5, .int x6]) (st' := [.int x6, .ref 99]) (E' := E) (I' := I) (J' := J) (S' := S) am_e237 rfl rfl rfl rfl ?_
      refine w_cI am_e237 rfl rfl (as := [.ref 99, .int x6]) (rest := []) rfl rfl (am_ww.mono h ?_)
      rintro _ E1 I1 J1 S1 ⟨v1, rfl, h⟩
      refine q_mkI ?_
      refine w_if1 am_e237 rfl rfl (fun c => ?_) (fun c => ?_)
      · replace h := h.2 (of_decide_eq_true c)
        refine w_st (i' := 23) (ls' := [.ref 99, d1, .int x2, .int x3, .int x4, .int x5, .int x6]) (st' := [.int x4]) (E' := E1) (I' := I1) (J' := J1) (S' := S1) am_e237 rfl rfl rfl rfl ?_
        refine w_mg (i := 26) (ls' := [.ref 99, d1, .int x2, .int x3, .int x4, .int (if x4 = 0 then x6 else x5), .int x6]) (st' := []) (fun hm => ?_) ?_
        · clear h
          refine w_if1 am_e237 rfl rfl (fun c => ?_) (fun c => ?_)
          · have m2 : ¬ (x4 = 0) := (of_decide_eq_true c)
            first | exact hm | (simp only [if_neg m2] at hm; exact hm)
          · have m2 : x4 = 0 := (Decidable.not_not.mp (of_decide_eq_false c))
            refine w_st (i' := 25) (ls' := [.ref 99, d1, .int x2, .int x3, .int x4, .int x5, .int x6]) (st' := [.int x6]) (E' := E1) (I' := I1) (J' := J1) (S' := S1) am_e237 rfl rfl rfl rfl ?_
            refine w_st (i' := 26) (ls' := [.ref 99, d1, .int x2, .int x3, .int x4, .int x6, .int x6]) (st' := []) (E' := E1) (I' := I1) (J' := J1) (S' := S1) am_e237 rfl rfl rfl rfl ?_
            first | exact hm | (simp only [if_pos m2] at hm; exact hm)
        refine w_st (i' := 27) (ls' := [.ref 99, d1, .int x2, .int x3, .int (x4 - nI 1), .int (if x4 = 0 then x6 else x5), .int x6]) (st' := []) (E' := E1) (I' := I1) (J' := J1) (S' := S1) am_e237 rfl rfl rfl rfl ?_
        refine w_st (i' := 28) (ls' := [.ref 99, d1, .int x2, .int x3, .int (x4 - nI 1), .int (if x4 = 0 then x6 else x5), .int (x6 + nI 1)]) (st' := []) (E' := E1) (I' := I1) (J' := J1) (S' := S1) am_e237 rfl rfl rfl rfl ?_
        refine w_st (i' := 8) (ls' := [.ref 99, d1, .int x2, .int x3, .int (x4 - nI 1), .int (if x4 = 0 then x6 else x5), .int (x6 + nI 1)]) (st' := []) (E' := E1) (I' := I1) (J' := J1) (S' := S1) am_e237 rfl rfl rfl rfl ?_
        exact h
      · replace h := h.1 (Decidable.not_not.mp (of_decide_eq_false c))
        refine w_st (i' := 27) (ls' := [.ref 99, d1, .int x2, .int x3, .int x4, .int x5, .int x6]) (st' := []) (E' := E1) (I' := I1) (J' := J1) (S' := S1) am_e237 rfl rfl rfl rfl ?_
        refine w_st (i' := 28) (ls' := [.ref 99, d1, .int x2, .int x3, .int x4, .int x5, .int (x6 + nI 1)]) (st' := []) (E' := E1) (I' := I1) (J' := J1) (S' := S1) am_e237 rfl rfl rfl rfl ?_
        refine w_st (i' := 8) (ls' := [.ref 99, d1, .int x2, .int x3, .int x4, .int x5, .int (x6 + nI 1)]) (st' := []) (E' := E1) (I' := I1) (J' := J1) (S' := S1) am_e237 rfl rfl rfl rfl ?_
        exact h
theorem g237_29 {d1 : Value} {x2 : Int32} {x3 : Int32} {d4 : Value} {x5 : Int32} {d6 : Value} {E : am_Ev} {I : Nat → Nat → Int32} {J : Nat → Nat → Int64} {S : Nat → Nat → Option Nat} {Q : am_Qt} (hd1 : am_isL d1 = false) (hd4 : am_isL d4 = false) (hd6 : am_isL d6 = false) (h : (¬ x2 = 0) ∧ (∀ w1 : Int32, w1 = (((((((I 116) 46) * (nI 1103515245)) + (nI 12345)) >>> ((nI 16) &&& 31)) &&& (nI 32767)) - ((((((I 116) 46) * (nI 1103515245)) + (nI 12345)) >>> ((nI 16) &&& 31)) &&& (nI 32767)) / x2 * x2) → ((x5 = ((I 116) 44) → (Q (.inl none) E (u_I I 116 (upd (upd (I 116) 46 ((((I 116) 46) * (nI 1103515245)) + (nI 12345))) 45 (w1 + (nI 1)))) J S)) ∧ (¬ x5 = ((I 116) 44) → ((x3 = 0 → (Q (.inl none) E (u_I I 116 (upd (upd (upd (upd (I 116) 46 ((((I 116) 46) * (nI 1103515245)) + (nI 12345))) 45 (w1 + (nI 1))) 47 (((I 116) 47) + (nI 1))) 44 x5)) J S)) ∧ (¬ x3 = 0 → ((((I 116) 44) = (-1) → (am_ww 237 66 [.ref 99, d1, .int x2, .int x3, d4, .int x5, .int ((I 116) 44)] [.int (nI 0), .int ((I 116) 47), .ref 120] E (u_I I 116 (upd (upd (I 116) 46 ((((I 116) 46) * (nI 1103515245)) + (nI 12345))) 45 (w1 + (nI 1)))) J S Q)) ∧ (¬ ((I 116) 44) = (-1) → (∀ w2 : Int32, w2 = (((nI 16) + ((nI 6) * ((I 116) 44))) + (nI 5)) → (vp_in w2 51 ∧ (am_ww 237 66 [.ref 99, d1, .int x2, .int x3, d4, .int x5, .int ((I 116) 44)] [.int ((upd (upd (I 116) 46 ((((I 116) 46) * (nI 1103515245)) + (nI 12345))) 45 (w1 + (nI 1))) w2.toNatClampNeg), .int ((I 116) 47), .ref 120] E (u_I I 116 (upd (upd (I 116) 46 ((((I 116) 46) * (nI 1103515245)) + (nI 12345))) 45 (w1 + (nI 1)))) J S Q))))))))))) : am_ww 237 29 [.ref 99, d1, .int x2, .int x3, d4, .int x5, d6] [] E I J S Q := by
  refine w_st (i' := 30) (ls' := [.ref 99, d1, .int x2, .int x3, d4, .int x5, d6]) (st' := [.ref 99]) (E' := E) (I' := I) (J' := J) (S' := S) am_e237 rfl rfl rfl rfl ?_
  refine w_st (i' := 31) (ls' := [.ref 99, d1, .int x2, .int x3, d4, .int x5, d6]) (st' := [.ref 116]) (E' := E) (I' := I) (J' := J) (S' := S) am_e237 rfl rfl rfl rfl ?_
  refine w_st (i' := 32) (ls' := [.ref 99, d1, .int x2, .int x3, d4, .int x5, d6]) (st' := [.int (nI 45), .ref 116]) (E' := E) (I' := I) (J' := J) (S' := S) am_e237 rfl rfl rfl rfl ?_
  refine w_st (i' := 33) (ls' := [.ref 99, d1, .int x2, .int x3, d4, .int x5, d6]) (st' := [.ref 99, .int (nI 45), .ref 116]) (E' := E) (I' := I) (J' := J) (S' := S) am_e237 rfl rfl rfl rfl ?_
  refine w_st (i' := 34) (ls' := [.ref 99, d1, .int x2, .int x3, d4, .int x5, d6]) (st' := [.int x2, .ref 99, .int (nI 45), .ref 116]) (E' := E) (I' := I) (J' := J) (S' := S) am_e237 rfl rfl rfl rfl ?_
  refine w_cI am_e237 rfl rfl (as := [.ref 99, .int x2]) (rest := [.int (nI 45), .ref 116]) rfl rfl ?_
  show am_ww 238 0 [.ref 99, .int x2] [] E I J S _
  refine w_st (i' := 1) (ls' := [.ref 99, .int x2]) (st' := [.ref 99]) (E' := E) (I' := I) (J' := J) (S' := S) am_e238 rfl rfl rfl rfl ?_
  refine w_st (i' := 2) (ls' := [.ref 99, .int x2]) (st' := [.ref 116]) (E' := E) (I' := I) (J' := J) (S' := S) am_e238 rfl rfl rfl rfl ?_
  refine w_st (i' := 3) (ls' := [.ref 99, .int x2]) (st' := [.int (nI 46), .ref 116]) (E' := E) (I' := I) (J' := J) (S' := S) am_e238 rfl rfl rfl rfl ?_
  refine w_st (i' := 4) (ls' := [.ref 99, .int x2]) (st' := [.ref 99, .int (nI 46), .ref 116]) (E' := E) (I' := I) (J' := J) (S' := S) am_e238 rfl rfl rfl rfl ?_
  refine w_st (i' := 5) (ls' := [.ref 99, .int x2]) (st' := [.ref 116, .int (nI 46), .ref 116]) (E' := E) (I' := I) (J' := J) (S' := S) am_e238 rfl rfl rfl rfl ?_
  refine w_st (i' := 6) (ls' := [.ref 99, .int x2]) (st' := [.int (nI 46), .ref 116, .int (nI 46), .ref 116]) (E' := E) (I' := I) (J' := J) (S' := S) am_e238 rfl rfl rfl rfl ?_
  refine w_ia (k := 116) (n := 51) (jn := 46) am_e238 rfl rfl (by decide) (vp_in_nI (by decide) (by decide)) rfl ?_
  show am_ww 238 7 [.ref 99, .int x2] [.int ((I 116) 46), .int (nI 46), .ref 116] E I J S _
  refine w_st (i' := 8) (ls' := [.ref 99, .int x2]) (st' := [.int (nI 1103515245), .int ((I 116) 46), .int (nI 46), .ref 116]) (E' := E) (I' := I) (J' := J) (S' := S) am_e238 rfl rfl rfl rfl ?_
  refine w_st (i' := 9) (ls' := [.ref 99, .int x2]) (st' := [.int (((I 116) 46) * (nI 1103515245)), .int (nI 46), .ref 116]) (E' := E) (I' := I) (J' := J) (S' := S) am_e238 rfl rfl rfl rfl ?_
  refine w_st (i' := 10) (ls' := [.ref 99, .int x2]) (st' := [.int (nI 12345), .int (((I 116) 46) * (nI 1103515245)), .int (nI 46), .ref 116]) (E' := E) (I' := I) (J' := J) (S' := S) am_e238 rfl rfl rfl rfl ?_
  refine w_st (i' := 11) (ls' := [.ref 99, .int x2]) (st' := [.int ((((I 116) 46) * (nI 1103515245)) + (nI 12345)), .int (nI 46), .ref 116]) (E' := E) (I' := I) (J' := J) (S' := S) am_e238 rfl rfl rfl rfl ?_
  refine w_is (k := 116) (n := 51) (jn := 46) am_e238 rfl rfl (by decide) (vp_in_nI (by decide) (by decide)) rfl ?_
  show am_ww 238 12 [.ref 99, .int x2] [] E (u_I I 116 (upd (I 116) 46 ((((I 116) 46) * (nI 1103515245)) + (nI 12345)))) J S _
  refine w_st (i' := 13) (ls' := [.ref 99, .int x2]) (st' := [.ref 99]) (E' := E) (I' := (u_I I 116 (upd (I 116) 46 ((((I 116) 46) * (nI 1103515245)) + (nI 12345))))) (J' := J) (S' := S) am_e238 rfl rfl rfl rfl ?_
  refine w_st (i' := 14) (ls' := [.ref 99, .int x2]) (st' := [.ref 116]) (E' := E) (I' := (u_I I 116 (upd (I 116) 46 ((((I 116) 46) * (nI 1103515245)) + (nI 12345))))) (J' := J) (S' := S) am_e238 rfl rfl rfl rfl ?_
  refine w_st (i' := 15) (ls' := [.ref 99, .int x2]) (st' := [.int (nI 46), .ref 116]) (E' := E) (I' := (u_I I 116 (upd (I 116) 46 ((((I 116) 46) * (nI 1103515245)) + (nI 12345))))) (J' := J) (S' := S) am_e238 rfl rfl rfl rfl ?_
  refine w_ia (k := 116) (n := 51) (jn := 46) am_e238 rfl rfl (by decide) (vp_in_nI (by decide) (by decide)) rfl ?_
  show am_ww 238 16 [.ref 99, .int x2] [.int ((((I 116) 46) * (nI 1103515245)) + (nI 12345))] E (u_I I 116 (upd (I 116) 46 ((((I 116) 46) * (nI 1103515245)) + (nI 12345)))) J S _
  refine w_st (i' := 17) (ls' := [.ref 99, .int x2]) (st' := [.int (nI 16), .int ((((I 116) 46) * (nI 1103515245)) + (nI 12345))]) (E' := E) (I' := (u_I I 116 (upd (I 116) 46 ((((I 116) 46) * (nI 1103515245)) + (nI 12345))))) (J' := J) (S' := S) am_e238 rfl rfl rfl rfl ?_
  refine w_st (i' := 18) (ls' := [.ref 99, .int x2]) (st' := [.int (((((I 116) 46) * (nI 1103515245)) + (nI 12345)) >>> ((nI 16) &&& 31))]) (E' := E) (I' := (u_I I 116 (upd (I 116) 46 ((((I 116) 46) * (nI 1103515245)) + (nI 12345))))) (J' := J) (S' := S) am_e238 rfl rfl rfl rfl ?_
  refine w_st (i' := 19) (ls' := [.ref 99, .int x2]) (st' := [.int (nI 32767), .int (((((I 116) 46) * (nI 1103515245)) + (nI 12345)) >>> ((nI 16) &&& 31))]) (E' := E) (I' := (u_I I 116 (upd (I 116) 46 ((((I 116) 46) * (nI 1103515245)) + (nI 12345))))) (J' := J) (S' := S) am_e238 rfl rfl rfl rfl ?_
  refine w_st (i' := 20) (ls' := [.ref 99, .int x2]) (st' := [.int ((((((I 116) 46) * (nI 1103515245)) + (nI 12345)) >>> ((nI 16) &&& 31)) &&& (nI 32767))]) (E' := E) (I' := (u_I I 116 (upd (I 116) 46 ((((I 116) 46) * (nI 1103515245)) + (nI 12345))))) (J' := J) (S' := S) am_e238 rfl rfl rfl rfl ?_
  refine w_st (i' := 21) (ls' := [.ref 99, .int x2]) (st' := [.int x2, .int ((((((I 116) 46) * (nI 1103515245)) + (nI 12345)) >>> ((nI 16) &&& 31)) &&& (nI 32767))]) (E' := E) (I' := (u_I I 116 (upd (I 116) 46 ((((I 116) 46) * (nI 1103515245)) + (nI 12345))))) (J' := J) (S' := S) am_e238 rfl rfl rfl rfl ?_
  refine w_rm h.1 am_e238 rfl ?_
  replace h := h.2
  refine w_ri am_e238 rfl rfl (q_mkI ?_)
  show am_ww 237 35 [.ref 99, d1, .int x2, .int x3, d4, .int x5, d6] [.int (((((((I 116) 46) * (nI 1103515245)) + (nI 12345)) >>> ((nI 16) &&& 31)) &&& (nI 32767)) - ((((((I 116) 46) * (nI 1103515245)) + (nI 12345)) >>> ((nI 16) &&& 31)) &&& (nI 32767)) / x2 * x2), .int (nI 45), .ref 116] E (u_I I 116 (upd (I 116) 46 ((((I 116) 46) * (nI 1103515245)) + (nI 12345)))) J S _
  refine w_var (fun w1 => am_ww 237 35 [.ref 99, d1, .int x2, .int x3, d4, .int x5, d6] [.int w1, .int (nI 45), .ref 116] E (u_I I 116 (upd (I 116) 46 ((((I 116) 46) * (nI 1103515245)) + (nI 12345)))) J S _) (((((((I 116) 46) * (nI 1103515245)) + (nI 12345)) >>> ((nI 16) &&& 31)) &&& (nI 32767)) - ((((((I 116) 46) * (nI 1103515245)) + (nI 12345)) >>> ((nI 16) &&& 31)) &&& (nI 32767)) / x2 * x2) (fun w1 hw1 => ?_)
  replace h := h w1 hw1
  refine w_st (i' := 36) (ls' := [.ref 99, d1, .int x2, .int x3, d4, .int x5, d6]) (st' := [.int (nI 1), .int w1, .int (nI 45), .ref 116]) (E' := E) (I' := (u_I I 116 (upd (I 116) 46 ((((I 116) 46) * (nI 1103515245)) + (nI 12345))))) (J' := J) (S' := S) am_e237 rfl rfl rfl rfl ?_
  refine w_st (i' := 37) (ls' := [.ref 99, d1, .int x2, .int x3, d4, .int x5, d6]) (st' := [.int (w1 + (nI 1)), .int (nI 45), .ref 116]) (E' := E) (I' := (u_I I 116 (upd (I 116) 46 ((((I 116) 46) * (nI 1103515245)) + (nI 12345))))) (J' := J) (S' := S) am_e237 rfl rfl rfl rfl ?_
  refine w_is (k := 116) (n := 51) (jn := 45) am_e237 rfl rfl (by decide) (vp_in_nI (by decide) (by decide)) rfl ?_
  refine w_eI (uI_0 ..) ?_
  show am_ww 237 38 [.ref 99, d1, .int x2, .int x3, d4, .int x5, d6] [] E (u_I I 116 (upd (upd (I 116) 46 ((((I 116) 46) * (nI 1103515245)) + (nI 12345))) 45 (w1 + (nI 1)))) J S _
  refine w_st (i' := 39) (ls' := [.ref 99, d1, .int x2, .int x3, d4, .int x5, d6]) (st' := [.ref 99]) (E' := E) (I' := (u_I I 116 (upd (upd (I 116) 46 ((((I 116) 46) * (nI 1103515245)) + (nI 12345))) 45 (w1 + (nI 1))))) (J' := J) (S' := S) am_e237 rfl rfl rfl rfl ?_
  refine w_st (i' := 40) (ls' := [.ref 99, d1, .int x2, .int x3, d4, .int x5, d6]) (st' := [.ref 116]) (E' := E) (I' := (u_I I 116 (upd (upd (I 116) 46 ((((I 116) 46) * (nI 1103515245)) + (nI 12345))) 45 (w1 + (nI 1))))) (J' := J) (S' := S) am_e237 rfl rfl rfl rfl ?_
  refine w_st (i' := 41) (ls' := [.ref 99, d1, .int x2, .int x3, d4, .int x5, d6]) (st' := [.int (nI 44), .ref 116]) (E' := E) (I' := (u_I I 116 (upd (upd (I 116) 46 ((((I 116) 46) * (nI 1103515245)) + (nI 12345))) 45 (w1 + (nI 1))))) (J' := J) (S' := S) am_e237 rfl rfl rfl rfl ?_
  refine w_ia (k := 116) (n := 51) (jn := 44) am_e237 rfl rfl (by decide) (vp_in_nI (by decide) (by decide)) rfl ?_
  show am_ww 237 42 [.ref 99, d1, .int x2, .int x3, d4, .int x5, d6] [.int ((I 116) 44)] E (u_I I 116 (upd (upd (I 116) 46 ((((I 116) 46) * (nI 1103515245)) + (nI 12345))) 45 (w1 + (nI 1)))) J S _
  refine w_st (i' := 43) (ls' := [.ref 99, d1, .int x2, .int x3, d4, .int x5, .int ((I 116) 44)]) (st' := []) (E' := E) (I' := (u_I I 116 (upd (upd (I 116) 46 ((((I 116) 46) * (nI 1103515245)) + (nI 12345))) 45 (w1 + (nI 1))))) (J' := J) (S' := S) am_e237 rfl rfl rfl rfl ?_
  refine w_st (i' := 44) (ls' := [.ref 99, d1, .int x2, .int x3, d4, .int x5, .int ((I 116) 44)]) (st' := [.int x5]) (E' := E) (I' := (u_I I 116 (upd (upd (I 116) 46 ((((I 116) 46) * (nI 1103515245)) + (nI 12345))) 45 (w1 + (nI 1))))) (J' := J) (S' := S) am_e237 rfl rfl rfl rfl ?_
  refine w_st (i' := 45) (ls' := [.ref 99, d1, .int x2, .int x3, d4, .int x5, .int ((I 116) 44)]) (st' := [.int ((I 116) 44), .int x5]) (E' := E) (I' := (u_I I 116 (upd (upd (I 116) 46 ((((I 116) 46) * (nI 1103515245)) + (nI 12345))) 45 (w1 + (nI 1))))) (J' := J) (S' := S) am_e237 rfl rfl rfl rfl ?_
  refine w_if2 am_e237 rfl rfl (fun c => ?_) (fun c => ?_)
  · replace h := h.2 (of_decide_eq_true c)
    refine w_st (i' := 48) (ls' := [.ref 99, d1, .int x2, .int x3, d4, .int x5, .int ((I 116) 44)]) (st' := [.int x3]) (E' := E) (I' := (u_I I 116 (upd (upd (I 116) 46 ((((I 116) 46) * (nI 1103515245)) + (nI 12345))) 45 (w1 + (nI 1))))) (J' := J) (S' := S) am_e237 rfl rfl rfl rfl ?_
    refine w_if1 am_e237 rfl rfl (fun c => ?_) (fun c => ?_)
    · replace h := h.1 (of_decide_eq_true c)
      refine w_st (i' := 94) (ls' := [.ref 99, d1, .int x2, .int x3, d4, .int x5, .int ((I 116) 44)]) (st' := [.ref 99]) (E' := E) (I' := (u_I I 116 (upd (upd (I 116) 46 ((((I 116) 46) * (nI 1103515245)) + (nI 12345))) 45 (w1 + (nI 1))))) (J' := J) (S' := S) am_e237 rfl rfl rfl rfl ?_
      refine w_st (i' := 95) (ls' := [.ref 99, d1, .int x2, .int x3, d4, .int x5, .int ((I 116) 44)]) (st' := [.ref 116]) (E' := E) (I' := (u_I I 116 (upd (upd (I 116) 46 ((((I 116) 46) * (nI 1103515245)) + (nI 12345))) 45 (w1 + (nI 1))))) (J' := J) (S' := S) am_e237 rfl rfl rfl rfl ?_
      refine w_st (i' := 96) (ls' := [.ref 99, d1, .int x2, .int x3, d4, .int x5, .int ((I 116) 44)]) (st' := [.int (nI 47), .ref 116]) (E' := E) (I' := (u_I I 116 (upd (upd (I 116) 46 ((((I 116) 46) * (nI 1103515245)) + (nI 12345))) 45 (w1 + (nI 1))))) (J' := J) (S' := S) am_e237 rfl rfl rfl rfl ?_
      refine w_st (i' := 97) (ls' := [.ref 99, d1, .int x2, .int x3, d4, .int x5, .int ((I 116) 44)]) (st' := [.int (nI 47), .ref 116, .int (nI 47), .ref 116]) (E' := E) (I' := (u_I I 116 (upd (upd (I 116) 46 ((((I 116) 46) * (nI 1103515245)) + (nI 12345))) 45 (w1 + (nI 1))))) (J' := J) (S' := S) am_e237 rfl rfl rfl rfl ?_
      refine w_ia (k := 116) (n := 51) (jn := 47) am_e237 rfl rfl (by decide) (vp_in_nI (by decide) (by decide)) rfl ?_
      show am_ww 237 98 [.ref 99, d1, .int x2, .int x3, d4, .int x5, .int ((I 116) 44)] [.int ((I 116) 47), .int (nI 47), .ref 116] E (u_I I 116 (upd (upd (I 116) 46 ((((I 116) 46) * (nI 1103515245)) + (nI 12345))) 45 (w1 + (nI 1)))) J S _
      refine w_st (i' := 99) (ls' := [.ref 99, d1, .int x2, .int x3, d4, .int x5, .int ((I 116) 44)]) (st' := [.int (nI 1), .int ((I 116) 47), .int (nI 47), .ref 116]) (E' := E) (I' := (u_I I 116 (upd (upd (I 116) 46 ((((I 116) 46) * (nI 1103515245)) + (nI 12345))) 45 (w1 + (nI 1))))) (J' := J) (S' := S) am_e237 rfl rfl rfl rfl ?_
      refine w_st (i' := 100) (ls' := [.ref 99, d1, .int x2, .int x3, d4, .int x5, .int ((I 116) 44)]) (st' := [.int (((I 116) 47) + (nI 1)), .int (nI 47), .ref 116]) (E' := E) (I' := (u_I I 116 (upd (upd (I 116) 46 ((((I 116) 46) * (nI 1103515245)) + (nI 12345))) 45 (w1 + (nI 1))))) (J' := J) (S' := S) am_e237 rfl rfl rfl rfl ?_
      refine w_is (k := 116) (n := 51) (jn := 47) am_e237 rfl rfl (by decide) (vp_in_nI (by decide) (by decide)) rfl ?_
      refine w_eI (uI_0 ..) ?_
      show am_ww 237 101 [.ref 99, d1, .int x2, .int x3, d4, .int x5, .int ((I 116) 44)] [] E (u_I I 116 (upd (upd (upd (I 116) 46 ((((I 116) 46) * (nI 1103515245)) + (nI 12345))) 45 (w1 + (nI 1))) 47 (((I 116) 47) + (nI 1)))) J S _
      refine w_st (i' := 102) (ls' := [.ref 99, d1, .int x2, .int x3, d4, .int x5, .int ((I 116) 44)]) (st' := [.ref 99]) (E' := E) (I' := (u_I I 116 (upd (upd (upd (I 116) 46 ((((I 116) 46) * (nI 1103515245)) + (nI 12345))) 45 (w1 + (nI 1))) 47 (((I 116) 47) + (nI 1))))) (J' := J) (S' := S) am_e237 rfl rfl rfl rfl ?_
      refine w_st (i' := 103) (ls' := [.ref 99, d1, .int x2, .int x3, d4, .int x5, .int ((I 116) 44)]) (st' := [.ref 116]) (E' := E) (I' := (u_I I 116 (upd (upd (upd (I 116) 46 ((((I 116) 46) * (nI 1103515245)) + (nI 12345))) 45 (w1 + (nI 1))) 47 (((I 116) 47) + (nI 1))))) (J' := J) (S' := S) am_e237 rfl rfl rfl rfl ?_
      refine w_st (i' := 104) (ls' := [.ref 99, d1, .int x2, .int x3, d4, .int x5, .int ((I 116) 44)]) (st' := [.int (nI 44), .ref 116]) (E' := E) (I' := (u_I I 116 (upd (upd (upd (I 116) 46 ((((I 116) 46) * (nI 1103515245)) + (nI 12345))) 45 (w1 + (nI 1))) 47 (((I 116) 47) + (nI 1))))) (J' := J) (S' := S) am_e237 rfl rfl rfl rfl ?_
      refine w_st (i' := 105) (ls' := [.ref 99, d1, .int x2, .int x3, d4, .int x5, .int ((I 116) 44)]) (st' := [.int x5, .int (nI 44), .ref 116]) (E' := E) (I' := (u_I I 116 (upd (upd (upd (I 116) 46 ((((I 116) 46) * (nI 1103515245)) + (nI 12345))) 45 (w1 + (nI 1))) 47 (((I 116) 47) + (nI 1))))) (J' := J) (S' := S) am_e237 rfl rfl rfl rfl ?_
      refine w_is (k := 116) (n := 51) (jn := 44) am_e237 rfl rfl (by decide) (vp_in_nI (by decide) (by decide)) rfl ?_
      refine w_eI (uI_0 ..) ?_
      show am_ww 237 106 [.ref 99, d1, .int x2, .int x3, d4, .int x5, .int ((I 116) 44)] [] E (u_I I 116 (upd (upd (upd (upd (I 116) 46 ((((I 116) 46) * (nI 1103515245)) + (nI 12345))) 45 (w1 + (nI 1))) 47 (((I 116) 47) + (nI 1))) 44 x5)) J S _
      exact w_end am_e237 rfl rfl rfl h
    · replace h := h.2 (of_decide_eq_false c)
      refine w_st (i' := 50) (ls' := [.ref 99, d1, .int x2, .int x3, d4, .int x5, .int ((I 116) 44)]) (st' := [.ref 99]) (E' := E) (I' := (u_I I 116 (upd (upd (I 116) 46 ((((I 116) 46) * (nI 1103515245)) + (nI 12345))) 45 (w1 + (nI 1))))) (J' := J) (S' := S) am_e237 rfl rfl rfl rfl ?_
      refine w_st (i' := 51) (ls' := [.ref 99, d1, .int x2, .int x3, d4, .int x5, .int ((I 116) 44)]) (st' := [.ref 120]) (E' := E) (I' := (u_I I 116 (upd (upd (I 116) 46 ((((I 116) 46) * (nI 1103515245)) + (nI 12345))) 45 (w1 + (nI 1))))) (J' := J) (S' := S) am_e237 rfl rfl rfl rfl ?_
      refine w_st (i' := 52) (ls' := [.ref 99, d1, .int x2, .int x3, d4, .int x5, .int ((I 116) 44)]) (st' := [.ref 99, .ref 120]) (E' := E) (I' := (u_I I 116 (upd (upd (I 116) 46 ((((I 116) 46) * (nI 1103515245)) + (nI 12345))) 45 (w1 + (nI 1))))) (J' := J) (S' := S) am_e237 rfl rfl rfl rfl ?_
      refine w_st (i' := 53) (ls' := [.ref 99, d1, .int x2, .int x3, d4, .int x5, .int ((I 116) 44)]) (st' := [.ref 116, .ref 120]) (E' := E) (I' := (u_I I 116 (upd (upd (I 116) 46 ((((I 116) 46) * (nI 1103515245)) + (nI 12345))) 45 (w1 + (nI 1))))) (J' := J) (S' := S) am_e237 rfl rfl rfl rfl ?_
      refine w_st (i' := 54) (ls' := [.ref 99, d1, .int x2, .int x3, d4, .int x5, .int ((I 116) 44)]) (st' := [.int (nI 47), .ref 116, .ref 120]) (E' := E) (I' := (u_I I 116 (upd (upd (I 116) 46 ((((I 116) 46) * (nI 1103515245)) + (nI 12345))) 45 (w1 + (nI 1))))) (J' := J) (S' := S) am_e237 rfl rfl rfl rfl ?_
      refine w_ia (k := 116) (n := 51) (jn := 47) am_e237 rfl rfl (by decide) (vp_in_nI (by decide) (by decide)) rfl ?_
      show am_ww 237 55 [.ref 99, d1, .int x2, .int x3, d4, .int x5, .int ((I 116) 44)] [.int ((I 116) 47), .ref 120] E (u_I I 116 (upd (upd (I 116) 46 ((((I 116) 46) * (nI 1103515245)) + (nI 12345))) 45 (w1 + (nI 1)))) J S _
      refine w_st (i' := 56) (ls' := [.ref 99, d1, .int x2, .int x3, d4, .int x5, .int ((I 116) 44)]) (st' := [.int ((I 116) 44), .int ((I 116) 47), .ref 120]) (E' := E) (I' := (u_I I 116 (upd (upd (I 116) 46 ((((I 116) 46) * (nI 1103515245)) + (nI 12345))) 45 (w1 + (nI 1))))) (J' := J) (S' := S) am_e237 rfl rfl rfl rfl ?_
      refine w_st (i' := 57) (ls' := [.ref 99, d1, .int x2, .int x3, d4, .int x5, .int ((I 116) 44)]) (st' := [.int (-1), .int ((I 116) 44), .int ((I 116) 47), .ref 120]) (E' := E) (I' := (u_I I 116 (upd (upd (I 116) 46 ((((I 116) 46) * (nI 1103515245)) + (nI 12345))) 45 (w1 + (nI 1))))) (J' := J) (S' := S) am_e237 rfl rfl rfl rfl ?_
      refine w_if2 am_e237 rfl rfl (fun c => ?_) (fun c => ?_)
      · replace h := h.2 (of_decide_eq_true c)
        refine w_st (i' := 61) (ls' := [.ref 99, d1, .int x2, .int x3, d4, .int x5, .int ((I 116) 44)]) (st' := [.ref 99, .int ((I 116) 47), .ref 120]) (E' := E) (I' := (u_I I 116 (upd (upd (I 116) 46 ((((I 116) 46) * (nI 1103515245)) + (nI 12345))) 45 (w1 + (nI 1))))) (J' := J) (S' := S) am_e237 rfl rfl rfl rfl ?_
        refine w_st (i' := 62) (ls' := [.ref 99, d1, .int x2, .int x3, d4, .int x5, .int ((I 116) 44)]) (st' := [.ref 116, .int ((I 116) 47), .ref 120]) (E' := E) (I' := (u_I I 116 (upd (upd (I 116) 46 ((((I 116) 46) * (nI 1103515245)) + (nI 12345))) 45 (w1 + (nI 1))))) (J' := J) (S' := S) am_e237 rfl rfl rfl rfl ?_
        refine w_st (i' := 63) (ls' := [.ref 99, d1, .int x2, .int x3, d4, .int x5, .int ((I 116) 44)]) (st' := [.int ((I 116) 44), .ref 116, .int ((I 116) 47), .ref 120]) (E' := E) (I' := (u_I I 116 (upd (upd (I 116) 46 ((((I 116) 46) * (nI 1103515245)) + (nI 12345))) 45 (w1 + (nI 1))))) (J' := J) (S' := S) am_e237 rfl rfl rfl rfl ?_
        refine w_st (i' := 64) (ls' := [.ref 99, d1, .int x2, .int x3, d4, .int x5, .int ((I 116) 44)]) (st' := [.int (nI 5), .int ((I 116) 44), .ref 116, .int ((I 116) 47), .ref 120]) (E' := E) (I' := (u_I I 116 (upd (upd (I 116) 46 ((((I 116) 46) * (nI 1103515245)) + (nI 12345))) 45 (w1 + (nI 1))))) (J' := J) (S' := S) am_e237 rfl rfl rfl rfl ?_
        refine w_cI am_e237 rfl rfl (as := [.int ((I 116) 44), .int (nI 5)]) (rest := [.ref 116, .int ((I 116) 47), .ref 120]) rfl rfl ?_
        show am_ww 222 0 [.int ((I 116) 44), .int (nI 5)] [] E (u_I I 116 (upd (upd (I 116) 46 ((((I 116) 46) * (nI 1103515245)) + (nI 12345))) 45 (w1 + (nI 1)))) J S _
        refine w_st (i' := 1) (ls' := [.int ((I 116) 44), .int (nI 5)]) (st' := [.int (nI 16)]) (E' := E) (I' := (u_I I 116 (upd (upd (I 116) 46 ((((I 116) 46) * (nI 1103515245)) + (nI 12345))) 45 (w1 + (nI 1))))) (J' := J) (S' := S) am_e222 rfl rfl rfl rfl ?_
        refine w_st (i' := 2) (ls' := [.int ((I 116) 44), .int (nI 5)]) (st' := [.int (nI 6), .int (nI 16)]) (E' := E) (I' := (u_I I 116 (upd (upd (I 116) 46 ((((I 116) 46) * (nI 1103515245)) + (nI 12345))) 45 (w1 + (nI 1))))) (J' := J) (S' := S) am_e222 rfl rfl rfl rfl ?_
        refine w_st (i' := 3) (ls' := [.int ((I 116) 44), .int (nI 5)]) (st' := [.int ((I 116) 44), .int (nI 6), .int (nI 16)]) (E' := E) (I' := (u_I I 116 (upd (upd (I 116) 46 ((((I 116) 46) * (nI 1103515245)) + (nI 12345))) 45 (w1 + (nI 1))))) (J' := J) (S' := S) am_e222 rfl rfl rfl rfl ?_
        refine w_st (i' := 4) (ls' := [.int ((I 116) 44), .int (nI 5)]) (st' := [.int ((nI 6) * ((I 116) 44)), .int (nI 16)]) (E' := E) (I' := (u_I I 116 (upd (upd (I 116) 46 ((((I 116) 46) * (nI 1103515245)) + (nI 12345))) 45 (w1 + (nI 1))))) (J' := J) (S' := S) am_e222 rfl rfl rfl rfl ?_
        refine w_st (i' := 5) (ls' := [.int ((I 116) 44), .int (nI 5)]) (st' := [.int ((nI 16) + ((nI 6) * ((I 116) 44)))]) (E' := E) (I' := (u_I I 116 (upd (upd (I 116) 46 ((((I 116) 46) * (nI 1103515245)) + (nI 12345))) 45 (w1 + (nI 1))))) (J' := J) (S' := S) am_e222 rfl rfl rfl rfl ?_
        refine w_st (i' := 6) (ls' := [.int ((I 116) 44), .int (nI 5)]) (st' := [.int (nI 5), .int ((nI 16) + ((nI 6) * ((I 116) 44)))]) (E' := E) (I' := (u_I I 116 (upd (upd (I 116) 46 ((((I 116) 46) * (nI 1103515245)) + (nI 12345))) 45 (w1 + (nI 1))))) (J' := J) (S' := S) am_e222 rfl rfl rfl rfl ?_
        refine w_st (i' := 7) (ls' := [.int ((I 116) 44), .int (nI 5)]) (st' := [.int (((nI 16) + ((nI 6) * ((I 116) 44))) + (nI 5))]) (E' := E) (I' := (u_I I 116 (upd (upd (I 116) 46 ((((I 116) 46) * (nI 1103515245)) + (nI 12345))) 45 (w1 + (nI 1))))) (J' := J) (S' := S) am_e222 rfl rfl rfl rfl ?_
        refine w_ri am_e222 rfl rfl (q_mkI ?_)
        show am_ww 237 65 [.ref 99, d1, .int x2, .int x3, d4, .int x5, .int ((I 116) 44)] [.int (((nI 16) + ((nI 6) * ((I 116) 44))) + (nI 5)), .ref 116, .int ((I 116) 47), .ref 120] E (u_I I 116 (upd (upd (I 116) 46 ((((I 116) 46) * (nI 1103515245)) + (nI 12345))) 45 (w1 + (nI 1)))) J S _
        refine w_var (fun w2 => am_ww 237 65 [.ref 99, d1, .int x2, .int x3, d4, .int x5, .int ((I 116) 44)] [.int w2, .ref 116, .int ((I 116) 47), .ref 120] E (u_I I 116 (upd (upd (I 116) 46 ((((I 116) 46) * (nI 1103515245)) + (nI 12345))) 45 (w1 + (nI 1)))) J S _) (((nI 16) + ((nI 6) * ((I 116) 44))) + (nI 5)) (fun w2 hw2 => ?_)
        replace h := h w2 hw2
        have hf3 := h.1
        replace h := h.2
        refine w_ia (k := 116) (n := 51) (jn := w2.toNatClampNeg) am_e237 rfl rfl (by decide) hf3 rfl ?_
        show am_ww 237 66 [.ref 99, d1, .int x2, .int x3, d4, .int x5, .int ((I 116) 44)] [.int ((upd (upd (I 116) 46 ((((I 116) 46) * (nI 1103515245)) + (nI 12345))) 45 (w1 + (nI 1))) w2.toNatClampNeg), .int ((I 116) 47), .ref 120] E (u_I I 116 (upd (upd (I 116) 46 ((((I 116) 46) * (nI 1103515245)) + (nI 12345))) 45 (w1 + (nI 1)))) J S _
        exact h
      · replace h := h.1 (Decidable.not_not.mp (of_decide_eq_false c))
        refine w_st (i' := 59) (ls' := [.ref 99, d1, .int x2, .int x3, d4, .int x5, .int ((I 116) 44)]) (st' := [.int (nI 0), .int ((I 116) 47), .ref 120]) (E' := E) (I' := (u_I I 116 (upd (upd (I 116) 46 ((((I 116) 46) * (nI 1103515245)) + (nI 12345))) 45 (w1 + (nI 1))))) (J' := J) (S' := S) am_e237 rfl rfl rfl rfl ?_
        refine w_st (i' := 66) (ls' := [.ref 99, d1, .int x2, .int x3, d4, .int x5, .int ((I 116) 44)]) (st' := [.int (nI 0), .int ((I 116) 47), .ref 120]) (E' := E) (I' := (u_I I 116 (upd (upd (I 116) 46 ((((I 116) 46) * (nI 1103515245)) + (nI 12345))) 45 (w1 + (nI 1))))) (J' := J) (S' := S) am_e237 rfl rfl rfl rfl ?_
        exact h
  · replace h := h.1 (Decidable.not_not.mp (of_decide_eq_false c))
    exact w_end am_e237 rfl rfl rfl h
theorem g237_66 {d1 : Value} {d2 : Value} {d3 : Value} {d4 : Value} {x5 : Int32} {x6 : Int32} {y0 : Int32} {y1 : Int32} {E : am_Ev} {I : Nat → Nat → Int32} {J : Nat → Nat → Int64} {S : Nat → Nat → Option Nat} {Q : am_Qt} (hd1 : am_isL d1 = false) (hd2 : am_isL d2 = false) (hd3 : am_isL d3 = false) (hd4 : am_isL d4 = false) (h : vp_in y1 400 ∧ ((x6 = (-1) → (am_ww 237 84 [.ref 99, d1, d2, d3, d4, .int x5, .int x6] [.int (nI 0), .int ((I 116) 47), .ref 121] E (u_I I 120 (upd (I 120) y1.toNatClampNeg y0)) J S Q)) ∧ (¬ x6 = (-1) → (∀ w2 : Int32, w2 = (((nI 16) + ((nI 6) * x6)) + (nI 4)) → (vp_in w2 51 ∧ (am_ww 237 84 [.ref 99, d1, d2, d3, d4, .int x5, .int x6] [.int ((I 116) w2.toNatClampNeg), .int ((I 116) 47), .ref 121] E (u_I I 120 (upd (I 120) y1.toNatClampNeg y0)) J S Q)))))) : am_ww 237 66 [.ref 99, d1, d2, d3, d4, .int x5, .int x6] [.int y0, .int y1, .ref 120] E I J S Q := by
  have hf1 := h.1
  replace h := h.2
  refine w_is (k := 120) (n := 400) (jn := y1.toNatClampNeg) am_e237 rfl rfl (by decide) hf1 rfl ?_
  show am_ww 237 67 [.ref 99, d1, d2, d3, d4, .int x5, .int x6] [] E (u_I I 120 (upd (I 120) y1.toNatClampNeg y0)) J S _
  refine w_st (i' := 68) (ls' := [.ref 99, d1, d2, d3, d4, .int x5, .int x6]) (st' := [.ref 99]) (E' := E) (I' := (u_I I 120 (upd (I 120) y1.toNatClampNeg y0))) (J' := J) (S' := S) am_e237 rfl rfl rfl rfl ?_
  refine w_st (i' := 69) (ls' := [.ref 99, d1, d2, d3, d4, .int x5, .int x6]) (st' := [.ref 121]) (E' := E) (I' := (u_I I 120 (upd (I 120) y1.toNatClampNeg y0))) (J' := J) (S' := S) am_e237 rfl rfl rfl rfl ?_
  refine w_st (i' := 70) (ls' := [.ref 99, d1, d2, d3, d4, .int x5, .int x6]) (st' := [.ref 99, .ref 121]) (E' := E) (I' := (u_I I 120 (upd (I 120) y1.toNatClampNeg y0))) (J' := J) (S' := S) am_e237 rfl rfl rfl rfl ?_
  refine w_st (i' := 71) (ls' := [.ref 99, d1, d2, d3, d4, .int x5, .int x6]) (st' := [.ref 116, .ref 121]) (E' := E) (I' := (u_I I 120 (upd (I 120) y1.toNatClampNeg y0))) (J' := J) (S' := S) am_e237 rfl rfl rfl rfl ?_
  refine w_st (i' := 72) (ls' := [.ref 99, d1, d2, d3, d4, .int x5, .int x6]) (st' := [.int (nI 47), .ref 116, .ref 121]) (E' := E) (I' := (u_I I 120 (upd (I 120) y1.toNatClampNeg y0))) (J' := J) (S' := S) am_e237 rfl rfl rfl rfl ?_
  refine w_ia (k := 116) (n := 51) (jn := 47) am_e237 rfl rfl (by decide) (vp_in_nI (by decide) (by decide)) rfl ?_
  show am_ww 237 73 [.ref 99, d1, d2, d3, d4, .int x5, .int x6] [.int ((I 116) 47), .ref 121] E (u_I I 120 (upd (I 120) y1.toNatClampNeg y0)) J S _
  refine w_st (i' := 74) (ls' := [.ref 99, d1, d2, d3, d4, .int x5, .int x6]) (st' := [.int x6, .int ((I 116) 47), .ref 121]) (E' := E) (I' := (u_I I 120 (upd (I 120) y1.toNatClampNeg y0))) (J' := J) (S' := S) am_e237 rfl rfl rfl rfl ?_
  refine w_st (i' := 75) (ls' := [.ref 99, d1, d2, d3, d4, .int x5, .int x6]) (st' := [.int (-1), .int x6, .int ((I 116) 47), .ref 121]) (E' := E) (I' := (u_I I 120 (upd (I 120) y1.toNatClampNeg y0))) (J' := J) (S' := S) am_e237 rfl rfl rfl rfl ?_
  refine w_if2 am_e237 rfl rfl (fun c => ?_) (fun c => ?_)
  · replace h := h.2 (of_decide_eq_true c)
    refine w_st (i' := 79) (ls' := [.ref 99, d1, d2, d3, d4, .int x5, .int x6]) (st' := [.ref 99, .int ((I 116) 47), .ref 121]) (E' := E) (I' := (u_I I 120 (upd (I 120) y1.toNatClampNeg y0))) (J' := J) (S' := S) am_e237 rfl rfl rfl rfl ?_
    refine w_st (i' := 80) (ls' := [.ref 99, d1, d2, d3, d4, .int x5, .int x6]) (st' := [.ref 116, .int ((I 116) 47), .ref 121]) (E' := E) (I' := (u_I I 120 (upd (I 120) y1.toNatClampNeg y0))) (J' := J) (S' := S) am_e237 rfl rfl rfl rfl ?_
    refine w_st (i' := 81) (ls' := [.ref 99, d1, d2, d3, d4, .int x5, .int x6]) (st' := [.int x6, .ref 116, .int ((I 116) 47), .ref 121]) (E' := E) (I' := (u_I I 120 (upd (I 120) y1.toNatClampNeg y0))) (J' := J) (S' := S) am_e237 rfl rfl rfl rfl ?_
    refine w_st (i' := 82) (ls' := [.ref 99, d1, d2, d3, d4, .int x5, .int x6]) (st' := [.int (nI 4), .int x6, .ref 116, .int ((I 116) 47), .ref 121]) (E' := E) (I' := (u_I I 120 (upd (I 120) y1.toNatClampNeg y0))) (J' := J) (S' := S) am_e237 rfl rfl rfl rfl ?_
    refine w_cI am_e237 rfl rfl (as := [.int x6, .int (nI 4)]) (rest := [.ref 116, .int ((I 116) 47), .ref 121]) rfl rfl ?_
    show am_ww 222 0 [.int x6, .int (nI 4)] [] E (u_I I 120 (upd (I 120) y1.toNatClampNeg y0)) J S _
    refine w_st (i' := 1) (ls' := [.int x6, .int (nI 4)]) (st' := [.int (nI 16)]) (E' := E) (I' := (u_I I 120 (upd (I 120) y1.toNatClampNeg y0))) (J' := J) (S' := S) am_e222 rfl rfl rfl rfl ?_
    refine w_st (i' := 2) (ls' := [.int x6, .int (nI 4)]) (st' := [.int (nI 6), .int (nI 16)]) (E' := E) (I' := (u_I I 120 (upd (I 120) y1.toNatClampNeg y0))) (J' := J) (S' := S) am_e222 rfl rfl rfl rfl ?_
    refine w_st (i' := 3) (ls' := [.int x6, .int (nI 4)]) (st' := [.int x6, .int (nI 6), .int (nI 16)]) (E' := E) (I' := (u_I I 120 (upd (I 120) y1.toNatClampNeg y0))) (J' := J) (S' := S) am_e222 rfl rfl rfl rfl ?_
    refine w_st (i' := 4) (ls' := [.int x6, .int (nI 4)]) (st' := [.int ((nI 6) * x6), .int (nI 16)]) (E' := E) (I' := (u_I I 120 (upd (I 120) y1.toNatClampNeg y0))) (J' := J) (S' := S) am_e222 rfl rfl rfl rfl ?_
    refine w_st (i' := 5) (ls' := [.int x6, .int (nI 4)]) (st' := [.int ((nI 16) + ((nI 6) * x6))]) (E' := E) (I' := (u_I I 120 (upd (I 120) y1.toNatClampNeg y0))) (J' := J) (S' := S) am_e222 rfl rfl rfl rfl ?_
    refine w_st (i' := 6) (ls' := [.int x6, .int (nI 4)]) (st' := [.int (nI 4), .int ((nI 16) + ((nI 6) * x6))]) (E' := E) (I' := (u_I I 120 (upd (I 120) y1.toNatClampNeg y0))) (J' := J) (S' := S) am_e222 rfl rfl rfl rfl ?_
    refine w_st (i' := 7) (ls' := [.int x6, .int (nI 4)]) (st' := [.int (((nI 16) + ((nI 6) * x6)) + (nI 4))]) (E' := E) (I' := (u_I I 120 (upd (I 120) y1.toNatClampNeg y0))) (J' := J) (S' := S) am_e222 rfl rfl rfl rfl ?_
    refine w_ri am_e222 rfl rfl (q_mkI ?_)
    show am_ww 237 83 [.ref 99, d1, d2, d3, d4, .int x5, .int x6] [.int (((nI 16) + ((nI 6) * x6)) + (nI 4)), .ref 116, .int ((I 116) 47), .ref 121] E (u_I I 120 (upd (I 120) y1.toNatClampNeg y0)) J S _
    refine w_var (fun w2 => am_ww 237 83 [.ref 99, d1, d2, d3, d4, .int x5, .int x6] [.int w2, .ref 116, .int ((I 116) 47), .ref 121] E (u_I I 120 (upd (I 120) y1.toNatClampNeg y0)) J S _) (((nI 16) + ((nI 6) * x6)) + (nI 4)) (fun w2 hw2 => ?_)
    replace h := h w2 hw2
    have hf3 := h.1
    replace h := h.2
    refine w_ia (k := 116) (n := 51) (jn := w2.toNatClampNeg) am_e237 rfl rfl (by decide) hf3 rfl ?_
    show am_ww 237 84 [.ref 99, d1, d2, d3, d4, .int x5, .int x6] [.int ((I 116) w2.toNatClampNeg), .int ((I 116) 47), .ref 121] E (u_I I 120 (upd (I 120) y1.toNatClampNeg y0)) J S _
    exact h
  · replace h := h.1 (Decidable.not_not.mp (of_decide_eq_false c))
    refine w_st (i' := 77) (ls' := [.ref 99, d1, d2, d3, d4, .int x5, .int x6]) (st' := [.int (nI 0), .int ((I 116) 47), .ref 121]) (E' := E) (I' := (u_I I 120 (upd (I 120) y1.toNatClampNeg y0))) (J' := J) (S' := S) am_e237 rfl rfl rfl rfl ?_
    refine w_st (i' := 84) (ls' := [.ref 99, d1, d2, d3, d4, .int x5, .int x6]) (st' := [.int (nI 0), .int ((I 116) 47), .ref 121]) (E' := E) (I' := (u_I I 120 (upd (I 120) y1.toNatClampNeg y0))) (J' := J) (S' := S) am_e237 rfl rfl rfl rfl ?_
    exact h
theorem g237_84 {d1 : Value} {d2 : Value} {d3 : Value} {d4 : Value} {x5 : Int32} {d6 : Value} {y0 : Int32} {y1 : Int32} {E : am_Ev} {I : Nat → Nat → Int32} {J : Nat → Nat → Int64} {S : Nat → Nat → Option Nat} {Q : am_Qt} (hd1 : am_isL d1 = false) (hd2 : am_isL d2 = false) (hd3 : am_isL d3 = false) (hd4 : am_isL d4 = false) (hd6 : am_isL d6 = false) (h : vp_in y1 400 ∧ (vp_in ((I 116) 47) 400 ∧ (Q (.inl none) E (u_I (u_I (u_I I 121 (upd (I 121) y1.toNatClampNeg y0)) 122 (upd (I 122) (((I 116) 47).toNatClampNeg) x5)) 116 (upd (upd (I 116) 47 (((I 116) 47) + (nI 1))) 44 x5)) J S))) : am_ww 237 84 [.ref 99, d1, d2, d3, d4, .int x5, d6] [.int y0, .int y1, .ref 121] E I J S Q := by
  have hf1 := h.1
  replace h := h.2
  refine w_is (k := 121) (n := 400) (jn := y1.toNatClampNeg) am_e237 rfl rfl (by decide) hf1 rfl ?_
  show am_ww 237 85 [.ref 99, d1, d2, d3, d4, .int x5, d6] [] E (u_I I 121 (upd (I 121) y1.toNatClampNeg y0)) J S _
  refine w_st (i' := 86) (ls' := [.ref 99, d1, d2, d3, d4, .int x5, d6]) (st' := [.ref 99]) (E' := E) (I' := (u_I I 121 (upd (I 121) y1.toNatClampNeg y0))) (J' := J) (S' := S) am_e237 rfl rfl rfl rfl ?_
  refine w_st (i' := 87) (ls' := [.ref 99, d1, d2, d3, d4, .int x5, d6]) (st' := [.ref 122]) (E' := E) (I' := (u_I I 121 (upd (I 121) y1.toNatClampNeg y0))) (J' := J) (S' := S) am_e237 rfl rfl rfl rfl ?_
  refine w_st (i' := 88) (ls' := [.ref 99, d1, d2, d3, d4, .int x5, d6]) (st' := [.ref 99, .ref 122]) (E' := E) (I' := (u_I I 121 (upd (I 121) y1.toNatClampNeg y0))) (J' := J) (S' := S) am_e237 rfl rfl rfl rfl ?_
  refine w_st (i' := 89) (ls' := [.ref 99, d1, d2, d3, d4, .int x5, d6]) (st' := [.ref 116, .ref 122]) (E' := E) (I' := (u_I I 121 (upd (I 121) y1.toNatClampNeg y0))) (J' := J) (S' := S) am_e237 rfl rfl rfl rfl ?_
  refine w_st (i' := 90) (ls' := [.ref 99, d1, d2, d3, d4, .int x5, d6]) (st' := [.int (nI 47), .ref 116, .ref 122]) (E' := E) (I' := (u_I I 121 (upd (I 121) y1.toNatClampNeg y0))) (J' := J) (S' := S) am_e237 rfl rfl rfl rfl ?_
  refine w_ia (k := 116) (n := 51) (jn := 47) am_e237 rfl rfl (by decide) (vp_in_nI (by decide) (by decide)) rfl ?_
  show am_ww 237 91 [.ref 99, d1, d2, d3, d4, .int x5, d6] [.int ((I 116) 47), .ref 122] E (u_I I 121 (upd (I 121) y1.toNatClampNeg y0)) J S _
  refine w_st (i' := 92) (ls' := [.ref 99, d1, d2, d3, d4, .int x5, d6]) (st' := [.int x5, .int ((I 116) 47), .ref 122]) (E' := E) (I' := (u_I I 121 (upd (I 121) y1.toNatClampNeg y0))) (J' := J) (S' := S) am_e237 rfl rfl rfl rfl ?_
  have hf2 := h.1
  replace h := h.2
  refine w_is (k := 122) (n := 400) (jn := ((I 116) 47).toNatClampNeg) am_e237 rfl rfl (by decide) hf2 rfl ?_
  show am_ww 237 93 [.ref 99, d1, d2, d3, d4, .int x5, d6] [] E (u_I (u_I I 121 (upd (I 121) y1.toNatClampNeg y0)) 122 (upd (I 122) (((I 116) 47).toNatClampNeg) x5)) J S _
  refine w_st (i' := 94) (ls' := [.ref 99, d1, d2, d3, d4, .int x5, d6]) (st' := [.ref 99]) (E' := E) (I' := (u_I (u_I I 121 (upd (I 121) y1.toNatClampNeg y0)) 122 (upd (I 122) (((I 116) 47).toNatClampNeg) x5))) (J' := J) (S' := S) am_e237 rfl rfl rfl rfl ?_
  refine w_st (i' := 95) (ls' := [.ref 99, d1, d2, d3, d4, .int x5, d6]) (st' := [.ref 116]) (E' := E) (I' := (u_I (u_I I 121 (upd (I 121) y1.toNatClampNeg y0)) 122 (upd (I 122) (((I 116) 47).toNatClampNeg) x5))) (J' := J) (S' := S) am_e237 rfl rfl rfl rfl ?_
  refine w_st (i' := 96) (ls' := [.ref 99, d1, d2, d3, d4, .int x5, d6]) (st' := [.int (nI 47), .ref 116]) (E' := E) (I' := (u_I (u_I I 121 (upd (I 121) y1.toNatClampNeg y0)) 122 (upd (I 122) (((I 116) 47).toNatClampNeg) x5))) (J' := J) (S' := S) am_e237 rfl rfl rfl rfl ?_
  refine w_st (i' := 97) (ls' := [.ref 99, d1, d2, d3, d4, .int x5, d6]) (st' := [.int (nI 47), .ref 116, .int (nI 47), .ref 116]) (E' := E) (I' := (u_I (u_I I 121 (upd (I 121) y1.toNatClampNeg y0)) 122 (upd (I 122) (((I 116) 47).toNatClampNeg) x5))) (J' := J) (S' := S) am_e237 rfl rfl rfl rfl ?_
  refine w_ia (k := 116) (n := 51) (jn := 47) am_e237 rfl rfl (by decide) (vp_in_nI (by decide) (by decide)) rfl ?_
  show am_ww 237 98 [.ref 99, d1, d2, d3, d4, .int x5, d6] [.int ((I 116) 47), .int (nI 47), .ref 116] E (u_I (u_I I 121 (upd (I 121) y1.toNatClampNeg y0)) 122 (upd (I 122) (((I 116) 47).toNatClampNeg) x5)) J S _
  refine w_st (i' := 99) (ls' := [.ref 99, d1, d2, d3, d4, .int x5, d6]) (st' := [.int (nI 1), .int ((I 116) 47), .int (nI 47), .ref 116]) (E' := E) (I' := (u_I (u_I I 121 (upd (I 121) y1.toNatClampNeg y0)) 122 (upd (I 122) (((I 116) 47).toNatClampNeg) x5))) (J' := J) (S' := S) am_e237 rfl rfl rfl rfl ?_
  refine w_st (i' := 100) (ls' := [.ref 99, d1, d2, d3, d4, .int x5, d6]) (st' := [.int (((I 116) 47) + (nI 1)), .int (nI 47), .ref 116]) (E' := E) (I' := (u_I (u_I I 121 (upd (I 121) y1.toNatClampNeg y0)) 122 (upd (I 122) (((I 116) 47).toNatClampNeg) x5))) (J' := J) (S' := S) am_e237 rfl rfl rfl rfl ?_
  refine w_is (k := 116) (n := 51) (jn := 47) am_e237 rfl rfl (by decide) (vp_in_nI (by decide) (by decide)) rfl ?_
  show am_ww 237 101 [.ref 99, d1, d2, d3, d4, .int x5, d6] [] E (u_I (u_I (u_I I 121 (upd (I 121) y1.toNatClampNeg y0)) 122 (upd (I 122) (((I 116) 47).toNatClampNeg) x5)) 116 (upd (I 116) 47 (((I 116) 47) + (nI 1)))) J S _
  refine w_st (i' := 102) (ls' := [.ref 99, d1, d2, d3, d4, .int x5, d6]) (st' := [.ref 99]) (E' := E) (I' := (u_I (u_I (u_I I 121 (upd (I 121) y1.toNatClampNeg y0)) 122 (upd (I 122) (((I 116) 47).toNatClampNeg) x5)) 116 (upd (I 116) 47 (((I 116) 47) + (nI 1))))) (J' := J) (S' := S) am_e237 rfl rfl rfl rfl ?_
  refine w_st (i' := 103) (ls' := [.ref 99, d1, d2, d3, d4, .int x5, d6]) (st' := [.ref 116]) (E' := E) (I' := (u_I (u_I (u_I I 121 (upd (I 121) y1.toNatClampNeg y0)) 122 (upd (I 122) (((I 116) 47).toNatClampNeg) x5)) 116 (upd (I 116) 47 (((I 116) 47) + (nI 1))))) (J' := J) (S' := S) am_e237 rfl rfl rfl rfl ?_
  refine w_st (i' := 104) (ls' := [.ref 99, d1, d2, d3, d4, .int x5, d6]) (st' := [.int (nI 44), .ref 116]) (E' := E) (I' := (u_I (u_I (u_I I 121 (upd (I 121) y1.toNatClampNeg y0)) 122 (upd (I 122) (((I 116) 47).toNatClampNeg) x5)) 116 (upd (I 116) 47 (((I 116) 47) + (nI 1))))) (J' := J) (S' := S) am_e237 rfl rfl rfl rfl ?_
  refine w_st (i' := 105) (ls' := [.ref 99, d1, d2, d3, d4, .int x5, d6]) (st' := [.int x5, .int (nI 44), .ref 116]) (E' := E) (I' := (u_I (u_I (u_I I 121 (upd (I 121) y1.toNatClampNeg y0)) 122 (upd (I 122) (((I 116) 47).toNatClampNeg) x5)) 116 (upd (I 116) 47 (((I 116) 47) + (nI 1))))) (J' := J) (S' := S) am_e237 rfl rfl rfl rfl ?_
  refine w_is (k := 116) (n := 51) (jn := 44) am_e237 rfl rfl (by decide) (vp_in_nI (by decide) (by decide)) rfl ?_
  refine w_eI (uI_0 ..) ?_
  show am_ww 237 106 [.ref 99, d1, d2, d3, d4, .int x5, d6] [] E (u_I (u_I (u_I I 121 (upd (I 121) y1.toNatClampNeg y0)) 122 (upd (I 122) (((I 116) 47).toNatClampNeg) x5)) 116 (upd (upd (I 116) 47 (((I 116) 47) + (nI 1))) 44 x5)) J S _
  exact w_end am_e237 rfl rfl rfl h
-- 236 liveStep
theorem g236_0 {p1 : Int32} {p2 : Int32} {E : am_Ev} {I : Nat → Nat → Int32} {J : Nat → Nat → Int64} {S : Nat → Nat → Option Nat} {Q : am_Qt}  (h : (((I 116) 44) = (-1) → (am_ww 236 18 [.ref 99, .int p1, .int p2, am_U] [] E I J S Q)) ∧ (¬ ((I 116) 44) = (-1) → ((((I 116) 45) = 0 → (am_ww 236 18 [.ref 99, .int p1, .int p2, am_U] [] E I J S Q)) ∧ (¬ ((I 116) 45) = 0 → (am_cl 220 [.ref 99, .int ((I 116) 44)] E I J S (q_I fun v1 E1 I1 J1 S1 => (v1 = 0 → (am_ww 236 18 [.ref 99, .int p1, .int p2, am_U] [] E1 I1 J1 S1 Q)) ∧ (¬ v1 = 0 → (∀ w2 : Int32, w2 = (((nI 16) + ((nI 6) * ((I1 116) 44))) + (nI 4)) → (vp_in w2 51 ∧ (∀ w4 : Int32, w4 = (((nI 16) * ((I1 116) 44)) + ((I1 116) w2.toNatClampNeg)) → (vp_in w4 128 ∧ (((((I1 106) w4.toNatClampNeg) = (nI 6) → (vp_in ((nI 48) + ((I1 108) w4.toNatClampNeg)) 51 ∧ (vp_in (((nI 30) * ((I1 108) w4.toNatClampNeg)) + ((I1 116) (((nI 48) + ((I1 108) w4.toNatClampNeg)).toNatClampNeg))) 90 ∧ True))) ∧ (¬ ((I1 106) w4.toNatClampNeg) = (nI 6) → (True))) ∧ (∀ w7 : Int32, w7 = (if ((I1 106) w4.toNatClampNeg) = (nI 6) then ((I1 123) ((((nI 30) * ((I1 108) w4.toNatClampNeg)) + ((I1 116) (((nI 48) + ((I1 108) w4.toNatClampNeg)).toNatClampNeg))).toNatClampNeg)) else nI 0) → (am_cl 240 [.ref 99, .int w7] E1 I1 J1 S1 (q_V fun E8 I8 J8 S8 => Q (.inl (some (.int (nI 1)))) E8 (u_I I8 116 (upd (I8 116) 45 (((I8 116) 45) - (nI 1)))) J8 S8))))))))))))))) : am_ww 236 0 [.ref 99, .int p1, .int p2, am_U] [] E I J S Q := by
  refine w_st (i' := 1) (ls' := [.ref 99, .int p1, .int p2, am_U]) (st' := [.ref 99]) (E' := E) (I' := I) (J' := J) (S' := S) am_e236 rfl rfl rfl rfl ?_
  refine w_st (i' := 2) (ls' := [.ref 99, .int p1, .int p2, am_U]) (st' := [.ref 116]) (E' := E) (I' := I) (J' := J) (S' := S) am_e236 rfl rfl rfl rfl ?_
  refine w_st (i' := 3) (ls' := [.ref 99, .int p1, .int p2, am_U]) (st' := [.int (nI 44), .ref 116]) (E' := E) (I' := I) (J' := J) (S' := S) am_e236 rfl rfl rfl rfl ?_
  refine w_ia (k := 116) (n := 51) (jn := 44) am_e236 rfl rfl (by decide) (vp_in_nI (by decide) (by decide)) rfl ?_
  show am_ww 236 4 [.ref 99, .int p1, .int p2, am_U] [.int ((I 116) 44)] E I J S _
  refine w_st (i' := 5) (ls' := [.ref 99, .int p1, .int p2, am_U]) (st' := [.int (-1), .int ((I 116) 44)]) (E' := E) (I' := I) (J' := J) (S' := S) am_e236 rfl rfl rfl rfl ?_
  refine w_if2 am_e236 rfl rfl (fun c => ?_) (fun c => ?_)
  · replace h := h.1 (of_decide_eq_true c)
    exact h
  · replace h := h.2 (of_decide_eq_false c)
    refine w_st (i' := 7) (ls' := [.ref 99, .int p1, .int p2, am_U]) (st' := [.ref 99]) (E' := E) (I' := I) (J' := J) (S' := S) am_e236 rfl rfl rfl rfl ?_
    refine w_st (i' := 8) (ls' := [.ref 99, .int p1, .int p2, am_U]) (st' := [.ref 116]) (E' := E) (I' := I) (J' := J) (S' := S) am_e236 rfl rfl rfl rfl ?_
    refine w_st (i' := 9) (ls' := [.ref 99, .int p1, .int p2, am_U]) (st' := [.int (nI 45), .ref 116]) (E' := E) (I' := I) (J' := J) (S' := S) am_e236 rfl rfl rfl rfl ?_
    refine w_ia (k := 116) (n := 51) (jn := 45) am_e236 rfl rfl (by decide) (vp_in_nI (by decide) (by decide)) rfl ?_
    show am_ww 236 10 [.ref 99, .int p1, .int p2, am_U] [.int ((I 116) 45)] E I J S _
    refine w_if1 am_e236 rfl rfl (fun c => ?_) (fun c => ?_)
    · replace h := h.1 (of_decide_eq_true c)
      exact h
    · replace h := h.2 (of_decide_eq_false c)
      refine w_st (i' := 12) (ls' := [.ref 99, .int p1, .int p2, am_U]) (st' := [.ref 99]) (E' := E) (I' := I) (J' := J) (S' := S) am_e236 rfl rfl rfl rfl ?_
      refine w_st (i' := 13) (ls' := [.ref 99, .int p1, .int p2, am_U]) (st' := [.ref 99, .ref 99]) (E' := E) (I' := I) (J' := J) (S' := S) am_e236 rfl rfl rfl rfl ?_
      refine w_st (i' := 14) (ls' := [.ref 99, .int p1, .int p2, am_U]) (st' := [.ref 116, .ref 99]) (E' := E) (I' := I) (J' := J) (S' := S) am_e236 rfl rfl rfl rfl ?_
      refine w_st (i' := 15) (ls' := [.ref 99, .int p1, .int p2, am_U]) (st' := [.int (nI 44), .ref 116, .ref 99]) (E' := E) (I' := I) (J' := J) (S' := S) am_e236 rfl rfl rfl rfl ?_
      refine w_ia (k := 116) (n := 51) (jn := 44) am_e236 rfl rfl (by decide) (vp_in_nI (by decide) (by decide)) rfl ?_
      show am_ww 236 16 [.ref 99, .int p1, .int p2, am_U] [.int ((I 116) 44), .ref 99] E I J S _
      refine w_cI am_e236 rfl rfl (as := [.ref 99, .int ((I 116) 44)]) (rest := []) rfl rfl (am_ww.mono h ?_)
      rintro _ E1 I1 J1 S1 ⟨v1, rfl, h⟩
      refine q_mkI ?_
      refine w_if1 am_e236 rfl rfl (fun c => ?_) (fun c => ?_)
      · replace h := h.2 (of_decide_eq_true c)
        refine w_st (i' := 31) (ls' := [.ref 99, .int p1, .int p2, am_U]) (st' := [.ref 99]) (E' := E1) (I' := I1) (J' := J1) (S' := S1) am_e236 rfl rfl rfl rfl ?_
        refine w_st (i' := 32) (ls' := [.ref 99, .int p1, .int p2, am_U]) (st' := [.ref 99, .ref 99]) (E' := E1) (I' := I1) (J' := J1) (S' := S1) am_e236 rfl rfl rfl rfl ?_
        refine w_cI am_e236 rfl rfl (as := [.ref 99]) (rest := [.ref 99]) rfl rfl ?_
        show am_ww 239 0 [.ref 99, am_U] [] E1 I1 J1 S1 _
        refine w_st (i' := 1) (ls' := [.ref 99, am_U]) (st' := [.ref 99]) (E' := E1) (I' := I1) (J' := J1) (S' := S1) am_e239 rfl rfl rfl rfl ?_
        refine w_st (i' := 2) (ls' := [.ref 99, am_U]) (st' := [.ref 99, .ref 99]) (E' := E1) (I' := I1) (J' := J1) (S' := S1) am_e239 rfl rfl rfl rfl ?_
        refine w_st (i' := 3) (ls' := [.ref 99, am_U]) (st' := [.ref 116, .ref 99]) (E' := E1) (I' := I1) (J' := J1) (S' := S1) am_e239 rfl rfl rfl rfl ?_
        refine w_st (i' := 4) (ls' := [.ref 99, am_U]) (st' := [.int (nI 44), .ref 116, .ref 99]) (E' := E1) (I' := I1) (J' := J1) (S' := S1) am_e239 rfl rfl rfl rfl ?_
        refine w_ia (k := 116) (n := 51) (jn := 44) am_e239 rfl rfl (by decide) (vp_in_nI (by decide) (by decide)) rfl ?_
        show am_ww 239 5 [.ref 99, am_U] [.int ((I1 116) 44), .ref 99] E1 I1 J1 S1 _
        refine w_cI am_e239 rfl rfl (as := [.ref 99, .int ((I1 116) 44)]) (rest := []) rfl rfl ?_
        show am_ww 223 0 [.ref 99, .int ((I1 116) 44)] [] E1 I1 J1 S1 _
        refine w_st (i' := 1) (ls' := [.ref 99, .int ((I1 116) 44)]) (st' := [.int (nI 16)]) (E' := E1) (I' := I1) (J' := J1) (S' := S1) am_e223 rfl rfl rfl rfl ?_
        refine w_st (i' := 2) (ls' := [.ref 99, .int ((I1 116) 44)]) (st' := [.int ((I1 116) 44), .int (nI 16)]) (E' := E1) (I' := I1) (J' := J1) (S' := S1) am_e223 rfl rfl rfl rfl ?_
        refine w_st (i' := 3) (ls' := [.ref 99, .int ((I1 116) 44)]) (st' := [.int ((nI 16) * ((I1 116) 44))]) (E' := E1) (I' := I1) (J' := J1) (S' := S1) am_e223 rfl rfl rfl rfl ?_
        refine w_st (i' := 4) (ls' := [.ref 99, .int ((I1 116) 44)]) (st' := [.ref 99, .int ((nI 16) * ((I1 116) 44))]) (E' := E1) (I' := I1) (J' := J1) (S' := S1) am_e223 rfl rfl rfl rfl ?_
        refine w_st (i' := 5) (ls' := [.ref 99, .int ((I1 116) 44)]) (st' := [.ref 116, .int ((nI 16) * ((I1 116) 44))]) (E' := E1) (I' := I1) (J' := J1) (S' := S1) am_e223 rfl rfl rfl rfl ?_
        refine w_st (i' := 6) (ls' := [.ref 99, .int ((I1 116) 44)]) (st' := [.int ((I1 116) 44), .ref 116, .int ((nI 16) * ((I1 116) 44))]) (E' := E1) (I' := I1) (J' := J1) (S' := S1) am_e223 rfl rfl rfl rfl ?_
        refine w_st (i' := 7) (ls' := [.ref 99, .int ((I1 116) 44)]) (st' := [.int (nI 4), .int ((I1 116) 44), .ref 116, .int ((nI 16) * ((I1 116) 44))]) (E' := E1) (I' := I1) (J' := J1) (S' := S1) am_e223 rfl rfl rfl rfl ?_
        refine w_cI am_e223 rfl rfl (as := [.int ((I1 116) 44), .int (nI 4)]) (rest := [.ref 116, .int ((nI 16) * ((I1 116) 44))]) rfl rfl ?_
        show am_ww 222 0 [.int ((I1 116) 44), .int (nI 4)] [] E1 I1 J1 S1 _
        refine w_st (i' := 1) (ls' := [.int ((I1 116) 44), .int (nI 4)]) (st' := [.int (nI 16)]) (E' := E1) (I' := I1) (J' := J1) (S' := S1) am_e222 rfl rfl rfl rfl ?_
        refine w_st (i' := 2) (ls' := [.int ((I1 116) 44), .int (nI 4)]) (st' := [.int (nI 6), .int (nI 16)]) (E' := E1) (I' := I1) (J' := J1) (S' := S1) am_e222 rfl rfl rfl rfl ?_
        refine w_st (i' := 3) (ls' := [.int ((I1 116) 44), .int (nI 4)]) (st' := [.int ((I1 116) 44), .int (nI 6), .int (nI 16)]) (E' := E1) (I' := I1) (J' := J1) (S' := S1) am_e222 rfl rfl rfl rfl ?_
        refine w_st (i' := 4) (ls' := [.int ((I1 116) 44), .int (nI 4)]) (st' := [.int ((nI 6) * ((I1 116) 44)), .int (nI 16)]) (E' := E1) (I' := I1) (J' := J1) (S' := S1) am_e222 rfl rfl rfl rfl ?_
        refine w_st (i' := 5) (ls' := [.int ((I1 116) 44), .int (nI 4)]) (st' := [.int ((nI 16) + ((nI 6) * ((I1 116) 44)))]) (E' := E1) (I' := I1) (J' := J1) (S' := S1) am_e222 rfl rfl rfl rfl ?_
        refine w_st (i' := 6) (ls' := [.int ((I1 116) 44), .int (nI 4)]) (st' := [.int (nI 4), .int ((nI 16) + ((nI 6) * ((I1 116) 44)))]) (E' := E1) (I' := I1) (J' := J1) (S' := S1) am_e222 rfl rfl rfl rfl ?_
        refine w_st (i' := 7) (ls' := [.int ((I1 116) 44), .int (nI 4)]) (st' := [.int (((nI 16) + ((nI 6) * ((I1 116) 44))) + (nI 4))]) (E' := E1) (I' := I1) (J' := J1) (S' := S1) am_e222 rfl rfl rfl rfl ?_
        refine w_ri am_e222 rfl rfl (q_mkI ?_)
        show am_ww 223 8 [.ref 99, .int ((I1 116) 44)] [.int (((nI 16) + ((nI 6) * ((I1 116) 44))) + (nI 4)), .ref 116, .int ((nI 16) * ((I1 116) 44))] E1 I1 J1 S1 _
        refine w_var (fun w2 => am_ww 223 8 [.ref 99, .int ((I1 116) 44)] [.int w2, .ref 116, .int ((nI 16) * ((I1 116) 44))] E1 I1 J1 S1 _) (((nI 16) + ((nI 6) * ((I1 116) 44))) + (nI 4)) (fun w2 hw2 => ?_)
        replace h := h w2 hw2
        have hf3 := h.1
        replace h := h.2
        refine w_ia (k := 116) (n := 51) (jn := w2.toNatClampNeg) am_e223 rfl rfl (by decide) hf3 rfl ?_
        refine w_st (i' := 10) (ls' := [.ref 99, .int ((I1 116) 44)]) (st' := [.int (((nI 16) * ((I1 116) 44)) + ((I1 116) w2.toNatClampNeg))]) (E' := E1) (I' := I1) (J' := J1) (S' := S1) am_e223 rfl rfl rfl rfl ?_
        refine w_ri am_e223 rfl rfl (q_mkI ?_)
        show am_ww 239 6 [.ref 99, am_U] [.int (((nI 16) * ((I1 116) 44)) + ((I1 116) w2.toNatClampNeg))] E1 I1 J1 S1 _
        refine w_var (fun w4 => am_ww 239 6 [.ref 99, am_U] [.int w4] E1 I1 J1 S1 _) (((nI 16) * ((I1 116) 44)) + ((I1 116) w2.toNatClampNeg)) (fun w4 hw4 => ?_)
        replace h := h w4 hw4
        refine w_st (i' := 7) (ls' := [.ref 99, .int w4]) (st' := []) (E' := E1) (I' := I1) (J' := J1) (S' := S1) am_e239 rfl rfl rfl rfl ?_
        refine w_st (i' := 8) (ls' := [.ref 99, .int w4]) (st' := [.ref 99]) (E' := E1) (I' := I1) (J' := J1) (S' := S1) am_e239 rfl rfl rfl rfl ?_
        refine w_st (i' := 9) (ls' := [.ref 99, .int w4]) (st' := [.ref 106]) (E' := E1) (I' := I1) (J' := J1) (S' := S1) am_e239 rfl rfl rfl rfl ?_
        refine w_st (i' := 10) (ls' := [.ref 99, .int w4]) (st' := [.int w4, .ref 106]) (E' := E1) (I' := I1) (J' := J1) (S' := S1) am_e239 rfl rfl rfl rfl ?_
        have hf5 := h.1
        replace h := h.2
        refine w_ia (k := 106) (n := 128) (jn := w4.toNatClampNeg) am_e239 rfl rfl (by decide) hf5 rfl ?_
        refine w_st (i' := 12) (ls' := [.ref 99, .int w4]) (st' := [.int (nI 6), .int ((I1 106) w4.toNatClampNeg)]) (E' := E1) (I' := I1) (J' := J1) (S' := S1) am_e239 rfl rfl rfl rfl ?_
        refine w_mg (i := 34) (ls' := [.ref 99, .int w4]) (st' := [.int (if ((I1 106) w4.toNatClampNeg) = (nI 6) then ((I1 123) ((((nI 30) * ((I1 108) w4.toNatClampNeg)) + ((I1 116) (((nI 48) + ((I1 108) w4.toNatClampNeg)).toNatClampNeg))).toNatClampNeg)) else nI 0)]) (fun hm => ?_) ?_
        · replace h := h.1
          refine w_if2 am_e239 rfl rfl (fun c => ?_) (fun c => ?_)
          · have m6 : ¬ (((I1 106) w4.toNatClampNeg) = (nI 6)) := (of_decide_eq_true c)
            replace h := h.2 m6
            refine w_st (i' := 34) (ls' := [.ref 99, .int w4]) (st' := [.int (nI 0)]) (E' := E1) (I' := I1) (J' := J1) (S' := S1) am_e239 rfl rfl rfl rfl ?_
            first | exact hm | (simp only [if_neg m6] at hm; exact hm)
          · have m6 : ((I1 106) w4.toNatClampNeg) = (nI 6) := (Decidable.not_not.mp (of_decide_eq_false c))
            replace h := h.1 m6
            refine w_st (i' := 14) (ls' := [.ref 99, .int w4]) (st' := [.ref 99]) (E' := E1) (I' := I1) (J' := J1) (S' := S1) am_e239 rfl rfl rfl rfl ?_
            refine w_st (i' := 15) (ls' := [.ref 99, .int w4]) (st' := [.ref 123]) (E' := E1) (I' := I1) (J' := J1) (S' := S1) am_e239 rfl rfl rfl rfl ?_
            refine w_st (i' := 16) (ls' := [.ref 99, .int w4]) (st' := [.int (nI 30), .ref 123]) (E' := E1) (I' := I1) (J' := J1) (S' := S1) am_e239 rfl rfl rfl rfl ?_
            refine w_st (i' := 17) (ls' := [.ref 99, .int w4]) (st' := [.ref 99, .int (nI 30), .ref 123]) (E' := E1) (I' := I1) (J' := J1) (S' := S1) am_e239 rfl rfl rfl rfl ?_
            refine w_st (i' := 18) (ls' := [.ref 99, .int w4]) (st' := [.ref 108, .int (nI 30), .ref 123]) (E' := E1) (I' := I1) (J' := J1) (S' := S1) am_e239 rfl rfl rfl rfl ?_
            refine w_st (i' := 19) (ls' := [.ref 99, .int w4]) (st' := [.int w4, .ref 108, .int (nI 30), .ref 123]) (E' := E1) (I' := I1) (J' := J1) (S' := S1) am_e239 rfl rfl rfl rfl ?_
            refine w_ia (k := 108) (n := 128) (jn := w4.toNatClampNeg) am_e239 rfl rfl (by decide) hf5 rfl ?_
            show am_ww 239 20 [.ref 99, .int w4] [.int ((I1 108) w4.toNatClampNeg), .int (nI 30), .ref 123] E1 I1 J1 S1 _
            refine w_st (i' := 21) (ls' := [.ref 99, .int w4]) (st' := [.int ((nI 30) * ((I1 108) w4.toNatClampNeg)), .ref 123]) (E' := E1) (I' := I1) (J' := J1) (S' := S1) am_e239 rfl rfl rfl rfl ?_
            refine w_st (i' := 22) (ls' := [.ref 99, .int w4]) (st' := [.ref 99, .int ((nI 30) * ((I1 108) w4.toNatClampNeg)), .ref 123]) (E' := E1) (I' := I1) (J' := J1) (S' := S1) am_e239 rfl rfl rfl rfl ?_
            refine w_st (i' := 23) (ls' := [.ref 99, .int w4]) (st' := [.ref 116, .int ((nI 30) * ((I1 108) w4.toNatClampNeg)), .ref 123]) (E' := E1) (I' := I1) (J' := J1) (S' := S1) am_e239 rfl rfl rfl rfl ?_
            refine w_st (i' := 24) (ls' := [.ref 99, .int w4]) (st' := [.int (nI 48), .ref 116, .int ((nI 30) * ((I1 108) w4.toNatClampNeg)), .ref 123]) (E' := E1) (I' := I1) (J' := J1) (S' := S1) am_e239 rfl rfl rfl rfl ?_
            refine w_st (i' := 25) (ls' := [.ref 99, .int w4]) (st' := [.ref 99, .int (nI 48), .ref 116, .int ((nI 30) * ((I1 108) w4.toNatClampNeg)), .ref 123]) (E' := E1) (I' := I1) (J' := J1) (S' := S1) am_e239 rfl rfl rfl rfl ?_
            refine w_st (i' := 26) (ls' := [.ref 99, .int w4]) (st' := [.ref 108, .int (nI 48), .ref 116, .int ((nI 30) * ((I1 108) w4.toNatClampNeg)), .ref 123]) (E' := E1) (I' := I1) (J' := J1) (S' := S1) am_e239 rfl rfl rfl rfl ?_
            refine w_st (i' := 27) (ls' := [.ref 99, .int w4]) (st' := [.int w4, .ref 108, .int (nI 48), .ref 116, .int ((nI 30) * ((I1 108) w4.toNatClampNeg)), .ref 123]) (E' := E1) (I' := I1) (J' := J1) (S' := S1) am_e239 rfl rfl rfl rfl ?_
            refine w_ia (k := 108) (n := 128) (jn := w4.toNatClampNeg) am_e239 rfl rfl (by decide) hf5 rfl ?_
            show am_ww 239 28 [.ref 99, .int w4] [.int ((I1 108) w4.toNatClampNeg), .int (nI 48), .ref 116, .int ((nI 30) * ((I1 108) w4.toNatClampNeg)), .ref 123] E1 I1 J1 S1 _
            refine w_st (i' := 29) (ls' := [.ref 99, .int w4]) (st' := [.int ((nI 48) + ((I1 108) w4.toNatClampNeg)), .ref 116, .int ((nI 30) * ((I1 108) w4.toNatClampNeg)), .ref 123]) (E' := E1) (I' := I1) (J' := J1) (S' := S1) am_e239 rfl rfl rfl rfl ?_
            refine w_ia (k := 116) (n := 51) (jn := ((nI 48) + ((I1 108) w4.toNatClampNeg)).toNatClampNeg) am_e239 rfl rfl (by decide) h.1 rfl ?_
            replace h := h.2
            show am_ww 239 30 [.ref 99, .int w4] [.int ((I1 116) (((nI 48) + ((I1 108) w4.toNatClampNeg)).toNatClampNeg)), .int ((nI 30) * ((I1 108) w4.toNatClampNeg)), .ref 123] E1 I1 J1 S1 _
            refine w_st (i' := 31) (ls' := [.ref 99, .int w4]) (st' := [.int (((nI 30) * ((I1 108) w4.toNatClampNeg)) + ((I1 116) (((nI 48) + ((I1 108) w4.toNatClampNeg)).toNatClampNeg))), .ref 123]) (E' := E1) (I' := I1) (J' := J1) (S' := S1) am_e239 rfl rfl rfl rfl ?_
            refine w_ia (k := 123) (n := 90) (jn := (((nI 30) * ((I1 108) w4.toNatClampNeg)) + ((I1 116) (((nI 48) + ((I1 108) w4.toNatClampNeg)).toNatClampNeg))).toNatClampNeg) am_e239 rfl rfl (by decide) h.1 rfl ?_
            replace h := h.2
            show am_ww 239 32 [.ref 99, .int w4] [.int ((I1 123) ((((nI 30) * ((I1 108) w4.toNatClampNeg)) + ((I1 116) (((nI 48) + ((I1 108) w4.toNatClampNeg)).toNatClampNeg))).toNatClampNeg))] E1 I1 J1 S1 _
            refine w_st (i' := 34) (ls' := [.ref 99, .int w4]) (st' := [.int ((I1 123) ((((nI 30) * ((I1 108) w4.toNatClampNeg)) + ((I1 116) (((nI 48) + ((I1 108) w4.toNatClampNeg)).toNatClampNeg))).toNatClampNeg))]) (E' := E1) (I' := I1) (J' := J1) (S' := S1) am_e239 rfl rfl rfl rfl ?_
            first | exact hm | (simp only [if_pos m6] at hm; exact hm)
        replace h := h.2
        refine w_var (fun w7 => am_ww 239 34 [.ref 99, .int w4] [.int w7] E1 I1 J1 S1 _) (if ((I1 106) w4.toNatClampNeg) = (nI 6) then ((I1 123) ((((nI 30) * ((I1 108) w4.toNatClampNeg)) + ((I1 116) (((nI 48) + ((I1 108) w4.toNatClampNeg)).toNatClampNeg))).toNatClampNeg)) else nI 0) (fun w7 hw7 => ?_)
        replace h := h w7 hw7
        refine w_ri am_e239 rfl rfl (q_mkI ?_)
        show am_ww 236 33 [.ref 99, .int p1, .int p2, am_U] [.int w7, .ref 99] E1 I1 J1 S1 _
        refine w_cV am_e236 rfl rfl (as := [.ref 99, .int w7]) (rest := []) rfl rfl (am_ww.mono h ?_)
        rintro _ E8 I8 J8 S8 ⟨rfl, h⟩
        refine q_mkV ?_
        refine w_st (i' := 35) (ls' := [.ref 99, .int p1, .int p2, am_U]) (st' := [.ref 99]) (E' := E8) (I' := I8) (J' := J8) (S' := S8) am_e236 rfl rfl rfl rfl ?_
        refine w_st (i' := 36) (ls' := [.ref 99, .int p1, .int p2, am_U]) (st' := [.ref 116]) (E' := E8) (I' := I8) (J' := J8) (S' := S8) am_e236 rfl rfl rfl rfl ?_
        refine w_st (i' := 37) (ls' := [.ref 99, .int p1, .int p2, am_U]) (st' := [.int (nI 45), .ref 116]) (E' := E8) (I' := I8) (J' := J8) (S' := S8) am_e236 rfl rfl rfl rfl ?_
        refine w_st (i' := 38) (ls' := [.ref 99, .int p1, .int p2, am_U]) (st' := [.int (nI 45), .ref 116, .int (nI 45), .ref 116]) (E' := E8) (I' := I8) (J' := J8) (S' := S8) am_e236 rfl rfl rfl rfl ?_
        refine w_ia (k := 116) (n := 51) (jn := 45) am_e236 rfl rfl (by decide) (vp_in_nI (by decide) (by decide)) rfl ?_
        show am_ww 236 39 [.ref 99, .int p1, .int p2, am_U] [.int ((I8 116) 45), .int (nI 45), .ref 116] E8 I8 J8 S8 _
        refine w_st (i' := 40) (ls' := [.ref 99, .int p1, .int p2, am_U]) (st' := [.int (nI 1), .int ((I8 116) 45), .int (nI 45), .ref 116]) (E' := E8) (I' := I8) (J' := J8) (S' := S8) am_e236 rfl rfl rfl rfl ?_
        refine w_st (i' := 41) (ls' := [.ref 99, .int p1, .int p2, am_U]) (st' := [.int (((I8 116) 45) - (nI 1)), .int (nI 45), .ref 116]) (E' := E8) (I' := I8) (J' := J8) (S' := S8) am_e236 rfl rfl rfl rfl ?_
        refine w_is (k := 116) (n := 51) (jn := 45) am_e236 rfl rfl (by decide) (vp_in_nI (by decide) (by decide)) rfl ?_
        show am_ww 236 42 [.ref 99, .int p1, .int p2, am_U] [] E8 (u_I I8 116 (upd (I8 116) 45 (((I8 116) 45) - (nI 1)))) J8 S8 _
        refine w_st (i' := 43) (ls' := [.ref 99, .int p1, .int p2, am_U]) (st' := [.int (nI 1)]) (E' := E8) (I' := (u_I I8 116 (upd (I8 116) 45 (((I8 116) 45) - (nI 1))))) (J' := J8) (S' := S8) am_e236 rfl rfl rfl rfl ?_
        exact w_end am_e236 rfl rfl rfl h
      · replace h := h.1 (Decidable.not_not.mp (of_decide_eq_false c))
        exact h
theorem g236_18 {x1 : Int32} {x2 : Int32} {d3 : Value} {E : am_Ev} {I : Nat → Nat → Int32} {J : Nat → Nat → Int64} {S : Nat → Nat → Option Nat} {Q : am_Qt} (hd3 : am_isL d3 = false) (h : am_cl 219 [.ref 99] E I J S (q_I fun v1 E1 I1 J1 S1 => (v1 = 0 → (Q (.inl (some (.int (nI 0)))) E1 I1 J1 S1)) ∧ (¬ v1 = 0 → (am_cl 237 [.ref 99, .int v1, .int x1, .int x2] E1 I1 J1 S1 (q_V fun E2 I2 J2 S2 => ∀ w3 : Int32, w3 = (((nI 16) + ((nI 6) * ((I2 116) 44))) + (nI 4)) → (vp_in w3 51 ∧ (∀ w5 : Int32, w5 = (((nI 16) * ((I2 116) 44)) + ((I2 116) w3.toNatClampNeg)) → (vp_in w5 128 ∧ (((((I2 106) w5.toNatClampNeg) = (nI 6) → (vp_in ((nI 48) + ((I2 108) w5.toNatClampNeg)) 51 ∧ (vp_in (((nI 30) * ((I2 108) w5.toNatClampNeg)) + ((I2 116) (((nI 48) + ((I2 108) w5.toNatClampNeg)).toNatClampNeg))) 90 ∧ True))) ∧ (¬ ((I2 106) w5.toNatClampNeg) = (nI 6) → (True))) ∧ (∀ w8 : Int32, w8 = (if ((I2 106) w5.toNatClampNeg) = (nI 6) then ((I2 123) ((((nI 30) * ((I2 108) w5.toNatClampNeg)) + ((I2 116) (((nI 48) + ((I2 108) w5.toNatClampNeg)).toNatClampNeg))).toNatClampNeg)) else nI 0) → (am_cl 240 [.ref 99, .int w8] E2 I2 J2 S2 (q_V fun E9 I9 J9 S9 => Q (.inl (some (.int (nI 1)))) E9 (u_I I9 116 (upd (I9 116) 45 (((I9 116) 45) - (nI 1)))) J9 S9)))))))))))) : am_ww 236 18 [.ref 99, .int x1, .int x2, d3] [] E I J S Q := by
  refine w_st (i' := 19) (ls' := [.ref 99, .int x1, .int x2, d3]) (st' := [.ref 99]) (E' := E) (I' := I) (J' := J) (S' := S) am_e236 rfl rfl rfl rfl ?_
  refine w_cI am_e236 rfl rfl (as := [.ref 99]) (rest := []) rfl rfl (am_ww.mono h ?_)
  rintro _ E1 I1 J1 S1 ⟨v1, rfl, h⟩
  refine q_mkI ?_
  refine w_st (i' := 21) (ls' := [.ref 99, .int x1, .int x2, .int v1]) (st' := []) (E' := E1) (I' := I1) (J' := J1) (S' := S1) am_e236 rfl rfl rfl rfl ?_
  refine w_st (i' := 22) (ls' := [.ref 99, .int x1, .int x2, .int v1]) (st' := [.int v1]) (E' := E1) (I' := I1) (J' := J1) (S' := S1) am_e236 rfl rfl rfl rfl ?_
  refine w_if1 am_e236 rfl rfl (fun c => ?_) (fun c => ?_)
  · replace h := h.2 (of_decide_eq_true c)
    refine w_st (i' := 26) (ls' := [.ref 99, .int x1, .int x2, .int v1]) (st' := [.ref 99]) (E' := E1) (I' := I1) (J' := J1) (S' := S1) am_e236 rfl rfl rfl rfl ?_
    refine w_st (i' := 27) (ls' := [.ref 99, .int x1, .int x2, .int v1]) (st' := [.int v1, .ref 99]) (E' := E1) (I' := I1) (J' := J1) (S' := S1) am_e236 rfl rfl rfl rfl ?_
    refine w_st (i' := 28) (ls' := [.ref 99, .int x1, .int x2, .int v1]) (st' := [.int x1, .int v1, .ref 99]) (E' := E1) (I' := I1) (J' := J1) (S' := S1) am_e236 rfl rfl rfl rfl ?_
    refine w_st (i' := 29) (ls' := [.ref 99, .int x1, .int x2, .int v1]) (st' := [.int x2, .int x1, .int v1, .ref 99]) (E' := E1) (I' := I1) (J' := J1) (S' := S1) am_e236 rfl rfl rfl rfl ?_
    refine w_cV am_e236 rfl rfl (as := [.ref 99, .int v1, .int x1, .int x2]) (rest := []) rfl rfl (am_ww.mono h ?_)
    rintro _ E2 I2 J2 S2 ⟨rfl, h⟩
    refine q_mkV ?_
    refine w_st (i' := 31) (ls' := [.ref 99, .int x1, .int x2, .int v1]) (st' := [.ref 99]) (E' := E2) (I' := I2) (J' := J2) (S' := S2) am_e236 rfl rfl rfl rfl ?_
    refine w_st (i' := 32) (ls' := [.ref 99, .int x1, .int x2, .int v1]) (st' := [.ref 99, .ref 99]) (E' := E2) (I' := I2) (J' := J2) (S' := S2) am_e236 rfl rfl rfl rfl ?_
    refine w_cI am_e236 rfl rfl (as := [.ref 99]) (rest := [.ref 99]) rfl rfl ?_
    show am_ww 239 0 [.ref 99, am_U] [] E2 I2 J2 S2 _
    refine w_st (i' := 1) (ls' := [.ref 99, am_U]) (st' := [.ref 99]) (E' := E2) (I' := I2) (J' := J2) (S' := S2) am_e239 rfl rfl rfl rfl ?_
    refine w_st (i' := 2) (ls' := [.ref 99, am_U]) (st' := [.ref 99, .ref 99]) (E' := E2) (I' := I2) (J' := J2) (S' := S2) am_e239 rfl rfl rfl rfl ?_
    refine w_st (i' := 3) (ls' := [.ref 99, am_U]) (st' := [.ref 116, .ref 99]) (E' := E2) (I' := I2) (J' := J2) (S' := S2) am_e239 rfl rfl rfl rfl ?_
    refine w_st (i' := 4) (ls' := [.ref 99, am_U]) (st' := [.int (nI 44), .ref 116, .ref 99]) (E' := E2) (I' := I2) (J' := J2) (S' := S2) am_e239 rfl rfl rfl rfl ?_
    refine w_ia (k := 116) (n := 51) (jn := 44) am_e239 rfl rfl (by decide) (vp_in_nI (by decide) (by decide)) rfl ?_
    show am_ww 239 5 [.ref 99, am_U] [.int ((I2 116) 44), .ref 99] E2 I2 J2 S2 _
    refine w_cI am_e239 rfl rfl (as := [.ref 99, .int ((I2 116) 44)]) (rest := []) rfl rfl ?_
    show am_ww 223 0 [.ref 99, .int ((I2 116) 44)] [] E2 I2 J2 S2 _
    refine w_st (i' := 1) (ls' := [.ref 99, .int ((I2 116) 44)]) (st' := [.int (nI 16)]) (E' := E2) (I' := I2) (J' := J2) (S' := S2) am_e223 rfl rfl rfl rfl ?_
    refine w_st (i' := 2) (ls' := [.ref 99, .int ((I2 116) 44)]) (st' := [.int ((I2 116) 44), .int (nI 16)]) (E' := E2) (I' := I2) (J' := J2) (S' := S2) am_e223 rfl rfl rfl rfl ?_
    refine w_st (i' := 3) (ls' := [.ref 99, .int ((I2 116) 44)]) (st' := [.int ((nI 16) * ((I2 116) 44))]) (E' := E2) (I' := I2) (J' := J2) (S' := S2) am_e223 rfl rfl rfl rfl ?_
    refine w_st (i' := 4) (ls' := [.ref 99, .int ((I2 116) 44)]) (st' := [.ref 99, .int ((nI 16) * ((I2 116) 44))]) (E' := E2) (I' := I2) (J' := J2) (S' := S2) am_e223 rfl rfl rfl rfl ?_
    refine w_st (i' := 5) (ls' := [.ref 99, .int ((I2 116) 44)]) (st' := [.ref 116, .int ((nI 16) * ((I2 116) 44))]) (E' := E2) (I' := I2) (J' := J2) (S' := S2) am_e223 rfl rfl rfl rfl ?_
    refine w_st (i' := 6) (ls' := [.ref 99, .int ((I2 116) 44)]) (st' := [.int ((I2 116) 44), .ref 116, .int ((nI 16) * ((I2 116) 44))]) (E' := E2) (I' := I2) (J' := J2) (S' := S2) am_e223 rfl rfl rfl rfl ?_
    refine w_st (i' := 7) (ls' := [.ref 99, .int ((I2 116) 44)]) (st' := [.int (nI 4), .int ((I2 116) 44), .ref 116, .int ((nI 16) * ((I2 116) 44))]) (E' := E2) (I' := I2) (J' := J2) (S' := S2) am_e223 rfl rfl rfl rfl ?_
    refine w_cI am_e223 rfl rfl (as := [.int ((I2 116) 44), .int (nI 4)]) (rest := [.ref 116, .int ((nI 16) * ((I2 116) 44))]) rfl rfl ?_
    show am_ww 222 0 [.int ((I2 116) 44), .int (nI 4)] [] E2 I2 J2 S2 _
    refine w_st (i' := 1) (ls' := [.int ((I2 116) 44), .int (nI 4)]) (st' := [.int (nI 16)]) (E' := E2) (I' := I2) (J' := J2) (S' := S2) am_e222 rfl rfl rfl rfl ?_
    refine w_st (i' := 2) (ls' := [.int ((I2 116) 44), .int (nI 4)]) (st' := [.int (nI 6), .int (nI 16)]) (E' := E2) (I' := I2) (J' := J2) (S' := S2) am_e222 rfl rfl rfl rfl ?_
    refine w_st (i' := 3) (ls' := [.int ((I2 116) 44), .int (nI 4)]) (st' := [.int ((I2 116) 44), .int (nI 6), .int (nI 16)]) (E' := E2) (I' := I2) (J' := J2) (S' := S2) am_e222 rfl rfl rfl rfl ?_
    refine w_st (i' := 4) (ls' := [.int ((I2 116) 44), .int (nI 4)]) (st' := [.int ((nI 6) * ((I2 116) 44)), .int (nI 16)]) (E' := E2) (I' := I2) (J' := J2) (S' := S2) am_e222 rfl rfl rfl rfl ?_
    refine w_st (i' := 5) (ls' := [.int ((I2 116) 44), .int (nI 4)]) (st' := [.int ((nI 16) + ((nI 6) * ((I2 116) 44)))]) (E' := E2) (I' := I2) (J' := J2) (S' := S2) am_e222 rfl rfl rfl rfl ?_
    refine w_st (i' := 6) (ls' := [.int ((I2 116) 44), .int (nI 4)]) (st' := [.int (nI 4), .int ((nI 16) + ((nI 6) * ((I2 116) 44)))]) (E' := E2) (I' := I2) (J' := J2) (S' := S2) am_e222 rfl rfl rfl rfl ?_
    refine w_st (i' := 7) (ls' := [.int ((I2 116) 44), .int (nI 4)]) (st' := [.int (((nI 16) + ((nI 6) * ((I2 116) 44))) + (nI 4))]) (E' := E2) (I' := I2) (J' := J2) (S' := S2) am_e222 rfl rfl rfl rfl ?_
    refine w_ri am_e222 rfl rfl (q_mkI ?_)
    show am_ww 223 8 [.ref 99, .int ((I2 116) 44)] [.int (((nI 16) + ((nI 6) * ((I2 116) 44))) + (nI 4)), .ref 116, .int ((nI 16) * ((I2 116) 44))] E2 I2 J2 S2 _
    refine w_var (fun w3 => am_ww 223 8 [.ref 99, .int ((I2 116) 44)] [.int w3, .ref 116, .int ((nI 16) * ((I2 116) 44))] E2 I2 J2 S2 _) (((nI 16) + ((nI 6) * ((I2 116) 44))) + (nI 4)) (fun w3 hw3 => ?_)
    replace h := h w3 hw3
    have hf4 := h.1
    replace h := h.2
    refine w_ia (k := 116) (n := 51) (jn := w3.toNatClampNeg) am_e223 rfl rfl (by decide) hf4 rfl ?_
    refine w_st (i' := 10) (ls' := [.ref 99, .int ((I2 116) 44)]) (st' := [.int (((nI 16) * ((I2 116) 44)) + ((I2 116) w3.toNatClampNeg))]) (E' := E2) (I' := I2) (J' := J2) (S' := S2) am_e223 rfl rfl rfl rfl ?_
    refine w_ri am_e223 rfl rfl (q_mkI ?_)
    show am_ww 239 6 [.ref 99, am_U] [.int (((nI 16) * ((I2 116) 44)) + ((I2 116) w3.toNatClampNeg))] E2 I2 J2 S2 _
    refine w_var (fun w5 => am_ww 239 6 [.ref 99, am_U] [.int w5] E2 I2 J2 S2 _) (((nI 16) * ((I2 116) 44)) + ((I2 116) w3.toNatClampNeg)) (fun w5 hw5 => ?_)
    replace h := h w5 hw5
    refine w_st (i' := 7) (ls' := [.ref 99, .int w5]) (st' := []) (E' := E2) (I' := I2) (J' := J2) (S' := S2) am_e239 rfl rfl rfl rfl ?_
    refine w_st (i' := 8) (ls' := [.ref 99, .int w5]) (st' := [.ref 99]) (E' := E2) (I' := I2) (J' := J2) (S' := S2) am_e239 rfl rfl rfl rfl ?_
    refine w_st (i' := 9) (ls' := [.ref 99, .int w5]) (st' := [.ref 106]) (E' := E2) (I' := I2) (J' := J2) (S' := S2) am_e239 rfl rfl rfl rfl ?_
    refine w_st (i' := 10) (ls' := [.ref 99, .int w5]) (st' := [.int w5, .ref 106]) (E' := E2) (I' := I2) (J' := J2) (S' := S2) am_e239 rfl rfl rfl rfl ?_
    have hf6 := h.1
    replace h := h.2
    refine w_ia (k := 106) (n := 128) (jn := w5.toNatClampNeg) am_e239 rfl rfl (by decide) hf6 rfl ?_
    refine w_st (i' := 12) (ls' := [.ref 99, .int w5]) (st' := [.int (nI 6), .int ((I2 106) w5.toNatClampNeg)]) (E' := E2) (I' := I2) (J' := J2) (S' := S2) am_e239 rfl rfl rfl rfl ?_
    refine w_mg (i := 34) (ls' := [.ref 99, .int w5]) (st' := [.int (if ((I2 106) w5.toNatClampNeg) = (nI 6) then ((I2 123) ((((nI 30) * ((I2 108) w5.toNatClampNeg)) + ((I2 116) (((nI 48) + ((I2 108) w5.toNatClampNeg)).toNatClampNeg))).toNatClampNeg)) else nI 0)]) (fun hm => ?_) ?_
    · replace h := h.1
      refine w_if2 am_e239 rfl rfl (fun c => ?_) (fun c => ?_)
      · have m7 : ¬ (((I2 106) w5.toNatClampNeg) = (nI 6)) := (of_decide_eq_true c)
        replace h := h.2 m7
        refine w_st (i' := 34) (ls' := [.ref 99, .int w5]) (st' := [.int (nI 0)]) (E' := E2) (I' := I2) (J' := J2) (S' := S2) am_e239 rfl rfl rfl rfl ?_
        first | exact hm | (simp only [if_neg m7] at hm; exact hm)
      · have m7 : ((I2 106) w5.toNatClampNeg) = (nI 6) := (Decidable.not_not.mp (of_decide_eq_false c))
        replace h := h.1 m7
        refine w_st (i' := 14) (ls' := [.ref 99, .int w5]) (st' := [.ref 99]) (E' := E2) (I' := I2) (J' := J2) (S' := S2) am_e239 rfl rfl rfl rfl ?_
        refine w_st (i' := 15) (ls' := [.ref 99, .int w5]) (st' := [.ref 123]) (E' := E2) (I' := I2) (J' := J2) (S' := S2) am_e239 rfl rfl rfl rfl ?_
        refine w_st (i' := 16) (ls' := [.ref 99, .int w5]) (st' := [.int (nI 30), .ref 123]) (E' := E2) (I' := I2) (J' := J2) (S' := S2) am_e239 rfl rfl rfl rfl ?_
        refine w_st (i' := 17) (ls' := [.ref 99, .int w5]) (st' := [.ref 99, .int (nI 30), .ref 123]) (E' := E2) (I' := I2) (J' := J2) (S' := S2) am_e239 rfl rfl rfl rfl ?_
        refine w_st (i' := 18) (ls' := [.ref 99, .int w5]) (st' := [.ref 108, .int (nI 30), .ref 123]) (E' := E2) (I' := I2) (J' := J2) (S' := S2) am_e239 rfl rfl rfl rfl ?_
        refine w_st (i' := 19) (ls' := [.ref 99, .int w5]) (st' := [.int w5, .ref 108, .int (nI 30), .ref 123]) (E' := E2) (I' := I2) (J' := J2) (S' := S2) am_e239 rfl rfl rfl rfl ?_
        refine w_ia (k := 108) (n := 128) (jn := w5.toNatClampNeg) am_e239 rfl rfl (by decide) hf6 rfl ?_
        show am_ww 239 20 [.ref 99, .int w5] [.int ((I2 108) w5.toNatClampNeg), .int (nI 30), .ref 123] E2 I2 J2 S2 _
        refine w_st (i' := 21) (ls' := [.ref 99, .int w5]) (st' := [.int ((nI 30) * ((I2 108) w5.toNatClampNeg)), .ref 123]) (E' := E2) (I' := I2) (J' := J2) (S' := S2) am_e239 rfl rfl rfl rfl ?_
        refine w_st (i' := 22) (ls' := [.ref 99, .int w5]) (st' := [.ref 99, .int ((nI 30) * ((I2 108) w5.toNatClampNeg)), .ref 123]) (E' := E2) (I' := I2) (J' := J2) (S' := S2) am_e239 rfl rfl rfl rfl ?_
        refine w_st (i' := 23) (ls' := [.ref 99, .int w5]) (st' := [.ref 116, .int ((nI 30) * ((I2 108) w5.toNatClampNeg)), .ref 123]) (E' := E2) (I' := I2) (J' := J2) (S' := S2) am_e239 rfl rfl rfl rfl ?_
        refine w_st (i' := 24) (ls' := [.ref 99, .int w5]) (st' := [.int (nI 48), .ref 116, .int ((nI 30) * ((I2 108) w5.toNatClampNeg)), .ref 123]) (E' := E2) (I' := I2) (J' := J2) (S' := S2) am_e239 rfl rfl rfl rfl ?_
        refine w_st (i' := 25) (ls' := [.ref 99, .int w5]) (st' := [.ref 99, .int (nI 48), .ref 116, .int ((nI 30) * ((I2 108) w5.toNatClampNeg)), .ref 123]) (E' := E2) (I' := I2) (J' := J2) (S' := S2) am_e239 rfl rfl rfl rfl ?_
        refine w_st (i' := 26) (ls' := [.ref 99, .int w5]) (st' := [.ref 108, .int (nI 48), .ref 116, .int ((nI 30) * ((I2 108) w5.toNatClampNeg)), .ref 123]) (E' := E2) (I' := I2) (J' := J2) (S' := S2) am_e239 rfl rfl rfl rfl ?_
        refine w_st (i' := 27) (ls' := [.ref 99, .int w5]) (st' := [.int w5, .ref 108, .int (nI 48), .ref 116, .int ((nI 30) * ((I2 108) w5.toNatClampNeg)), .ref 123]) (E' := E2) (I' := I2) (J' := J2) (S' := S2) am_e239 rfl rfl rfl rfl ?_
        refine w_ia (k := 108) (n := 128) (jn := w5.toNatClampNeg) am_e239 rfl rfl (by decide) hf6 rfl ?_
        show am_ww 239 28 [.ref 99, .int w5] [.int ((I2 108) w5.toNatClampNeg), .int (nI 48), .ref 116, .int ((nI 30) * ((I2 108) w5.toNatClampNeg)), .ref 123] E2 I2 J2 S2 _
        refine w_st (i' := 29) (ls' := [.ref 99, .int w5]) (st' := [.int ((nI 48) + ((I2 108) w5.toNatClampNeg)), .ref 116, .int ((nI 30) * ((I2 108) w5.toNatClampNeg)), .ref 123]) (E' := E2) (I' := I2) (J' := J2) (S' := S2) am_e239 rfl rfl rfl rfl ?_
        refine w_ia (k := 116) (n := 51) (jn := ((nI 48) + ((I2 108) w5.toNatClampNeg)).toNatClampNeg) am_e239 rfl rfl (by decide) h.1 rfl ?_
        replace h := h.2
        show am_ww 239 30 [.ref 99, .int w5] [.int ((I2 116) (((nI 48) + ((I2 108) w5.toNatClampNeg)).toNatClampNeg)), .int ((nI 30) * ((I2 108) w5.toNatClampNeg)), .ref 123] E2 I2 J2 S2 _
        refine w_st (i' := 31) (ls' := [.ref 99, .int w5]) (st' := [.int (((nI 30) * ((I2 108) w5.toNatClampNeg)) + ((I2 116) (((nI 48) + ((I2 108) w5.toNatClampNeg)).toNatClampNeg))), .ref 123]) (E' := E2) (I' := I2) (J' := J2) (S' := S2) am_e239 rfl rfl rfl rfl ?_
        refine w_ia (k := 123) (n := 90) (jn := (((nI 30) * ((I2 108) w5.toNatClampNeg)) + ((I2 116) (((nI 48) + ((I2 108) w5.toNatClampNeg)).toNatClampNeg))).toNatClampNeg) am_e239 rfl rfl (by decide) h.1 rfl ?_
        replace h := h.2
        show am_ww 239 32 [.ref 99, .int w5] [.int ((I2 123) ((((nI 30) * ((I2 108) w5.toNatClampNeg)) + ((I2 116) (((nI 48) + ((I2 108) w5.toNatClampNeg)).toNatClampNeg))).toNatClampNeg))] E2 I2 J2 S2 _
        refine w_st (i' := 34) (ls' := [.ref 99, .int w5]) (st' := [.int ((I2 123) ((((nI 30) * ((I2 108) w5.toNatClampNeg)) + ((I2 116) (((nI 48) + ((I2 108) w5.toNatClampNeg)).toNatClampNeg))).toNatClampNeg))]) (E' := E2) (I' := I2) (J' := J2) (S' := S2) am_e239 rfl rfl rfl rfl ?_
        first | exact hm | (simp only [if_pos m7] at hm; exact hm)
    replace h := h.2
    refine w_var (fun w8 => am_ww 239 34 [.ref 99, .int w5] [.int w8] E2 I2 J2 S2 _) (if ((I2 106) w5.toNatClampNeg) = (nI 6) then ((I2 123) ((((nI 30) * ((I2 108) w5.toNatClampNeg)) + ((I2 116) (((nI 48) + ((I2 108) w5.toNatClampNeg)).toNatClampNeg))).toNatClampNeg)) else nI 0) (fun w8 hw8 => ?_)
    replace h := h w8 hw8
    refine w_ri am_e239 rfl rfl (q_mkI ?_)
    show am_ww 236 33 [.ref 99, .int x1, .int x2, .int v1] [.int w8, .ref 99] E2 I2 J2 S2 _
    refine w_cV am_e236 rfl rfl (as := [.ref 99, .int w8]) (rest := []) rfl rfl (am_ww.mono h ?_)
    rintro _ E9 I9 J9 S9 ⟨rfl, h⟩
    refine q_mkV ?_
    refine w_st (i' := 35) (ls' := [.ref 99, .int x1, .int x2, .int v1]) (st' := [.ref 99]) (E' := E9) (I' := I9) (J' := J9) (S' := S9) am_e236 rfl rfl rfl rfl ?_
    refine w_st (i' := 36) (ls' := [.ref 99, .int x1, .int x2, .int v1]) (st' := [.ref 116]) (E' := E9) (I' := I9) (J' := J9) (S' := S9) am_e236 rfl rfl rfl rfl ?_
    refine w_st (i' := 37) (ls' := [.ref 99, .int x1, .int x2, .int v1]) (st' := [.int (nI 45), .ref 116]) (E' := E9) (I' := I9) (J' := J9) (S' := S9) am_e236 rfl rfl rfl rfl ?_
    refine w_st (i' := 38) (ls' := [.ref 99, .int x1, .int x2, .int v1]) (st' := [.int (nI 45), .ref 116, .int (nI 45), .ref 116]) (E' := E9) (I' := I9) (J' := J9) (S' := S9) am_e236 rfl rfl rfl rfl ?_
    refine w_ia (k := 116) (n := 51) (jn := 45) am_e236 rfl rfl (by decide) (vp_in_nI (by decide) (by decide)) rfl ?_
    show am_ww 236 39 [.ref 99, .int x1, .int x2, .int v1] [.int ((I9 116) 45), .int (nI 45), .ref 116] E9 I9 J9 S9 _
    refine w_st (i' := 40) (ls' := [.ref 99, .int x1, .int x2, .int v1]) (st' := [.int (nI 1), .int ((I9 116) 45), .int (nI 45), .ref 116]) (E' := E9) (I' := I9) (J' := J9) (S' := S9) am_e236 rfl rfl rfl rfl ?_
    refine w_st (i' := 41) (ls' := [.ref 99, .int x1, .int x2, .int v1]) (st' := [.int (((I9 116) 45) - (nI 1)), .int (nI 45), .ref 116]) (E' := E9) (I' := I9) (J' := J9) (S' := S9) am_e236 rfl rfl rfl rfl ?_
    refine w_is (k := 116) (n := 51) (jn := 45) am_e236 rfl rfl (by decide) (vp_in_nI (by decide) (by decide)) rfl ?_
    show am_ww 236 42 [.ref 99, .int x1, .int x2, .int v1] [] E9 (u_I I9 116 (upd (I9 116) 45 (((I9 116) 45) - (nI 1)))) J9 S9 _
    refine w_st (i' := 43) (ls' := [.ref 99, .int x1, .int x2, .int v1]) (st' := [.int (nI 1)]) (E' := E9) (I' := (u_I I9 116 (upd (I9 116) 45 (((I9 116) 45) - (nI 1))))) (J' := J9) (S' := S9) am_e236 rfl rfl rfl rfl ?_
    exact w_end am_e236 rfl rfl rfl h
  · replace h := h.1 (Decidable.not_not.mp (of_decide_eq_false c))
    refine w_st (i' := 24) (ls' := [.ref 99, .int x1, .int x2, .int v1]) (st' := [.int (nI 0)]) (E' := E1) (I' := I1) (J' := J1) (S' := S1) am_e236 rfl rfl rfl rfl ?_
    exact w_end am_e236 rfl rfl rfl h
-- 248 digestOf
theorem g248_0 {p1 : Int32} {E : am_Ev} {I : Nat → Nat → Int32} {J : Nat → Nat → Int64} {S : Nat → Nat → Option Nat} {Q : am_Qt}  (h : am_ww 248 8 [.ref 99, .int p1, .int (nI 7), .int ((nI 51) * p1), .int (nI 0), am_U] [] E I J S Q) : am_ww 248 0 [.ref 99, .int p1, am_U, am_U, am_U, am_U] [] E I J S Q := by
  refine w_st (i' := 1) (ls' := [.ref 99, .int p1, am_U, am_U, am_U, am_U]) (st' := [.int (nI 7)]) (E' := E) (I' := I) (J' := J) (S' := S) am_e248 rfl rfl rfl rfl ?_
  refine w_st (i' := 2) (ls' := [.ref 99, .int p1, .int (nI 7), am_U, am_U, am_U]) (st' := []) (E' := E) (I' := I) (J' := J) (S' := S) am_e248 rfl rfl rfl rfl ?_
  refine w_st (i' := 3) (ls' := [.ref 99, .int p1, .int (nI 7), am_U, am_U, am_U]) (st' := [.int (nI 51)]) (E' := E) (I' := I) (J' := J) (S' := S) am_e248 rfl rfl rfl rfl ?_
  refine w_st (i' := 4) (ls' := [.ref 99, .int p1, .int (nI 7), am_U, am_U, am_U]) (st' := [.int p1, .int (nI 51)]) (E' := E) (I' := I) (J' := J) (S' := S) am_e248 rfl rfl rfl rfl ?_
  refine w_st (i' := 5) (ls' := [.ref 99, .int p1, .int (nI 7), am_U, am_U, am_U]) (st' := [.int ((nI 51) * p1)]) (E' := E) (I' := I) (J' := J) (S' := S) am_e248 rfl rfl rfl rfl ?_
  refine w_st (i' := 6) (ls' := [.ref 99, .int p1, .int (nI 7), .int ((nI 51) * p1), am_U, am_U]) (st' := []) (E' := E) (I' := I) (J' := J) (S' := S) am_e248 rfl rfl rfl rfl ?_
  refine w_st (i' := 7) (ls' := [.ref 99, .int p1, .int (nI 7), .int ((nI 51) * p1), am_U, am_U]) (st' := [.int (nI 0)]) (E' := E) (I' := I) (J' := J) (S' := S) am_e248 rfl rfl rfl rfl ?_
  refine w_st (i' := 8) (ls' := [.ref 99, .int p1, .int (nI 7), .int ((nI 51) * p1), .int (nI 0), am_U]) (st' := []) (E' := E) (I' := I) (J' := J) (S' := S) am_e248 rfl rfl rfl rfl ?_
  exact h
theorem g248_8 {d1 : Value} {x2 : Int32} {x3 : Int32} {x4 : Int32} {d5 : Value} {E : am_Ev} {I : Nat → Nat → Int32} {J : Nat → Nat → Int64} {S : Nat → Nat → Option Nat} {Q : am_Qt} (hd1 : am_isL d1 = false) (hd5 : am_isL d5 = false) (h : ((nI 16) ≤ x4 → (am_ww 248 26 [.ref 99, d1, .int x2, .int x3, .int (nI 0), d5] [] E I J S Q)) ∧ (¬ (nI 16) ≤ x4 → (vp_in (x3 + x4) 20451 ∧ (∀ w2 : Int32, w2 = (((nI 31) * x2) + ((I 117) ((x3 + x4).toNatClampNeg))) → (am_ww 248 8 [.ref 99, d1, .int w2, .int x3, .int (x4 + nI 1), d5] [] E I J S Q))))) : am_ww 248 8 [.ref 99, d1, .int x2, .int x3, .int x4, d5] [] E I J S Q := by
  refine w_st (i' := 9) (ls' := [.ref 99, d1, .int x2, .int x3, .int x4, d5]) (st' := [.int x4]) (E' := E) (I' := I) (J' := J) (S' := S) am_e248 rfl rfl rfl rfl ?_
  refine w_st (i' := 10) (ls' := [.ref 99, d1, .int x2, .int x3, .int x4, d5]) (st' := [.int (nI 16), .int x4]) (E' := E) (I' := I) (J' := J) (S' := S) am_e248 rfl rfl rfl rfl ?_
  refine w_if2 am_e248 rfl rfl (fun c => ?_) (fun c => ?_)
  · replace h := h.1 (of_decide_eq_true c)
    refine w_st (i' := 25) (ls' := [.ref 99, d1, .int x2, .int x3, .int x4, d5]) (st' := [.int (nI 0)]) (E' := E) (I' := I) (J' := J) (S' := S) am_e248 rfl rfl rfl rfl ?_
    refine w_st (i' := 26) (ls' := [.ref 99, d1, .int x2, .int x3, .int (nI 0), d5]) (st' := []) (E' := E) (I' := I) (J' := J) (S' := S) am_e248 rfl rfl rfl rfl ?_
    exact h
  · replace h := h.2 (of_decide_eq_false c)
    refine w_st (i' := 12) (ls' := [.ref 99, d1, .int x2, .int x3, .int x4, d5]) (st' := [.int (nI 31)]) (E' := E) (I' := I) (J' := J) (S' := S) am_e248 rfl rfl rfl rfl ?_
    refine w_st (i' := 13) (ls' := [.ref 99, d1, .int x2, .int x3, .int x4, d5]) (st' := [.int x2, .int (nI 31)]) (E' := E) (I' := I) (J' := J) (S' := S) am_e248 rfl rfl rfl rfl ?_
    refine w_st (i' := 14) (ls' := [.ref 99, d1, .int x2, .int x3, .int x4, d5]) (st' := [.int ((nI 31) * x2)]) (E' := E) (I' := I) (J' := J) (S' := S) am_e248 rfl rfl rfl rfl ?_
    refine w_st (i' := 15) (ls' := [.ref 99, d1, .int x2, .int x3, .int x4, d5]) (st' := [.ref 99, .int ((nI 31) * x2)]) (E' := E) (I' := I) (J' := J) (S' := S) am_e248 rfl rfl rfl rfl ?_
    refine w_st (i' := 16) (ls' := [.ref 99, d1, .int x2, .int x3, .int x4, d5]) (st' := [.ref 117, .int ((nI 31) * x2)]) (E' := E) (I' := I) (J' := J) (S' := S) am_e248 rfl rfl rfl rfl ?_
    refine w_st (i' := 17) (ls' := [.ref 99, d1, .int x2, .int x3, .int x4, d5]) (st' := [.int x3, .ref 117, .int ((nI 31) * x2)]) (E' := E) (I' := I) (J' := J) (S' := S) am_e248 rfl rfl rfl rfl ?_
    refine w_st (i' := 18) (ls' := [.ref 99, d1, .int x2, .int x3, .int x4, d5]) (st' := [.int x4, .int x3, .ref 117, .int ((nI 31) * x2)]) (E' := E) (I' := I) (J' := J) (S' := S) am_e248 rfl rfl rfl rfl ?_
    refine w_st (i' := 19) (ls' := [.ref 99, d1, .int x2, .int x3, .int x4, d5]) (st' := [.int (x3 + x4), .ref 117, .int ((nI 31) * x2)]) (E' := E) (I' := I) (J' := J) (S' := S) am_e248 rfl rfl rfl rfl ?_
    have hf1 := h.1
    replace h := h.2
    refine w_ia (k := 117) (n := 20451) (jn := (x3 + x4).toNatClampNeg) am_e248 rfl rfl (by decide) hf1 rfl ?_
    refine w_st (i' := 21) (ls' := [.ref 99, d1, .int x2, .int x3, .int x4, d5]) (st' := [.int (((nI 31) * x2) + ((I 117) ((x3 + x4).toNatClampNeg)))]) (E' := E) (I' := I) (J' := J) (S' := S) am_e248 rfl rfl rfl rfl ?_
    refine w_st (i' := 22) (ls' := [.ref 99, d1, .int (((nI 31) * x2) + ((I 117) ((x3 + x4).toNatClampNeg))), .int x3, .int x4, d5]) (st' := []) (E' := E) (I' := I) (J' := J) (S' := S) am_e248 rfl rfl rfl (by simp [am_step, am_sto, hd1]) ?_
    refine w_var (fun w2 => am_ww 248 22 [.ref 99, d1, .int w2, .int x3, .int x4, d5] [] E I J S _) (((nI 31) * x2) + ((I 117) ((x3 + x4).toNatClampNeg))) (fun w2 hw2 => ?_)
    replace h := h w2 hw2
    refine w_st (i' := 23) (ls' := [.ref 99, d1, .int w2, .int x3, .int (x4 + nI 1), d5]) (st' := []) (E' := E) (I' := I) (J' := J) (S' := S) am_e248 rfl rfl rfl rfl ?_
    refine w_st (i' := 8) (ls' := [.ref 99, d1, .int w2, .int x3, .int (x4 + nI 1), d5]) (st' := []) (E' := E) (I' := I) (J' := J) (S' := S) am_e248 rfl rfl rfl rfl ?_
    exact h
theorem g248_26 {d1 : Value} {x2 : Int32} {x3 : Int32} {x4 : Int32} {d5 : Value} {E : am_Ev} {I : Nat → Nat → Int32} {J : Nat → Nat → Int64} {S : Nat → Nat → Option Nat} {Q : am_Qt} (hd1 : am_isL d1 = false) (hd5 : am_isL d5 = false) (h : (((I 103) 4) ≤ x4 → (am_ww 248 56 [.ref 99, d1, .int x2, .int x3, .int (nI 0), d5] [] E I J S Q)) ∧ (¬ ((I 103) 4) ≤ x4 → (am_ww 248 34 [.ref 99, d1, .int x2, .int x3, .int x4, .int (nI 0)] [] E I J S Q))) : am_ww 248 26 [.ref 99, d1, .int x2, .int x3, .int x4, d5] [] E I J S Q := by
  refine w_st (i' := 27) (ls' := [.ref 99, d1, .int x2, .int x3, .int x4, d5]) (st' := [.int x4]) (E' := E) (I' := I) (J' := J) (S' := S) am_e248 rfl rfl rfl rfl ?_
  refine w_st (i' := 28) (ls' := [.ref 99, d1, .int x2, .int x3, .int x4, d5]) (st' := [.ref 99, .int x4]) (E' := E) (I' := I) (J' := J) (S' := S) am_e248 rfl rfl rfl rfl ?_
  refine w_st (i' := 29) (ls' := [.ref 99, d1, .int x2, .int x3, .int x4, d5]) (st' := [.ref 103, .int x4]) (E' := E) (I' := I) (J' := J) (S' := S) am_e248 rfl rfl rfl rfl ?_
  refine w_st (i' := 30) (ls' := [.ref 99, d1, .int x2, .int x3, .int x4, d5]) (st' := [.int (nI 4), .ref 103, .int x4]) (E' := E) (I' := I) (J' := J) (S' := S) am_e248 rfl rfl rfl rfl ?_
  refine w_ia (k := 103) (n := 10) (jn := 4) am_e248 rfl rfl (by decide) (vp_in_nI (by decide) (by decide)) rfl ?_
  show am_ww 248 31 [.ref 99, d1, .int x2, .int x3, .int x4, d5] [.int ((I 103) 4), .int x4] E I J S _
  refine w_if2 am_e248 rfl rfl (fun c => ?_) (fun c => ?_)
  · replace h := h.1 (of_decide_eq_true c)
    refine w_st (i' := 55) (ls' := [.ref 99, d1, .int x2, .int x3, .int x4, d5]) (st' := [.int (nI 0)]) (E' := E) (I' := I) (J' := J) (S' := S) am_e248 rfl rfl rfl rfl ?_
    refine w_st (i' := 56) (ls' := [.ref 99, d1, .int x2, .int x3, .int (nI 0), d5]) (st' := []) (E' := E) (I' := I) (J' := J) (S' := S) am_e248 rfl rfl rfl rfl ?_
    exact h
  · replace h := h.2 (of_decide_eq_false c)
    refine w_st (i' := 33) (ls' := [.ref 99, d1, .int x2, .int x3, .int x4, d5]) (st' := [.int (nI 0)]) (E' := E) (I' := I) (J' := J) (S' := S) am_e248 rfl rfl rfl rfl ?_
    refine w_st (i' := 34) (ls' := [.ref 99, d1, .int x2, .int x3, .int x4, .int (nI 0)]) (st' := []) (E' := E) (I' := I) (J' := J) (S' := S) am_e248 rfl rfl rfl rfl ?_
    exact h
theorem g248_56 {d1 : Value} {x2 : Int32} {x3 : Int32} {x4 : Int32} {d5 : Value} {E : am_Ev} {I : Nat → Nat → Int32} {J : Nat → Nat → Int64} {S : Nat → Nat → Option Nat} {Q : am_Qt} (hd1 : am_isL d1 = false) (hd5 : am_isL d5 = false) (h : ((nI 4) ≤ x4 → (vp_in (x3 + (nI 44)) 20451 ∧ (Q (.inl (some (.int (((nI 31) * x2) + ((I 117) ((x3 + (nI 44)).toNatClampNeg)))))) E I J S))) ∧ (¬ (nI 4) ≤ x4 → (vp_in ((x3 + (nI 40)) + x4) 20451 ∧ (∀ w3 : Int32, w3 = (((nI 31) * x2) + ((I 117) (((x3 + (nI 40)) + x4).toNatClampNeg))) → (am_ww 248 56 [.ref 99, d1, .int w3, .int x3, .int (x4 + nI 1), d5] [] E I J S Q))))) : am_ww 248 56 [.ref 99, d1, .int x2, .int x3, .int x4, d5] [] E I J S Q := by
  refine w_st (i' := 57) (ls' := [.ref 99, d1, .int x2, .int x3, .int x4, d5]) (st' := [.int x4]) (E' := E) (I' := I) (J' := J) (S' := S) am_e248 rfl rfl rfl rfl ?_
  refine w_st (i' := 58) (ls' := [.ref 99, d1, .int x2, .int x3, .int x4, d5]) (st' := [.int (nI 4), .int x4]) (E' := E) (I' := I) (J' := J) (S' := S) am_e248 rfl rfl rfl rfl ?_
  refine w_if2 am_e248 rfl rfl (fun c => ?_) (fun c => ?_)
  · replace h := h.1 (of_decide_eq_true c)
    refine w_st (i' := 75) (ls' := [.ref 99, d1, .int x2, .int x3, .int x4, d5]) (st' := [.int (nI 31)]) (E' := E) (I' := I) (J' := J) (S' := S) am_e248 rfl rfl rfl rfl ?_
    refine w_st (i' := 76) (ls' := [.ref 99, d1, .int x2, .int x3, .int x4, d5]) (st' := [.int x2, .int (nI 31)]) (E' := E) (I' := I) (J' := J) (S' := S) am_e248 rfl rfl rfl rfl ?_
    refine w_st (i' := 77) (ls' := [.ref 99, d1, .int x2, .int x3, .int x4, d5]) (st' := [.int ((nI 31) * x2)]) (E' := E) (I' := I) (J' := J) (S' := S) am_e248 rfl rfl rfl rfl ?_
    refine w_st (i' := 78) (ls' := [.ref 99, d1, .int x2, .int x3, .int x4, d5]) (st' := [.ref 99, .int ((nI 31) * x2)]) (E' := E) (I' := I) (J' := J) (S' := S) am_e248 rfl rfl rfl rfl ?_
    refine w_st (i' := 79) (ls' := [.ref 99, d1, .int x2, .int x3, .int x4, d5]) (st' := [.ref 117, .int ((nI 31) * x2)]) (E' := E) (I' := I) (J' := J) (S' := S) am_e248 rfl rfl rfl rfl ?_
    refine w_st (i' := 80) (ls' := [.ref 99, d1, .int x2, .int x3, .int x4, d5]) (st' := [.int x3, .ref 117, .int ((nI 31) * x2)]) (E' := E) (I' := I) (J' := J) (S' := S) am_e248 rfl rfl rfl rfl ?_
    refine w_st (i' := 81) (ls' := [.ref 99, d1, .int x2, .int x3, .int x4, d5]) (st' := [.int (nI 44), .int x3, .ref 117, .int ((nI 31) * x2)]) (E' := E) (I' := I) (J' := J) (S' := S) am_e248 rfl rfl rfl rfl ?_
    refine w_st (i' := 82) (ls' := [.ref 99, d1, .int x2, .int x3, .int x4, d5]) (st' := [.int (x3 + (nI 44)), .ref 117, .int ((nI 31) * x2)]) (E' := E) (I' := I) (J' := J) (S' := S) am_e248 rfl rfl rfl rfl ?_
    have hf1 := h.1
    replace h := h.2
    refine w_ia (k := 117) (n := 20451) (jn := (x3 + (nI 44)).toNatClampNeg) am_e248 rfl rfl (by decide) hf1 rfl ?_
    refine w_st (i' := 84) (ls' := [.ref 99, d1, .int x2, .int x3, .int x4, d5]) (st' := [.int (((nI 31) * x2) + ((I 117) ((x3 + (nI 44)).toNatClampNeg)))]) (E' := E) (I' := I) (J' := J) (S' := S) am_e248 rfl rfl rfl rfl ?_
    exact w_ri am_e248 rfl rfl h
  · replace h := h.2 (of_decide_eq_false c)
    refine w_st (i' := 60) (ls' := [.ref 99, d1, .int x2, .int x3, .int x4, d5]) (st' := [.int (nI 31)]) (E' := E) (I' := I) (J' := J) (S' := S) am_e248 rfl rfl rfl rfl ?_
    refine w_st (i' := 61) (ls' := [.ref 99, d1, .int x2, .int x3, .int x4, d5]) (st' := [.int x2, .int (nI 31)]) (E' := E) (I' := I) (J' := J) (S' := S) am_e248 rfl rfl rfl rfl ?_
    refine w_st (i' := 62) (ls' := [.ref 99, d1, .int x2, .int x3, .int x4, d5]) (st' := [.int ((nI 31) * x2)]) (E' := E) (I' := I) (J' := J) (S' := S) am_e248 rfl rfl rfl rfl ?_
    refine w_st (i' := 63) (ls' := [.ref 99, d1, .int x2, .int x3, .int x4, d5]) (st' := [.ref 99, .int ((nI 31) * x2)]) (E' := E) (I' := I) (J' := J) (S' := S) am_e248 rfl rfl rfl rfl ?_
    refine w_st (i' := 64) (ls' := [.ref 99, d1, .int x2, .int x3, .int x4, d5]) (st' := [.ref 117, .int ((nI 31) * x2)]) (E' := E) (I' := I) (J' := J) (S' := S) am_e248 rfl rfl rfl rfl ?_
    refine w_st (i' := 65) (ls' := [.ref 99, d1, .int x2, .int x3, .int x4, d5]) (st' := [.int x3, .ref 117, .int ((nI 31) * x2)]) (E' := E) (I' := I) (J' := J) (S' := S) am_e248 rfl rfl rfl rfl ?_
    refine w_st (i' := 66) (ls' := [.ref 99, d1, .int x2, .int x3, .int x4, d5]) (st' := [.int (nI 40), .int x3, .ref 117, .int ((nI 31) * x2)]) (E' := E) (I' := I) (J' := J) (S' := S) am_e248 rfl rfl rfl rfl ?_
    refine w_st (i' := 67) (ls' := [.ref 99, d1, .int x2, .int x3, .int x4, d5]) (st' := [.int (x3 + (nI 40)), .ref 117, .int ((nI 31) * x2)]) (E' := E) (I' := I) (J' := J) (S' := S) am_e248 rfl rfl rfl rfl ?_
    refine w_st (i' := 68) (ls' := [.ref 99, d1, .int x2, .int x3, .int x4, d5]) (st' := [.int x4, .int (x3 + (nI 40)), .ref 117, .int ((nI 31) * x2)]) (E' := E) (I' := I) (J' := J) (S' := S) am_e248 rfl rfl rfl rfl ?_
    refine w_st (i' := 69) (ls' := [.ref 99, d1, .int x2, .int x3, .int x4, d5]) (st' := [.int ((x3 + (nI 40)) + x4), .ref 117, .int ((nI 31) * x2)]) (E' := E) (I' := I) (J' := J) (S' := S) am_e248 rfl rfl rfl rfl ?_
    have hf2 := h.1
    replace h := h.2
    refine w_ia (k := 117) (n := 20451) (jn := ((x3 + (nI 40)) + x4).toNatClampNeg) am_e248 rfl rfl (by decide) hf2 rfl ?_
    refine w_st (i' := 71) (ls' := [.ref 99, d1, .int x2, .int x3, .int x4, d5]) (st' := [.int (((nI 31) * x2) + ((I 117) (((x3 + (nI 40)) + x4).toNatClampNeg)))]) (E' := E) (I' := I) (J' := J) (S' := S) am_e248 rfl rfl rfl rfl ?_
    refine w_st (i' := 72) (ls' := [.ref 99, d1, .int (((nI 31) * x2) + ((I 117) (((x3 + (nI 40)) + x4).toNatClampNeg))), .int x3, .int x4, d5]) (st' := []) (E' := E) (I' := I) (J' := J) (S' := S) am_e248 rfl rfl rfl (by simp [am_step, am_sto, hd1]) ?_
    refine w_var (fun w3 => am_ww 248 72 [.ref 99, d1, .int w3, .int x3, .int x4, d5] [] E I J S _) (((nI 31) * x2) + ((I 117) (((x3 + (nI 40)) + x4).toNatClampNeg))) (fun w3 hw3 => ?_)
    replace h := h w3 hw3
    refine w_st (i' := 73) (ls' := [.ref 99, d1, .int w3, .int x3, .int (x4 + nI 1), d5]) (st' := []) (E' := E) (I' := I) (J' := J) (S' := S) am_e248 rfl rfl rfl rfl ?_
    refine w_st (i' := 56) (ls' := [.ref 99, d1, .int w3, .int x3, .int (x4 + nI 1), d5]) (st' := []) (E' := E) (I' := I) (J' := J) (S' := S) am_e248 rfl rfl rfl rfl ?_
    exact h
theorem g248_34 {d1 : Value} {x2 : Int32} {x3 : Int32} {x4 : Int32} {x5 : Int32} {E : am_Ev} {I : Nat → Nat → Int32} {J : Nat → Nat → Int64} {S : Nat → Nat → Option Nat} {Q : am_Qt} (hd1 : am_isL d1 = false) (h : ((nI 6) ≤ x5 → (am_ww 248 26 [.ref 99, d1, .int x2, .int x3, .int (x4 + nI 1), .int x5] [] E I J S Q)) ∧ (¬ (nI 6) ≤ x5 → (∀ w1 : Int32, w1 = (((nI 16) + ((nI 6) * x4)) + x5) → (vp_in (x3 + w1) 20451 ∧ (∀ w3 : Int32, w3 = (((nI 31) * x2) + ((I 117) ((x3 + w1).toNatClampNeg))) → (am_ww 248 34 [.ref 99, d1, .int w3, .int x3, .int x4, .int (x5 + nI 1)] [] E I J S Q)))))) : am_ww 248 34 [.ref 99, d1, .int x2, .int x3, .int x4, .int x5] [] E I J S Q := by
  refine w_st (i' := 35) (ls' := [.ref 99, d1, .int x2, .int x3, .int x4, .int x5]) (st' := [.int x5]) (E' := E) (I' := I) (J' := J) (S' := S) am_e248 rfl rfl rfl rfl ?_
  refine w_st (i' := 36) (ls' := [.ref 99, d1, .int x2, .int x3, .int x4, .int x5]) (st' := [.int (nI 6), .int x5]) (E' := E) (I' := I) (J' := J) (S' := S) am_e248 rfl rfl rfl rfl ?_
  refine w_if2 am_e248 rfl rfl (fun c => ?_) (fun c => ?_)
  · replace h := h.1 (of_decide_eq_true c)
    refine w_st (i' := 53) (ls' := [.ref 99, d1, .int x2, .int x3, .int (x4 + nI 1), .int x5]) (st' := []) (E' := E) (I' := I) (J' := J) (S' := S) am_e248 rfl rfl rfl rfl ?_
    refine w_st (i' := 26) (ls' := [.ref 99, d1, .int x2, .int x3, .int (x4 + nI 1), .int x5]) (st' := []) (E' := E) (I' := I) (J' := J) (S' := S) am_e248 rfl rfl rfl rfl ?_
    exact h
  · replace h := h.2 (of_decide_eq_false c)
    refine w_st (i' := 38) (ls' := [.ref 99, d1, .int x2, .int x3, .int x4, .int x5]) (st' := [.int (nI 31)]) (E' := E) (I' := I) (J' := J) (S' := S) am_e248 rfl rfl rfl rfl ?_
    refine w_st (i' := 39) (ls' := [.ref 99, d1, .int x2, .int x3, .int x4, .int x5]) (st' := [.int x2, .int (nI 31)]) (E' := E) (I' := I) (J' := J) (S' := S) am_e248 rfl rfl rfl rfl ?_
    refine w_st (i' := 40) (ls' := [.ref 99, d1, .int x2, .int x3, .int x4, .int x5]) (st' := [.int ((nI 31) * x2)]) (E' := E) (I' := I) (J' := J) (S' := S) am_e248 rfl rfl rfl rfl ?_
    refine w_st (i' := 41) (ls' := [.ref 99, d1, .int x2, .int x3, .int x4, .int x5]) (st' := [.ref 99, .int ((nI 31) * x2)]) (E' := E) (I' := I) (J' := J) (S' := S) am_e248 rfl rfl rfl rfl ?_
    refine w_st (i' := 42) (ls' := [.ref 99, d1, .int x2, .int x3, .int x4, .int x5]) (st' := [.ref 117, .int ((nI 31) * x2)]) (E' := E) (I' := I) (J' := J) (S' := S) am_e248 rfl rfl rfl rfl ?_
    refine w_st (i' := 43) (ls' := [.ref 99, d1, .int x2, .int x3, .int x4, .int x5]) (st' := [.int x3, .ref 117, .int ((nI 31) * x2)]) (E' := E) (I' := I) (J' := J) (S' := S) am_e248 rfl rfl rfl rfl ?_
    refine w_st (i' := 44) (ls' := [.ref 99, d1, .int x2, .int x3, .int x4, .int x5]) (st' := [.int x4, .int x3, .ref 117, .int ((nI 31) * x2)]) (E' := E) (I' := I) (J' := J) (S' := S) am_e248 rfl rfl rfl rfl ?_
    refine w_st (i' := 45) (ls' := [.ref 99, d1, .int x2, .int x3, .int x4, .int x5]) (st' := [.int x5, .int x4, .int x3, .ref 117, .int ((nI 31) * x2)]) (E' := E) (I' := I) (J' := J) (S' := S) am_e248 rfl rfl rfl rfl ?_
    refine w_cI am_e248 rfl rfl (as := [.int x4, .int x5]) (rest := [.int x3, .ref 117, .int ((nI 31) * x2)]) rfl rfl ?_
    show am_ww 222 0 [.int x4, .int x5] [] E I J S _
    refine w_st (i' := 1) (ls' := [.int x4, .int x5]) (st' := [.int (nI 16)]) (E' := E) (I' := I) (J' := J) (S' := S) am_e222 rfl rfl rfl rfl ?_
    refine w_st (i' := 2) (ls' := [.int x4, .int x5]) (st' := [.int (nI 6), .int (nI 16)]) (E' := E) (I' := I) (J' := J) (S' := S) am_e222 rfl rfl rfl rfl ?_
    refine w_st (i' := 3) (ls' := [.int x4, .int x5]) (st' := [.int x4, .int (nI 6), .int (nI 16)]) (E' := E) (I' := I) (J' := J) (S' := S) am_e222 rfl rfl rfl rfl ?_
    refine w_st (i' := 4) (ls' := [.int x4, .int x5]) (st' := [.int ((nI 6) * x4), .int (nI 16)]) (E' := E) (I' := I) (J' := J) (S' := S) am_e222 rfl rfl rfl rfl ?_
    refine w_st (i' := 5) (ls' := [.int x4, .int x5]) (st' := [.int ((nI 16) + ((nI 6) * x4))]) (E' := E) (I' := I) (J' := J) (S' := S) am_e222 rfl rfl rfl rfl ?_
    refine w_st (i' := 6) (ls' := [.int x4, .int x5]) (st' := [.int x5, .int ((nI 16) + ((nI 6) * x4))]) (E' := E) (I' := I) (J' := J) (S' := S) am_e222 rfl rfl rfl rfl ?_
    refine w_st (i' := 7) (ls' := [.int x4, .int x5]) (st' := [.int (((nI 16) + ((nI 6) * x4)) + x5)]) (E' := E) (I' := I) (J' := J) (S' := S) am_e222 rfl rfl rfl rfl ?_
    refine w_ri am_e222 rfl rfl (q_mkI ?_)
    show am_ww 248 46 [.ref 99, d1, .int x2, .int x3, .int x4, .int x5] [.int (((nI 16) + ((nI 6) * x4)) + x5), .int x3, .ref 117, .int ((nI 31) * x2)] E I J S _
    refine w_var (fun w1 => am_ww 248 46 [.ref 99, d1, .int x2, .int x3, .int x4, .int x5] [.int w1, .int x3, .ref 117, .int ((nI 31) * x2)] E I J S _) (((nI 16) + ((nI 6) * x4)) + x5) (fun w1 hw1 => ?_)
    replace h := h w1 hw1
    refine w_st (i' := 47) (ls' := [.ref 99, d1, .int x2, .int x3, .int x4, .int x5]) (st' := [.int (x3 + w1), .ref 117, .int ((nI 31) * x2)]) (E' := E) (I' := I) (J' := J) (S' := S) am_e248 rfl rfl rfl rfl ?_
    have hf2 := h.1
    replace h := h.2
    refine w_ia (k := 117) (n := 20451) (jn := (x3 + w1).toNatClampNeg) am_e248 rfl rfl (by decide) hf2 rfl ?_
    refine w_st (i' := 49) (ls' := [.ref 99, d1, .int x2, .int x3, .int x4, .int x5]) (st' := [.int (((nI 31) * x2) + ((I 117) ((x3 + w1).toNatClampNeg)))]) (E' := E) (I' := I) (J' := J) (S' := S) am_e248 rfl rfl rfl rfl ?_
    refine w_st (i' := 50) (ls' := [.ref 99, d1, .int (((nI 31) * x2) + ((I 117) ((x3 + w1).toNatClampNeg))), .int x3, .int x4, .int x5]) (st' := []) (E' := E) (I' := I) (J' := J) (S' := S) am_e248 rfl rfl rfl (by simp [am_step, am_sto, hd1]) ?_
    refine w_var (fun w3 => am_ww 248 50 [.ref 99, d1, .int w3, .int x3, .int x4, .int x5] [] E I J S _) (((nI 31) * x2) + ((I 117) ((x3 + w1).toNatClampNeg))) (fun w3 hw3 => ?_)
    replace h := h w3 hw3
    refine w_st (i' := 51) (ls' := [.ref 99, d1, .int w3, .int x3, .int x4, .int (x5 + nI 1)]) (st' := []) (E' := E) (I' := I) (J' := J) (S' := S) am_e248 rfl rfl rfl rfl ?_
    refine w_st (i' := 34) (ls' := [.ref 99, d1, .int w3, .int x3, .int x4, .int (x5 + nI 1)]) (st' := []) (E' := E) (I' := I) (J' := J) (S' := S) am_e248 rfl rfl rfl rfl ?_
    exact h
-- 281 digestNow
theorem g281_0  {E : am_Ev} {I : Nat → Nat → Int32} {J : Nat → Nat → Int64} {S : Nat → Nat → Option Nat} {Q : am_Qt}  (h : am_ww 281 4 [.ref 99, .int (nI 7), .int (nI 0)] [] E I J S Q) : am_ww 281 0 [.ref 99, am_U, am_U] [] E I J S Q := by
  refine w_st (i' := 1) (ls' := [.ref 99, am_U, am_U]) (st' := [.int (nI 7)]) (E' := E) (I' := I) (J' := J) (S' := S) am_e281 rfl rfl rfl rfl ?_
  refine w_st (i' := 2) (ls' := [.ref 99, .int (nI 7), am_U]) (st' := []) (E' := E) (I' := I) (J' := J) (S' := S) am_e281 rfl rfl rfl rfl ?_
  refine w_st (i' := 3) (ls' := [.ref 99, .int (nI 7), am_U]) (st' := [.int (nI 0)]) (E' := E) (I' := I) (J' := J) (S' := S) am_e281 rfl rfl rfl rfl ?_
  refine w_st (i' := 4) (ls' := [.ref 99, .int (nI 7), .int (nI 0)]) (st' := []) (E' := E) (I' := I) (J' := J) (S' := S) am_e281 rfl rfl rfl rfl ?_
  exact h
theorem g281_4 {x1 : Int32} {x2 : Int32} {E : am_Ev} {I : Nat → Nat → Int32} {J : Nat → Nat → Int64} {S : Nat → Nat → Option Nat} {Q : am_Qt}  (h : ((nI 44) < x2 → (Q (.inl (some (.int x1))) E I J S)) ∧ (¬ (nI 44) < x2 → (((x2 < ((nI 16) + ((nI 6) * ((I 103) 4))) → (vp_in x2 51 ∧ True)) ∧ (¬ x2 < ((nI 16) + ((nI 6) * ((I 103) 4))) → ((x2 < (nI 40) → (True)) ∧ (¬ x2 < (nI 40) → (vp_in x2 51 ∧ True))))) ∧ (∀ w3 : Int32, w3 = (if x2 < ((nI 16) + ((nI 6) * ((I 103) 4))) then (((nI 31) * x1) + ((I 116) x2.toNatClampNeg)) else (if x2 < (nI 40) then x1 else (((nI 31) * x1) + ((I 116) x2.toNatClampNeg)))) → (am_ww 281 4 [.ref 99, .int w3, .int (x2 + nI 1)] [] E I J S Q))))) : am_ww 281 4 [.ref 99, .int x1, .int x2] [] E I J S Q := by
  refine w_st (i' := 5) (ls' := [.ref 99, .int x1, .int x2]) (st' := [.int x2]) (E' := E) (I' := I) (J' := J) (S' := S) am_e281 rfl rfl rfl rfl ?_
  refine w_st (i' := 6) (ls' := [.ref 99, .int x1, .int x2]) (st' := [.int (nI 44), .int x2]) (E' := E) (I' := I) (J' := J) (S' := S) am_e281 rfl rfl rfl rfl ?_
  refine w_if2 am_e281 rfl rfl (fun c => ?_) (fun c => ?_)
  · replace h := h.1 (of_decide_eq_true c)
    refine w_st (i' := 32) (ls' := [.ref 99, .int x1, .int x2]) (st' := [.int x1]) (E' := E) (I' := I) (J' := J) (S' := S) am_e281 rfl rfl rfl rfl ?_
    exact w_ri am_e281 rfl rfl h
  · replace h := h.2 (of_decide_eq_false c)
    refine w_st (i' := 8) (ls' := [.ref 99, .int x1, .int x2]) (st' := [.int x2]) (E' := E) (I' := I) (J' := J) (S' := S) am_e281 rfl rfl rfl rfl ?_
    refine w_st (i' := 9) (ls' := [.ref 99, .int x1, .int x2]) (st' := [.int (nI 16), .int x2]) (E' := E) (I' := I) (J' := J) (S' := S) am_e281 rfl rfl rfl rfl ?_
    refine w_st (i' := 10) (ls' := [.ref 99, .int x1, .int x2]) (st' := [.int (nI 6), .int (nI 16), .int x2]) (E' := E) (I' := I) (J' := J) (S' := S) am_e281 rfl rfl rfl rfl ?_
    refine w_st (i' := 11) (ls' := [.ref 99, .int x1, .int x2]) (st' := [.ref 99, .int (nI 6), .int (nI 16), .int x2]) (E' := E) (I' := I) (J' := J) (S' := S) am_e281 rfl rfl rfl rfl ?_
    refine w_st (i' := 12) (ls' := [.ref 99, .int x1, .int x2]) (st' := [.ref 103, .int (nI 6), .int (nI 16), .int x2]) (E' := E) (I' := I) (J' := J) (S' := S) am_e281 rfl rfl rfl rfl ?_
    refine w_st (i' := 13) (ls' := [.ref 99, .int x1, .int x2]) (st' := [.int (nI 4), .ref 103, .int (nI 6), .int (nI 16), .int x2]) (E' := E) (I' := I) (J' := J) (S' := S) am_e281 rfl rfl rfl rfl ?_
    refine w_ia (k := 103) (n := 10) (jn := 4) am_e281 rfl rfl (by decide) (vp_in_nI (by decide) (by decide)) rfl ?_
    show am_ww 281 14 [.ref 99, .int x1, .int x2] [.int ((I 103) 4), .int (nI 6), .int (nI 16), .int x2] E I J S _
    refine w_st (i' := 15) (ls' := [.ref 99, .int x1, .int x2]) (st' := [.int ((nI 6) * ((I 103) 4)), .int (nI 16), .int x2]) (E' := E) (I' := I) (J' := J) (S' := S) am_e281 rfl rfl rfl rfl ?_
    refine w_st (i' := 16) (ls' := [.ref 99, .int x1, .int x2]) (st' := [.int ((nI 16) + ((nI 6) * ((I 103) 4))), .int x2]) (E' := E) (I' := I) (J' := J) (S' := S) am_e281 rfl rfl rfl rfl ?_
    refine w_mg (i := 29) (ls' := [.ref 99, .int (if x2 < ((nI 16) + ((nI 6) * ((I 103) 4))) then (((nI 31) * x1) + ((I 116) x2.toNatClampNeg)) else (if x2 < (nI 40) then x1 else (((nI 31) * x1) + ((I 116) x2.toNatClampNeg)))), .int x2]) (st' := []) (fun hm => ?_) ?_
    · replace h := h.1
      refine w_if2 am_e281 rfl rfl (fun c => ?_) (fun c => ?_)
      · have m1 : x2 < ((nI 16) + ((nI 6) * ((I 103) 4))) := (of_decide_eq_true c)
        replace h := h.1 m1
        refine w_st (i' := 21) (ls' := [.ref 99, .int x1, .int x2]) (st' := [.int (nI 31)]) (E' := E) (I' := I) (J' := J) (S' := S) am_e281 rfl rfl rfl rfl ?_
        refine w_st (i' := 22) (ls' := [.ref 99, .int x1, .int x2]) (st' := [.int x1, .int (nI 31)]) (E' := E) (I' := I) (J' := J) (S' := S) am_e281 rfl rfl rfl rfl ?_
        refine w_st (i' := 23) (ls' := [.ref 99, .int x1, .int x2]) (st' := [.int ((nI 31) * x1)]) (E' := E) (I' := I) (J' := J) (S' := S) am_e281 rfl rfl rfl rfl ?_
        refine w_st (i' := 24) (ls' := [.ref 99, .int x1, .int x2]) (st' := [.ref 99, .int ((nI 31) * x1)]) (E' := E) (I' := I) (J' := J) (S' := S) am_e281 rfl rfl rfl rfl ?_
        refine w_st (i' := 25) (ls' := [.ref 99, .int x1, .int x2]) (st' := [.ref 116, .int ((nI 31) * x1)]) (E' := E) (I' := I) (J' := J) (S' := S) am_e281 rfl rfl rfl rfl ?_
        refine w_st (i' := 26) (ls' := [.ref 99, .int x1, .int x2]) (st' := [.int x2, .ref 116, .int ((nI 31) * x1)]) (E' := E) (I' := I) (J' := J) (S' := S) am_e281 rfl rfl rfl rfl ?_
        refine w_ia (k := 116) (n := 51) (jn := x2.toNatClampNeg) am_e281 rfl rfl (by decide) h.1 rfl ?_
        replace h := h.2
        show am_ww 281 27 [.ref 99, .int x1, .int x2] [.int ((I 116) x2.toNatClampNeg), .int ((nI 31) * x1)] E I J S _
        refine w_st (i' := 28) (ls' := [.ref 99, .int x1, .int x2]) (st' := [.int (((nI 31) * x1) + ((I 116) x2.toNatClampNeg))]) (E' := E) (I' := I) (J' := J) (S' := S) am_e281 rfl rfl rfl rfl ?_
        refine w_st (i' := 29) (ls' := [.ref 99, .int (((nI 31) * x1) + ((I 116) x2.toNatClampNeg)), .int x2]) (st' := []) (E' := E) (I' := I) (J' := J) (S' := S) am_e281 rfl rfl rfl rfl ?_
        first | exact hm | (simp only [if_pos m1] at hm; exact hm)
      · have m1 : ¬ (x2 < ((nI 16) + ((nI 6) * ((I 103) 4)))) := (of_decide_eq_false c)
        replace h := h.2 m1
        refine w_st (i' := 18) (ls' := [.ref 99, .int x1, .int x2]) (st' := [.int x2]) (E' := E) (I' := I) (J' := J) (S' := S) am_e281 rfl rfl rfl rfl ?_
        refine w_st (i' := 19) (ls' := [.ref 99, .int x1, .int x2]) (st' := [.int (nI 40), .int x2]) (E' := E) (I' := I) (J' := J) (S' := S) am_e281 rfl rfl rfl rfl ?_
        refine w_if2 am_e281 rfl rfl (fun c => ?_) (fun c => ?_)
        · have m2 : x2 < (nI 40) := (of_decide_eq_true c)
          replace h := h.1 m2
          first | exact hm | (simp only [if_neg m1, if_pos m2] at hm; exact hm)
        · have m2 : ¬ (x2 < (nI 40)) := (of_decide_eq_false c)
          replace h := h.2 m2
          refine w_st (i' := 21) (ls' := [.ref 99, .int x1, .int x2]) (st' := [.int (nI 31)]) (E' := E) (I' := I) (J' := J) (S' := S) am_e281 rfl rfl rfl rfl ?_
          refine w_st (i' := 22) (ls' := [.ref 99, .int x1, .int x2]) (st' := [.int x1, .int (nI 31)]) (E' := E) (I' := I) (J' := J) (S' := S) am_e281 rfl rfl rfl rfl ?_
          refine w_st (i' := 23) (ls' := [.ref 99, .int x1, .int x2]) (st' := [.int ((nI 31) * x1)]) (E' := E) (I' := I) (J' := J) (S' := S) am_e281 rfl rfl rfl rfl ?_
          refine w_st (i' := 24) (ls' := [.ref 99, .int x1, .int x2]) (st' := [.ref 99, .int ((nI 31) * x1)]) (E' := E) (I' := I) (J' := J) (S' := S) am_e281 rfl rfl rfl rfl ?_
          refine w_st (i' := 25) (ls' := [.ref 99, .int x1, .int x2]) (st' := [.ref 116, .int ((nI 31) * x1)]) (E' := E) (I' := I) (J' := J) (S' := S) am_e281 rfl rfl rfl rfl ?_
          refine w_st (i' := 26) (ls' := [.ref 99, .int x1, .int x2]) (st' := [.int x2, .ref 116, .int ((nI 31) * x1)]) (E' := E) (I' := I) (J' := J) (S' := S) am_e281 rfl rfl rfl rfl ?_
          refine w_ia (k := 116) (n := 51) (jn := x2.toNatClampNeg) am_e281 rfl rfl (by decide) h.1 rfl ?_
          replace h := h.2
          show am_ww 281 27 [.ref 99, .int x1, .int x2] [.int ((I 116) x2.toNatClampNeg), .int ((nI 31) * x1)] E I J S _
          refine w_st (i' := 28) (ls' := [.ref 99, .int x1, .int x2]) (st' := [.int (((nI 31) * x1) + ((I 116) x2.toNatClampNeg))]) (E' := E) (I' := I) (J' := J) (S' := S) am_e281 rfl rfl rfl rfl ?_
          refine w_st (i' := 29) (ls' := [.ref 99, .int (((nI 31) * x1) + ((I 116) x2.toNatClampNeg)), .int x2]) (st' := []) (E' := E) (I' := I) (J' := J) (S' := S) am_e281 rfl rfl rfl rfl ?_
          first | exact hm | (simp only [if_neg m1, if_neg m2] at hm; exact hm)
    replace h := h.2
    refine w_var (fun w3 => am_ww 281 29 [.ref 99, .int w3, .int x2] [] E I J S _) (if x2 < ((nI 16) + ((nI 6) * ((I 103) 4))) then (((nI 31) * x1) + ((I 116) x2.toNatClampNeg)) else (if x2 < (nI 40) then x1 else (((nI 31) * x1) + ((I 116) x2.toNatClampNeg)))) (fun w3 hw3 => ?_)
    replace h := h w3 hw3
    refine w_st (i' := 30) (ls' := [.ref 99, .int w3, .int (x2 + nI 1)]) (st' := []) (E' := E) (I' := I) (J' := J) (S' := S) am_e281 rfl rfl rfl rfl ?_
    refine w_st (i' := 4) (ls' := [.ref 99, .int w3, .int (x2 + nI 1)]) (st' := []) (E' := E) (I' := I) (J' := J) (S' := S) am_e281 rfl rfl rfl rfl ?_
    exact h
-- 226 dropSnap
theorem g226_0  {E : am_Ev} {I : Nat → Nat → Int32} {J : Nat → Nat → Int64} {S : Nat → Nat → Option Nat} {Q : am_Qt}  (h : am_ww 226 4 [.ref 99, .int (nI 1), .int (nI 2)] [] E I J S Q) : am_ww 226 0 [.ref 99, am_U, am_U] [] E I J S Q := by
  refine w_st (i' := 1) (ls' := [.ref 99, am_U, am_U]) (st' := [.int (nI 1)]) (E' := E) (I' := I) (J' := J) (S' := S) am_e226 rfl rfl rfl rfl ?_
  refine w_st (i' := 2) (ls' := [.ref 99, .int (nI 1), am_U]) (st' := []) (E' := E) (I' := I) (J' := J) (S' := S) am_e226 rfl rfl rfl rfl ?_
  refine w_st (i' := 3) (ls' := [.ref 99, .int (nI 1), am_U]) (st' := [.int (nI 2)]) (E' := E) (I' := I) (J' := J) (S' := S) am_e226 rfl rfl rfl rfl ?_
  refine w_st (i' := 4) (ls' := [.ref 99, .int (nI 1), .int (nI 2)]) (st' := []) (E' := E) (I' := I) (J' := J) (S' := S) am_e226 rfl rfl rfl rfl ?_
  exact h
theorem g226_4 {x1 : Int32} {x2 : Int32} {E : am_Ev} {I : Nat → Nat → Int32} {J : Nat → Nat → Int64} {S : Nat → Nat → Option Nat} {Q : am_Qt}  (h : ((((I 99) 42) - (nI 1)) ≤ x2 → (am_ww 226 49 [.ref 99, .int x1, .int x1] [] E (u_I I 99 (upd (I 99) 42 (((I 99) 42) - (nI 1)))) J S Q)) ∧ (¬ (((I 99) 42) - (nI 1)) ≤ x2 → (vp_in (x2 + (nI 1)) 9 ∧ (vp_in (x2 - (nI 1)) 9 ∧ (vp_in (x1 + (nI 1)) 9 ∧ (vp_in (x1 - (nI 1)) 9 ∧ (∀ w6 : Int32, w6 = (if (((I 125) ((x1 + (nI 1)).toNatClampNeg)) - ((I 125) ((x1 - (nI 1)).toNatClampNeg))) ≤ (((I 125) ((x2 + (nI 1)).toNatClampNeg)) - ((I 125) ((x2 - (nI 1)).toNatClampNeg))) then x1 else x2) → (am_ww 226 4 [.ref 99, .int w6, .int (x2 + nI 1)] [] E I J S Q)))))))) : am_ww 226 4 [.ref 99, .int x1, .int x2] [] E I J S Q := by
  refine w_st (i' := 5) (ls' := [.ref 99, .int x1, .int x2]) (st' := [.int x2]) (E' := E) (I' := I) (J' := J) (S' := S) am_e226 rfl rfl rfl rfl ?_
  refine w_st (i' := 6) (ls' := [.ref 99, .int x1, .int x2]) (st' := [.ref 99, .int x2]) (E' := E) (I' := I) (J' := J) (S' := S) am_e226 rfl rfl rfl rfl ?_
  refine w_st (i' := 7) (ls' := [.ref 99, .int x1, .int x2]) (st' := [.int ((I 99) 42), .int x2]) (E' := E) (I' := I) (J' := J) (S' := S) am_e226 rfl rfl rfl rfl ?_
  refine w_st (i' := 8) (ls' := [.ref 99, .int x1, .int x2]) (st' := [.int (nI 1), .int ((I 99) 42), .int x2]) (E' := E) (I' := I) (J' := J) (S' := S) am_e226 rfl rfl rfl rfl ?_
  refine w_st (i' := 9) (ls' := [.ref 99, .int x1, .int x2]) (st' := [.int (((I 99) 42) - (nI 1)), .int x2]) (E' := E) (I' := I) (J' := J) (S' := S) am_e226 rfl rfl rfl rfl ?_
  refine w_if2 am_e226 rfl rfl (fun c => ?_) (fun c => ?_)
  · replace h := h.1 (of_decide_eq_true c)
    refine w_st (i' := 42) (ls' := [.ref 99, .int x1, .int x2]) (st' := [.ref 99]) (E' := E) (I' := I) (J' := J) (S' := S) am_e226 rfl rfl rfl rfl ?_
    refine w_st (i' := 43) (ls' := [.ref 99, .int x1, .int x2]) (st' := [.ref 99, .ref 99]) (E' := E) (I' := I) (J' := J) (S' := S) am_e226 rfl rfl rfl rfl ?_
    refine w_st (i' := 44) (ls' := [.ref 99, .int x1, .int x2]) (st' := [.int ((I 99) 42), .ref 99]) (E' := E) (I' := I) (J' := J) (S' := S) am_e226 rfl rfl rfl rfl ?_
    refine w_st (i' := 45) (ls' := [.ref 99, .int x1, .int x2]) (st' := [.int (nI 1), .int ((I 99) 42), .ref 99]) (E' := E) (I' := I) (J' := J) (S' := S) am_e226 rfl rfl rfl rfl ?_
    refine w_st (i' := 46) (ls' := [.ref 99, .int x1, .int x2]) (st' := [.int (((I 99) 42) - (nI 1)), .ref 99]) (E' := E) (I' := I) (J' := J) (S' := S) am_e226 rfl rfl rfl rfl ?_
    refine w_st (i' := 47) (ls' := [.ref 99, .int x1, .int x2]) (st' := []) (E' := E) (I' := (u_I I 99 (upd (I 99) 42 (((I 99) 42) - (nI 1))))) (J' := J) (S' := S) am_e226 rfl rfl rfl rfl ?_
    refine w_st (i' := 48) (ls' := [.ref 99, .int x1, .int x2]) (st' := [.int x1]) (E' := E) (I' := (u_I I 99 (upd (I 99) 42 (((I 99) 42) - (nI 1))))) (J' := J) (S' := S) am_e226 rfl rfl rfl rfl ?_
    refine w_st (i' := 49) (ls' := [.ref 99, .int x1, .int x1]) (st' := []) (E' := E) (I' := (u_I I 99 (upd (I 99) 42 (((I 99) 42) - (nI 1))))) (J' := J) (S' := S) am_e226 rfl rfl rfl rfl ?_
    exact h
  · replace h := h.2 (of_decide_eq_false c)
    refine w_st (i' := 11) (ls' := [.ref 99, .int x1, .int x2]) (st' := [.ref 99]) (E' := E) (I' := I) (J' := J) (S' := S) am_e226 rfl rfl rfl rfl ?_
    refine w_st (i' := 12) (ls' := [.ref 99, .int x1, .int x2]) (st' := [.ref 125]) (E' := E) (I' := I) (J' := J) (S' := S) am_e226 rfl rfl rfl rfl ?_
    refine w_st (i' := 13) (ls' := [.ref 99, .int x1, .int x2]) (st' := [.int x2, .ref 125]) (E' := E) (I' := I) (J' := J) (S' := S) am_e226 rfl rfl rfl rfl ?_
    refine w_st (i' := 14) (ls' := [.ref 99, .int x1, .int x2]) (st' := [.int (nI 1), .int x2, .ref 125]) (E' := E) (I' := I) (J' := J) (S' := S) am_e226 rfl rfl rfl rfl ?_
    refine w_st (i' := 15) (ls' := [.ref 99, .int x1, .int x2]) (st' := [.int (x2 + (nI 1)), .ref 125]) (E' := E) (I' := I) (J' := J) (S' := S) am_e226 rfl rfl rfl rfl ?_
    have hf1 := h.1
    replace h := h.2
    refine w_ia (k := 125) (n := 9) (jn := (x2 + (nI 1)).toNatClampNeg) am_e226 rfl rfl (by decide) hf1 rfl ?_
    refine w_st (i' := 17) (ls' := [.ref 99, .int x1, .int x2]) (st' := [.ref 99, .int ((I 125) ((x2 + (nI 1)).toNatClampNeg))]) (E' := E) (I' := I) (J' := J) (S' := S) am_e226 rfl rfl rfl rfl ?_
    refine w_st (i' := 18) (ls' := [.ref 99, .int x1, .int x2]) (st' := [.ref 125, .int ((I 125) ((x2 + (nI 1)).toNatClampNeg))]) (E' := E) (I' := I) (J' := J) (S' := S) am_e226 rfl rfl rfl rfl ?_
    refine w_st (i' := 19) (ls' := [.ref 99, .int x1, .int x2]) (st' := [.int x2, .ref 125, .int ((I 125) ((x2 + (nI 1)).toNatClampNeg))]) (E' := E) (I' := I) (J' := J) (S' := S) am_e226 rfl rfl rfl rfl ?_
    refine w_st (i' := 20) (ls' := [.ref 99, .int x1, .int x2]) (st' := [.int (nI 1), .int x2, .ref 125, .int ((I 125) ((x2 + (nI 1)).toNatClampNeg))]) (E' := E) (I' := I) (J' := J) (S' := S) am_e226 rfl rfl rfl rfl ?_
    refine w_st (i' := 21) (ls' := [.ref 99, .int x1, .int x2]) (st' := [.int (x2 - (nI 1)), .ref 125, .int ((I 125) ((x2 + (nI 1)).toNatClampNeg))]) (E' := E) (I' := I) (J' := J) (S' := S) am_e226 rfl rfl rfl rfl ?_
    have hf2 := h.1
    replace h := h.2
    refine w_ia (k := 125) (n := 9) (jn := (x2 - (nI 1)).toNatClampNeg) am_e226 rfl rfl (by decide) hf2 rfl ?_
    refine w_st (i' := 23) (ls' := [.ref 99, .int x1, .int x2]) (st' := [.int (((I 125) ((x2 + (nI 1)).toNatClampNeg)) - ((I 125) ((x2 - (nI 1)).toNatClampNeg)))]) (E' := E) (I' := I) (J' := J) (S' := S) am_e226 rfl rfl rfl rfl ?_
    refine w_st (i' := 24) (ls' := [.ref 99, .int x1, .int x2]) (st' := [.ref 99, .int (((I 125) ((x2 + (nI 1)).toNatClampNeg)) - ((I 125) ((x2 - (nI 1)).toNatClampNeg)))]) (E' := E) (I' := I) (J' := J) (S' := S) am_e226 rfl rfl rfl rfl ?_
    refine w_st (i' := 25) (ls' := [.ref 99, .int x1, .int x2]) (st' := [.ref 125, .int (((I 125) ((x2 + (nI 1)).toNatClampNeg)) - ((I 125) ((x2 - (nI 1)).toNatClampNeg)))]) (E' := E) (I' := I) (J' := J) (S' := S) am_e226 rfl rfl rfl rfl ?_
    refine w_st (i' := 26) (ls' := [.ref 99, .int x1, .int x2]) (st' := [.int x1, .ref 125, .int (((I 125) ((x2 + (nI 1)).toNatClampNeg)) - ((I 125) ((x2 - (nI 1)).toNatClampNeg)))]) (E' := E) (I' := I) (J' := J) (S' := S) am_e226 rfl rfl rfl rfl ?_
    refine w_st (i' := 27) (ls' := [.ref 99, .int x1, .int x2]) (st' := [.int (nI 1), .int x1, .ref 125, .int (((I 125) ((x2 + (nI 1)).toNatClampNeg)) - ((I 125) ((x2 - (nI 1)).toNatClampNeg)))]) (E' := E) (I' := I) (J' := J) (S' := S) am_e226 rfl rfl rfl rfl ?_
    refine w_st (i' := 28) (ls' := [.ref 99, .int x1, .int x2]) (st' := [.int (x1 + (nI 1)), .ref 125, .int (((I 125) ((x2 + (nI 1)).toNatClampNeg)) - ((I 125) ((x2 - (nI 1)).toNatClampNeg)))]) (E' := E) (I' := I) (J' := J) (S' := S) am_e226 rfl rfl rfl rfl ?_
    have hf3 := h.1
    replace h := h.2
    refine w_ia (k := 125) (n := 9) (jn := (x1 + (nI 1)).toNatClampNeg) am_e226 rfl rfl (by decide) hf3 rfl ?_
    refine w_st (i' := 30) (ls' := [.ref 99, .int x1, .int x2]) (st' := [.ref 99, .int ((I 125) ((x1 + (nI 1)).toNatClampNeg)), .int (((I 125) ((x2 + (nI 1)).toNatClampNeg)) - ((I 125) ((x2 - (nI 1)).toNatClampNeg)))]) (E' := E) (I' := I) (J' := J) (S' := S) am_e226 rfl rfl rfl rfl ?_
    refine w_st (i' := 31) (ls' := [.ref 99, .int x1, .int x2]) (st' := [.ref 125, .int ((I 125) ((x1 + (nI 1)).toNatClampNeg)), .int (((I 125) ((x2 + (nI 1)).toNatClampNeg)) - ((I 125) ((x2 - (nI 1)).toNatClampNeg)))]) (E' := E) (I' := I) (J' := J) (S' := S) am_e226 rfl rfl rfl rfl ?_
    refine w_st (i' := 32) (ls' := [.ref 99, .int x1, .int x2]) (st' := [.int x1, .ref 125, .int ((I 125) ((x1 + (nI 1)).toNatClampNeg)), .int (((I 125) ((x2 + (nI 1)).toNatClampNeg)) - ((I 125) ((x2 - (nI 1)).toNatClampNeg)))]) (E' := E) (I' := I) (J' := J) (S' := S) am_e226 rfl rfl rfl rfl ?_
    refine w_st (i' := 33) (ls' := [.ref 99, .int x1, .int x2]) (st' := [.int (nI 1), .int x1, .ref 125, .int ((I 125) ((x1 + (nI 1)).toNatClampNeg)), .int (((I 125) ((x2 + (nI 1)).toNatClampNeg)) - ((I 125) ((x2 - (nI 1)).toNatClampNeg)))]) (E' := E) (I' := I) (J' := J) (S' := S) am_e226 rfl rfl rfl rfl ?_
    refine w_st (i' := 34) (ls' := [.ref 99, .int x1, .int x2]) (st' := [.int (x1 - (nI 1)), .ref 125, .int ((I 125) ((x1 + (nI 1)).toNatClampNeg)), .int (((I 125) ((x2 + (nI 1)).toNatClampNeg)) - ((I 125) ((x2 - (nI 1)).toNatClampNeg)))]) (E' := E) (I' := I) (J' := J) (S' := S) am_e226 rfl rfl rfl rfl ?_
    have hf4 := h.1
    replace h := h.2
    refine w_ia (k := 125) (n := 9) (jn := (x1 - (nI 1)).toNatClampNeg) am_e226 rfl rfl (by decide) hf4 rfl ?_
    refine w_st (i' := 36) (ls' := [.ref 99, .int x1, .int x2]) (st' := [.int (((I 125) ((x1 + (nI 1)).toNatClampNeg)) - ((I 125) ((x1 - (nI 1)).toNatClampNeg))), .int (((I 125) ((x2 + (nI 1)).toNatClampNeg)) - ((I 125) ((x2 - (nI 1)).toNatClampNeg)))]) (E' := E) (I' := I) (J' := J) (S' := S) am_e226 rfl rfl rfl rfl ?_
    refine w_mg (i := 39) (ls' := [.ref 99, .int (if (((I 125) ((x1 + (nI 1)).toNatClampNeg)) - ((I 125) ((x1 - (nI 1)).toNatClampNeg))) ≤ (((I 125) ((x2 + (nI 1)).toNatClampNeg)) - ((I 125) ((x2 - (nI 1)).toNatClampNeg))) then x1 else x2), .int x2]) (st' := []) (fun hm => ?_) ?_
    · clear h
      refine w_if2 am_e226 rfl rfl (fun c => ?_) (fun c => ?_)
      · have m5 : (((I 125) ((x1 + (nI 1)).toNatClampNeg)) - ((I 125) ((x1 - (nI 1)).toNatClampNeg))) ≤ (((I 125) ((x2 + (nI 1)).toNatClampNeg)) - ((I 125) ((x2 - (nI 1)).toNatClampNeg))) := (of_decide_eq_true c)
        first | exact hm | (simp only [if_pos m5] at hm; exact hm)
      · have m5 : ¬ ((((I 125) ((x1 + (nI 1)).toNatClampNeg)) - ((I 125) ((x1 - (nI 1)).toNatClampNeg))) ≤ (((I 125) ((x2 + (nI 1)).toNatClampNeg)) - ((I 125) ((x2 - (nI 1)).toNatClampNeg)))) := (of_decide_eq_false c)
        refine w_st (i' := 38) (ls' := [.ref 99, .int x1, .int x2]) (st' := [.int x2]) (E' := E) (I' := I) (J' := J) (S' := S) am_e226 rfl rfl rfl rfl ?_
        refine w_st (i' := 39) (ls' := [.ref 99, .int x2, .int x2]) (st' := []) (E' := E) (I' := I) (J' := J) (S' := S) am_e226 rfl rfl rfl rfl ?_
        first | exact hm | (simp only [if_neg m5] at hm; exact hm)
    refine w_var (fun w6 => am_ww 226 39 [.ref 99, .int w6, .int x2] [] E I J S _) (if (((I 125) ((x1 + (nI 1)).toNatClampNeg)) - ((I 125) ((x1 - (nI 1)).toNatClampNeg))) ≤ (((I 125) ((x2 + (nI 1)).toNatClampNeg)) - ((I 125) ((x2 - (nI 1)).toNatClampNeg))) then x1 else x2) (fun w6 hw6 => ?_)
    replace h := h w6 hw6
    refine w_st (i' := 40) (ls' := [.ref 99, .int w6, .int (x2 + nI 1)]) (st' := []) (E' := E) (I' := I) (J' := J) (S' := S) am_e226 rfl rfl rfl rfl ?_
    refine w_st (i' := 4) (ls' := [.ref 99, .int w6, .int (x2 + nI 1)]) (st' := []) (E' := E) (I' := I) (J' := J) (S' := S) am_e226 rfl rfl rfl rfl ?_
    exact h
theorem g226_49 {d1 : Value} {x2 : Int32} {E : am_Ev} {I : Nat → Nat → Int32} {J : Nat → Nat → Int64} {S : Nat → Nat → Option Nat} {Q : am_Qt} (hd1 : am_isL d1 = false) (h : (((I 99) 42) ≤ x2 → (Q (.inl none) E I J S)) ∧ (¬ ((I 99) 42) ≤ x2 → (vp_in (x2 + (nI 1)) 9 ∧ (vp_in x2 9 ∧ (am_ww 226 49 [.ref 99, d1, .int (x2 + nI 1)] [] E (u_I I 125 (upd (I 125) x2.toNatClampNeg ((I 125) ((x2 + (nI 1)).toNatClampNeg)))) J S Q))))) : am_ww 226 49 [.ref 99, d1, .int x2] [] E I J S Q := by
  refine w_st (i' := 50) (ls' := [.ref 99, d1, .int x2]) (st' := [.int x2]) (E' := E) (I' := I) (J' := J) (S' := S) am_e226 rfl rfl rfl rfl ?_
  refine w_st (i' := 51) (ls' := [.ref 99, d1, .int x2]) (st' := [.ref 99, .int x2]) (E' := E) (I' := I) (J' := J) (S' := S) am_e226 rfl rfl rfl rfl ?_
  refine w_st (i' := 52) (ls' := [.ref 99, d1, .int x2]) (st' := [.int ((I 99) 42), .int x2]) (E' := E) (I' := I) (J' := J) (S' := S) am_e226 rfl rfl rfl rfl ?_
  refine w_if2 am_e226 rfl rfl (fun c => ?_) (fun c => ?_)
  · replace h := h.1 (of_decide_eq_true c)
    exact w_end am_e226 rfl rfl rfl h
  · replace h := h.2 (of_decide_eq_false c)
    refine w_st (i' := 54) (ls' := [.ref 99, d1, .int x2]) (st' := [.ref 99]) (E' := E) (I' := I) (J' := J) (S' := S) am_e226 rfl rfl rfl rfl ?_
    refine w_st (i' := 55) (ls' := [.ref 99, d1, .int x2]) (st' := [.ref 125]) (E' := E) (I' := I) (J' := J) (S' := S) am_e226 rfl rfl rfl rfl ?_
    refine w_st (i' := 56) (ls' := [.ref 99, d1, .int x2]) (st' := [.int x2, .ref 125]) (E' := E) (I' := I) (J' := J) (S' := S) am_e226 rfl rfl rfl rfl ?_
    refine w_st (i' := 57) (ls' := [.ref 99, d1, .int x2]) (st' := [.ref 99, .int x2, .ref 125]) (E' := E) (I' := I) (J' := J) (S' := S) am_e226 rfl rfl rfl rfl ?_
    refine w_st (i' := 58) (ls' := [.ref 99, d1, .int x2]) (st' := [.ref 125, .int x2, .ref 125]) (E' := E) (I' := I) (J' := J) (S' := S) am_e226 rfl rfl rfl rfl ?_
    refine w_st (i' := 59) (ls' := [.ref 99, d1, .int x2]) (st' := [.int x2, .ref 125, .int x2, .ref 125]) (E' := E) (I' := I) (J' := J) (S' := S) am_e226 rfl rfl rfl rfl ?_
    refine w_st (i' := 60) (ls' := [.ref 99, d1, .int x2]) (st' := [.int (nI 1), .int x2, .ref 125, .int x2, .ref 125]) (E' := E) (I' := I) (J' := J) (S' := S) am_e226 rfl rfl rfl rfl ?_
    refine w_st (i' := 61) (ls' := [.ref 99, d1, .int x2]) (st' := [.int (x2 + (nI 1)), .ref 125, .int x2, .ref 125]) (E' := E) (I' := I) (J' := J) (S' := S) am_e226 rfl rfl rfl rfl ?_
    have hf1 := h.1
    replace h := h.2
    refine w_ia (k := 125) (n := 9) (jn := (x2 + (nI 1)).toNatClampNeg) am_e226 rfl rfl (by decide) hf1 rfl ?_
    have hf2 := h.1
    replace h := h.2
    refine w_is (k := 125) (n := 9) (jn := x2.toNatClampNeg) am_e226 rfl rfl (by decide) hf2 rfl ?_
    show am_ww 226 63 [.ref 99, d1, .int x2] [] E (u_I I 125 (upd (I 125) x2.toNatClampNeg ((I 125) ((x2 + (nI 1)).toNatClampNeg)))) J S _
    refine w_st (i' := 64) (ls' := [.ref 99, d1, .int (x2 + nI 1)]) (st' := []) (E' := E) (I' := (u_I I 125 (upd (I 125) x2.toNatClampNeg ((I 125) ((x2 + (nI 1)).toNatClampNeg))))) (J' := J) (S' := S) am_e226 rfl rfl rfl (by simp [am_step, am_sto, am_inc, hd1]) ?_
    refine w_st (i' := 49) (ls' := [.ref 99, d1, .int (x2 + nI 1)]) (st' := []) (E' := E) (I' := (u_I I 125 (upd (I 125) x2.toNatClampNeg ((I 125) ((x2 + (nI 1)).toNatClampNeg))))) (J' := J) (S' := S) am_e226 rfl rfl rfl rfl ?_
    exact h
-- 225 tellSnaps
theorem g225_0  {E : am_Ev} {I : Nat → Nat → Int32} {J : Nat → Nat → Int64} {S : Nat → Nat → Option Nat} {Q : am_Qt}  (h : am_ww 225 10 [.ref 99, .int (nI 16)] [] E (u_I (u_I I 125 (upd (I 125) 0 (nI 0))) 99 (upd (I 99) 42 (nI 1))) J S Q) : am_ww 225 0 [.ref 99, am_U] [] E I J S Q := by
  refine w_st (i' := 1) (ls' := [.ref 99, am_U]) (st' := [.ref 99]) (E' := E) (I' := I) (J' := J) (S' := S) am_e225 rfl rfl rfl rfl ?_
  refine w_st (i' := 2) (ls' := [.ref 99, am_U]) (st' := [.ref 125]) (E' := E) (I' := I) (J' := J) (S' := S) am_e225 rfl rfl rfl rfl ?_
  refine w_st (i' := 3) (ls' := [.ref 99, am_U]) (st' := [.int (nI 0), .ref 125]) (E' := E) (I' := I) (J' := J) (S' := S) am_e225 rfl rfl rfl rfl ?_
  refine w_st (i' := 4) (ls' := [.ref 99, am_U]) (st' := [.int (nI 0), .int (nI 0), .ref 125]) (E' := E) (I' := I) (J' := J) (S' := S) am_e225 rfl rfl rfl rfl ?_
  refine w_is (k := 125) (n := 9) (jn := 0) am_e225 rfl rfl (by decide) (vp_in_nI (by decide) (by decide)) rfl ?_
  show am_ww 225 5 [.ref 99, am_U] [] E (u_I I 125 (upd (I 125) 0 (nI 0))) J S _
  refine w_st (i' := 6) (ls' := [.ref 99, am_U]) (st' := [.ref 99]) (E' := E) (I' := (u_I I 125 (upd (I 125) 0 (nI 0)))) (J' := J) (S' := S) am_e225 rfl rfl rfl rfl ?_
  refine w_st (i' := 7) (ls' := [.ref 99, am_U]) (st' := [.int (nI 1), .ref 99]) (E' := E) (I' := (u_I I 125 (upd (I 125) 0 (nI 0)))) (J' := J) (S' := S) am_e225 rfl rfl rfl rfl ?_
  refine w_st (i' := 8) (ls' := [.ref 99, am_U]) (st' := []) (E' := E) (I' := (u_I (u_I I 125 (upd (I 125) 0 (nI 0))) 99 (upd (I 99) 42 (nI 1)))) (J' := J) (S' := S) am_e225 rfl rfl rfl rfl ?_
  refine w_st (i' := 9) (ls' := [.ref 99, am_U]) (st' := [.int (nI 16)]) (E' := E) (I' := (u_I (u_I I 125 (upd (I 125) 0 (nI 0))) 99 (upd (I 99) 42 (nI 1)))) (J' := J) (S' := S) am_e225 rfl rfl rfl rfl ?_
  refine w_st (i' := 10) (ls' := [.ref 99, .int (nI 16)]) (st' := []) (E' := E) (I' := (u_I (u_I I 125 (upd (I 125) 0 (nI 0))) 99 (upd (I 99) 42 (nI 1)))) (J' := J) (S' := S) am_e225 rfl rfl rfl rfl ?_
  exact h
theorem g225_10 {x1 : Int32} {E : am_Ev} {I : Nat → Nat → Int32} {J : Nat → Nat → Int64} {S : Nat → Nat → Option Nat} {Q : am_Qt}  (h : (((I 99) 12) < x1 → (Q (.inl none) E I J S)) ∧ (¬ ((I 99) 12) < x1 → (vp_in ((I 99) 42) 9 ∧ (((((I 99) 42) + (nI 1)) ≤ ((I 103) 3) → (am_ww 225 10 [.ref 99, .int (x1 + nI 16)] [] E (u_I (u_I I 125 (upd (I 125) (((I 99) 42).toNatClampNeg) x1)) 99 (upd (I 99) 42 (((I 99) 42) + (nI 1)))) J S Q)) ∧ (¬ (((I 99) 42) + (nI 1)) ≤ ((I 103) 3) → (am_cl 226 [.ref 99] E (u_I (u_I I 125 (upd (I 125) (((I 99) 42).toNatClampNeg) x1)) 99 (upd (I 99) 42 (((I 99) 42) + (nI 1)))) J S (q_V fun E2 I2 J2 S2 => am_ww 225 10 [.ref 99, .int (x1 + nI 16)] [] E2 I2 J2 S2 Q))))))) : am_ww 225 10 [.ref 99, .int x1] [] E I J S Q := by
  refine w_st (i' := 11) (ls' := [.ref 99, .int x1]) (st' := [.int x1]) (E' := E) (I' := I) (J' := J) (S' := S) am_e225 rfl rfl rfl rfl ?_
  refine w_st (i' := 12) (ls' := [.ref 99, .int x1]) (st' := [.ref 99, .int x1]) (E' := E) (I' := I) (J' := J) (S' := S) am_e225 rfl rfl rfl rfl ?_
  refine w_st (i' := 13) (ls' := [.ref 99, .int x1]) (st' := [.int ((I 99) 12), .int x1]) (E' := E) (I' := I) (J' := J) (S' := S) am_e225 rfl rfl rfl rfl ?_
  refine w_if2 am_e225 rfl rfl (fun c => ?_) (fun c => ?_)
  · replace h := h.1 (of_decide_eq_true c)
    exact w_end am_e225 rfl rfl rfl h
  · replace h := h.2 (of_decide_eq_false c)
    refine w_st (i' := 15) (ls' := [.ref 99, .int x1]) (st' := [.ref 99]) (E' := E) (I' := I) (J' := J) (S' := S) am_e225 rfl rfl rfl rfl ?_
    refine w_st (i' := 16) (ls' := [.ref 99, .int x1]) (st' := [.ref 125]) (E' := E) (I' := I) (J' := J) (S' := S) am_e225 rfl rfl rfl rfl ?_
    refine w_st (i' := 17) (ls' := [.ref 99, .int x1]) (st' := [.ref 99, .ref 125]) (E' := E) (I' := I) (J' := J) (S' := S) am_e225 rfl rfl rfl rfl ?_
    refine w_st (i' := 18) (ls' := [.ref 99, .int x1]) (st' := [.int ((I 99) 42), .ref 125]) (E' := E) (I' := I) (J' := J) (S' := S) am_e225 rfl rfl rfl rfl ?_
    refine w_st (i' := 19) (ls' := [.ref 99, .int x1]) (st' := [.int x1, .int ((I 99) 42), .ref 125]) (E' := E) (I' := I) (J' := J) (S' := S) am_e225 rfl rfl rfl rfl ?_
    have hf1 := h.1
    replace h := h.2
    refine w_is (k := 125) (n := 9) (jn := ((I 99) 42).toNatClampNeg) am_e225 rfl rfl (by decide) hf1 rfl ?_
    show am_ww 225 20 [.ref 99, .int x1] [] E (u_I I 125 (upd (I 125) (((I 99) 42).toNatClampNeg) x1)) J S _
    refine w_st (i' := 21) (ls' := [.ref 99, .int x1]) (st' := [.ref 99]) (E' := E) (I' := (u_I I 125 (upd (I 125) (((I 99) 42).toNatClampNeg) x1))) (J' := J) (S' := S) am_e225 rfl rfl rfl rfl ?_
    refine w_st (i' := 22) (ls' := [.ref 99, .int x1]) (st' := [.ref 99, .ref 99]) (E' := E) (I' := (u_I I 125 (upd (I 125) (((I 99) 42).toNatClampNeg) x1))) (J' := J) (S' := S) am_e225 rfl rfl rfl rfl ?_
    refine w_st (i' := 23) (ls' := [.ref 99, .int x1]) (st' := [.int ((I 99) 42), .ref 99]) (E' := E) (I' := (u_I I 125 (upd (I 125) (((I 99) 42).toNatClampNeg) x1))) (J' := J) (S' := S) am_e225 rfl rfl rfl rfl ?_
    refine w_st (i' := 24) (ls' := [.ref 99, .int x1]) (st' := [.int (nI 1), .int ((I 99) 42), .ref 99]) (E' := E) (I' := (u_I I 125 (upd (I 125) (((I 99) 42).toNatClampNeg) x1))) (J' := J) (S' := S) am_e225 rfl rfl rfl rfl ?_
    refine w_st (i' := 25) (ls' := [.ref 99, .int x1]) (st' := [.int (((I 99) 42) + (nI 1)), .ref 99]) (E' := E) (I' := (u_I I 125 (upd (I 125) (((I 99) 42).toNatClampNeg) x1))) (J' := J) (S' := S) am_e225 rfl rfl rfl rfl ?_
    refine w_st (i' := 26) (ls' := [.ref 99, .int x1]) (st' := []) (E' := E) (I' := (u_I (u_I I 125 (upd (I 125) (((I 99) 42).toNatClampNeg) x1)) 99 (upd (I 99) 42 (((I 99) 42) + (nI 1))))) (J' := J) (S' := S) am_e225 rfl rfl rfl rfl ?_
    refine w_st (i' := 27) (ls' := [.ref 99, .int x1]) (st' := [.ref 99]) (E' := E) (I' := (u_I (u_I I 125 (upd (I 125) (((I 99) 42).toNatClampNeg) x1)) 99 (upd (I 99) 42 (((I 99) 42) + (nI 1))))) (J' := J) (S' := S) am_e225 rfl rfl rfl rfl ?_
    refine w_st (i' := 28) (ls' := [.ref 99, .int x1]) (st' := [.int (((I 99) 42) + (nI 1))]) (E' := E) (I' := (u_I (u_I I 125 (upd (I 125) (((I 99) 42).toNatClampNeg) x1)) 99 (upd (I 99) 42 (((I 99) 42) + (nI 1))))) (J' := J) (S' := S) am_e225 rfl rfl rfl rfl ?_
    refine w_st (i' := 29) (ls' := [.ref 99, .int x1]) (st' := [.ref 99, .int (((I 99) 42) + (nI 1))]) (E' := E) (I' := (u_I (u_I I 125 (upd (I 125) (((I 99) 42).toNatClampNeg) x1)) 99 (upd (I 99) 42 (((I 99) 42) + (nI 1))))) (J' := J) (S' := S) am_e225 rfl rfl rfl rfl ?_
    refine w_st (i' := 30) (ls' := [.ref 99, .int x1]) (st' := [.ref 103, .int (((I 99) 42) + (nI 1))]) (E' := E) (I' := (u_I (u_I I 125 (upd (I 125) (((I 99) 42).toNatClampNeg) x1)) 99 (upd (I 99) 42 (((I 99) 42) + (nI 1))))) (J' := J) (S' := S) am_e225 rfl rfl rfl rfl ?_
    refine w_st (i' := 31) (ls' := [.ref 99, .int x1]) (st' := [.int (nI 3), .ref 103, .int (((I 99) 42) + (nI 1))]) (E' := E) (I' := (u_I (u_I I 125 (upd (I 125) (((I 99) 42).toNatClampNeg) x1)) 99 (upd (I 99) 42 (((I 99) 42) + (nI 1))))) (J' := J) (S' := S) am_e225 rfl rfl rfl rfl ?_
    refine w_ia (k := 103) (n := 10) (jn := 3) am_e225 rfl rfl (by decide) (vp_in_nI (by decide) (by decide)) rfl ?_
    show am_ww 225 32 [.ref 99, .int x1] [.int ((I 103) 3), .int (((I 99) 42) + (nI 1))] E (u_I (u_I I 125 (upd (I 125) (((I 99) 42).toNatClampNeg) x1)) 99 (upd (I 99) 42 (((I 99) 42) + (nI 1)))) J S _
    refine w_if2 am_e225 rfl rfl (fun c => ?_) (fun c => ?_)
    · replace h := h.1 (of_decide_eq_true c)
      refine w_st (i' := 36) (ls' := [.ref 99, .int (x1 + nI 16)]) (st' := []) (E' := E) (I' := (u_I (u_I I 125 (upd (I 125) (((I 99) 42).toNatClampNeg) x1)) 99 (upd (I 99) 42 (((I 99) 42) + (nI 1))))) (J' := J) (S' := S) am_e225 rfl rfl rfl rfl ?_
      refine w_st (i' := 10) (ls' := [.ref 99, .int (x1 + nI 16)]) (st' := []) (E' := E) (I' := (u_I (u_I I 125 (upd (I 125) (((I 99) 42).toNatClampNeg) x1)) 99 (upd (I 99) 42 (((I 99) 42) + (nI 1))))) (J' := J) (S' := S) am_e225 rfl rfl rfl rfl ?_
      exact h
    · replace h := h.2 (of_decide_eq_false c)
      refine w_st (i' := 34) (ls' := [.ref 99, .int x1]) (st' := [.ref 99]) (E' := E) (I' := (u_I (u_I I 125 (upd (I 125) (((I 99) 42).toNatClampNeg) x1)) 99 (upd (I 99) 42 (((I 99) 42) + (nI 1))))) (J' := J) (S' := S) am_e225 rfl rfl rfl rfl ?_
      refine w_cV am_e225 rfl rfl (as := [.ref 99]) (rest := []) rfl rfl (am_ww.mono h ?_)
      rintro _ E2 I2 J2 S2 ⟨rfl, h⟩
      refine q_mkV ?_
      refine w_st (i' := 36) (ls' := [.ref 99, .int (x1 + nI 16)]) (st' := []) (E' := E2) (I' := I2) (J' := J2) (S' := S2) am_e225 rfl rfl rfl rfl ?_
      refine w_st (i' := 10) (ls' := [.ref 99, .int (x1 + nI 16)]) (st' := []) (E' := E2) (I' := I2) (J' := J2) (S' := S2) am_e225 rfl rfl rfl rfl ?_
      exact h
-- 228 costOf
theorem g228_0 {p1 : Int32} {E : am_Ev} {I : Nat → Nat → Int32} {J : Nat → Nat → Int64} {S : Nat → Nat → Option Nat} {Q : am_Qt}  (h : am_ww 228 4 [.ref 99, .int p1, .int (nI 0), .int (nI 0)] [] E I J S Q) : am_ww 228 0 [.ref 99, .int p1, am_U, am_U] [] E I J S Q := by
  refine w_st (i' := 1) (ls' := [.ref 99, .int p1, am_U, am_U]) (st' := [.int (nI 0)]) (E' := E) (I' := I) (J' := J) (S' := S) am_e228 rfl rfl rfl rfl ?_
  refine w_st (i' := 2) (ls' := [.ref 99, .int p1, .int (nI 0), am_U]) (st' := []) (E' := E) (I' := I) (J' := J) (S' := S) am_e228 rfl rfl rfl rfl ?_
  refine w_st (i' := 3) (ls' := [.ref 99, .int p1, .int (nI 0), am_U]) (st' := [.int (nI 0)]) (E' := E) (I' := I) (J' := J) (S' := S) am_e228 rfl rfl rfl rfl ?_
  refine w_st (i' := 4) (ls' := [.ref 99, .int p1, .int (nI 0), .int (nI 0)]) (st' := []) (E' := E) (I' := I) (J' := J) (S' := S) am_e228 rfl rfl rfl rfl ?_
  exact h
theorem g228_4 {x1 : Int32} {x2 : Int32} {x3 : Int32} {E : am_Ev} {I : Nat → Nat → Int32} {J : Nat → Nat → Int64} {S : Nat → Nat → Option Nat} {Q : am_Qt}  (h : (((I 99) 42) ≤ x3 → (Q (.inl (some (.int (x1 - x2)))) E I J S)) ∧ (¬ ((I 99) 42) ≤ x3 → (vp_in x3 9 ∧ (∀ w3 : Int32, w3 = (if x1 < ((I 125) x3.toNatClampNeg) then x2 else ((I 125) x3.toNatClampNeg)) → (am_ww 228 4 [.ref 99, .int x1, .int w3, .int (x3 + nI 1)] [] E I J S Q))))) : am_ww 228 4 [.ref 99, .int x1, .int x2, .int x3] [] E I J S Q := by
  refine w_st (i' := 5) (ls' := [.ref 99, .int x1, .int x2, .int x3]) (st' := [.int x3]) (E' := E) (I' := I) (J' := J) (S' := S) am_e228 rfl rfl rfl rfl ?_
  refine w_st (i' := 6) (ls' := [.ref 99, .int x1, .int x2, .int x3]) (st' := [.ref 99, .int x3]) (E' := E) (I' := I) (J' := J) (S' := S) am_e228 rfl rfl rfl rfl ?_
  refine w_st (i' := 7) (ls' := [.ref 99, .int x1, .int x2, .int x3]) (st' := [.int ((I 99) 42), .int x3]) (E' := E) (I' := I) (J' := J) (S' := S) am_e228 rfl rfl rfl rfl ?_
  refine w_if2 am_e228 rfl rfl (fun c => ?_) (fun c => ?_)
  · replace h := h.1 (of_decide_eq_true c)
    refine w_st (i' := 24) (ls' := [.ref 99, .int x1, .int x2, .int x3]) (st' := [.int x1]) (E' := E) (I' := I) (J' := J) (S' := S) am_e228 rfl rfl rfl rfl ?_
    refine w_st (i' := 25) (ls' := [.ref 99, .int x1, .int x2, .int x3]) (st' := [.int x2, .int x1]) (E' := E) (I' := I) (J' := J) (S' := S) am_e228 rfl rfl rfl rfl ?_
    refine w_st (i' := 26) (ls' := [.ref 99, .int x1, .int x2, .int x3]) (st' := [.int (x1 - x2)]) (E' := E) (I' := I) (J' := J) (S' := S) am_e228 rfl rfl rfl rfl ?_
    exact w_ri am_e228 rfl rfl h
  · replace h := h.2 (of_decide_eq_false c)
    refine w_st (i' := 9) (ls' := [.ref 99, .int x1, .int x2, .int x3]) (st' := [.ref 99]) (E' := E) (I' := I) (J' := J) (S' := S) am_e228 rfl rfl rfl rfl ?_
    refine w_st (i' := 10) (ls' := [.ref 99, .int x1, .int x2, .int x3]) (st' := [.ref 125]) (E' := E) (I' := I) (J' := J) (S' := S) am_e228 rfl rfl rfl rfl ?_
    refine w_st (i' := 11) (ls' := [.ref 99, .int x1, .int x2, .int x3]) (st' := [.int x3, .ref 125]) (E' := E) (I' := I) (J' := J) (S' := S) am_e228 rfl rfl rfl rfl ?_
    have hf1 := h.1
    replace h := h.2
    refine w_ia (k := 125) (n := 9) (jn := x3.toNatClampNeg) am_e228 rfl rfl (by decide) hf1 rfl ?_
    refine w_st (i' := 13) (ls' := [.ref 99, .int x1, .int x2, .int x3]) (st' := [.int x1, .int ((I 125) x3.toNatClampNeg)]) (E' := E) (I' := I) (J' := J) (S' := S) am_e228 rfl rfl rfl rfl ?_
    refine w_mg (i := 20) (ls' := [.ref 99, .int x1, .int x2, .int x3]) (st' := [.int (if x1 < ((I 125) x3.toNatClampNeg) then x2 else ((I 125) x3.toNatClampNeg))]) (fun hm => ?_) ?_
    · clear h
      refine w_if2 am_e228 rfl rfl (fun c => ?_) (fun c => ?_)
      · have m2 : x1 < ((I 125) x3.toNatClampNeg) := (of_decide_eq_true c)
        refine w_st (i' := 20) (ls' := [.ref 99, .int x1, .int x2, .int x3]) (st' := [.int x2]) (E' := E) (I' := I) (J' := J) (S' := S) am_e228 rfl rfl rfl rfl ?_
        first | exact hm | (simp only [if_pos m2] at hm; exact hm)
      · have m2 : ¬ (x1 < ((I 125) x3.toNatClampNeg)) := (of_decide_eq_false c)
        refine w_st (i' := 15) (ls' := [.ref 99, .int x1, .int x2, .int x3]) (st' := [.ref 99]) (E' := E) (I' := I) (J' := J) (S' := S) am_e228 rfl rfl rfl rfl ?_
        refine w_st (i' := 16) (ls' := [.ref 99, .int x1, .int x2, .int x3]) (st' := [.ref 125]) (E' := E) (I' := I) (J' := J) (S' := S) am_e228 rfl rfl rfl rfl ?_
        refine w_st (i' := 17) (ls' := [.ref 99, .int x1, .int x2, .int x3]) (st' := [.int x3, .ref 125]) (E' := E) (I' := I) (J' := J) (S' := S) am_e228 rfl rfl rfl rfl ?_
        refine w_ia (k := 125) (n := 9) (jn := x3.toNatClampNeg) am_e228 rfl rfl (by decide) hf1 rfl ?_
        show am_ww 228 18 [.ref 99, .int x1, .int x2, .int x3] [.int ((I 125) x3.toNatClampNeg)] E I J S _
        refine w_st (i' := 20) (ls' := [.ref 99, .int x1, .int x2, .int x3]) (st' := [.int ((I 125) x3.toNatClampNeg)]) (E' := E) (I' := I) (J' := J) (S' := S) am_e228 rfl rfl rfl rfl ?_
        first | exact hm | (simp only [if_neg m2] at hm; exact hm)
    refine w_var (fun w3 => am_ww 228 20 [.ref 99, .int x1, .int x2, .int x3] [.int w3] E I J S _) (if x1 < ((I 125) x3.toNatClampNeg) then x2 else ((I 125) x3.toNatClampNeg)) (fun w3 hw3 => ?_)
    replace h := h w3 hw3
    refine w_st (i' := 21) (ls' := [.ref 99, .int x1, .int w3, .int x3]) (st' := []) (E' := E) (I' := I) (J' := J) (S' := S) am_e228 rfl rfl rfl rfl ?_
    refine w_st (i' := 22) (ls' := [.ref 99, .int x1, .int w3, .int (x3 + nI 1)]) (st' := []) (E' := E) (I' := I) (J' := J) (S' := S) am_e228 rfl rfl rfl rfl ?_
    refine w_st (i' := 4) (ls' := [.ref 99, .int x1, .int w3, .int (x3 + nI 1)]) (st' := []) (E' := E) (I' := I) (J' := J) (S' := S) am_e228 rfl rfl rfl rfl ?_
    exact h
-- 227 greatestCost
theorem g227_0  {E : am_Ev} {I : Nat → Nat → Int32} {J : Nat → Nat → Int64} {S : Nat → Nat → Option Nat} {Q : am_Qt}  (h : am_cl 225 [.ref 99] E I J S (q_V fun E1 I1 J1 S1 => am_ww 227 6 [.ref 99, .int (nI 0), .int (nI 0)] [] E1 I1 J1 S1 Q)) : am_ww 227 0 [.ref 99, am_U, am_U] [] E I J S Q := by
  refine w_st (i' := 1) (ls' := [.ref 99, am_U, am_U]) (st' := [.int (nI 0)]) (E' := E) (I' := I) (J' := J) (S' := S) am_e227 rfl rfl rfl rfl ?_
  refine w_st (i' := 2) (ls' := [.ref 99, .int (nI 0), am_U]) (st' := []) (E' := E) (I' := I) (J' := J) (S' := S) am_e227 rfl rfl rfl rfl ?_
  refine w_st (i' := 3) (ls' := [.ref 99, .int (nI 0), am_U]) (st' := [.ref 99]) (E' := E) (I' := I) (J' := J) (S' := S) am_e227 rfl rfl rfl rfl ?_
  refine w_cV am_e227 rfl rfl (as := [.ref 99]) (rest := []) rfl rfl (am_ww.mono h ?_)
  rintro _ E1 I1 J1 S1 ⟨rfl, h⟩
  refine q_mkV ?_
  refine w_st (i' := 5) (ls' := [.ref 99, .int (nI 0), am_U]) (st' := [.int (nI 0)]) (E' := E1) (I' := I1) (J' := J1) (S' := S1) am_e227 rfl rfl rfl rfl ?_
  refine w_st (i' := 6) (ls' := [.ref 99, .int (nI 0), .int (nI 0)]) (st' := []) (E' := E1) (I' := I1) (J' := J1) (S' := S1) am_e227 rfl rfl rfl rfl ?_
  exact h
theorem g227_6 {x1 : Int32} {x2 : Int32} {E : am_Ev} {I : Nat → Nat → Int32} {J : Nat → Nat → Int64} {S : Nat → Nat → Option Nat} {Q : am_Qt}  (h : (((I 99) 12) < x2 → (Q (.inl (some (.int x1))) E I J S)) ∧ (¬ ((I 99) 12) < x2 → (am_cl 228 [.ref 99, .int x2] E I J S (q_I fun v1 E1 I1 J1 S1 => am_ww 227 6 [.ref 99, .int (if x1 < v1 then v1 else x1), .int (x2 + nI 1)] [] E1 I1 J1 S1 Q)))) : am_ww 227 6 [.ref 99, .int x1, .int x2] [] E I J S Q := by
  refine w_st (i' := 7) (ls' := [.ref 99, .int x1, .int x2]) (st' := [.int x2]) (E' := E) (I' := I) (J' := J) (S' := S) am_e227 rfl rfl rfl rfl ?_
  refine w_st (i' := 8) (ls' := [.ref 99, .int x1, .int x2]) (st' := [.ref 99, .int x2]) (E' := E) (I' := I) (J' := J) (S' := S) am_e227 rfl rfl rfl rfl ?_
  refine w_st (i' := 9) (ls' := [.ref 99, .int x1, .int x2]) (st' := [.int ((I 99) 12), .int x2]) (E' := E) (I' := I) (J' := J) (S' := S) am_e227 rfl rfl rfl rfl ?_
  refine w_if2 am_e227 rfl rfl (fun c => ?_) (fun c => ?_)
  · replace h := h.1 (of_decide_eq_true c)
    refine w_st (i' := 19) (ls' := [.ref 99, .int x1, .int x2]) (st' := [.int x1]) (E' := E) (I' := I) (J' := J) (S' := S) am_e227 rfl rfl rfl rfl ?_
    exact w_ri am_e227 rfl rfl h
  · replace h := h.2 (of_decide_eq_false c)
    refine w_st (i' := 11) (ls' := [.ref 99, .int x1, .int x2]) (st' := [.int x1]) (E' := E) (I' := I) (J' := J) (S' := S) am_e227 rfl rfl rfl rfl ?_
    refine w_st (i' := 12) (ls' := [.ref 99, .int x1, .int x2]) (st' := [.ref 99, .int x1]) (E' := E) (I' := I) (J' := J) (S' := S) am_e227 rfl rfl rfl rfl ?_
    refine w_st (i' := 13) (ls' := [.ref 99, .int x1, .int x2]) (st' := [.int x2, .ref 99, .int x1]) (E' := E) (I' := I) (J' := J) (S' := S) am_e227 rfl rfl rfl rfl ?_
    refine w_cI am_e227 rfl rfl (as := [.ref 99, .int x2]) (rest := [.int x1]) rfl rfl (am_ww.mono h ?_)
    rintro _ E1 I1 J1 S1 ⟨v1, rfl, h⟩
    refine q_mkI ?_
    refine w_st (i' := 15) (ls' := [.ref 99, .int x1, .int x2]) (st' := [.int (if x1 < v1 then v1 else x1)]) (E' := E1) (I' := I1) (J' := J1) (S' := S1) am_e227 rfl rfl rfl rfl ?_
    refine w_st (i' := 16) (ls' := [.ref 99, .int (if x1 < v1 then v1 else x1), .int x2]) (st' := []) (E' := E1) (I' := I1) (J' := J1) (S' := S1) am_e227 rfl rfl rfl rfl ?_
    refine w_st (i' := 17) (ls' := [.ref 99, .int (if x1 < v1 then v1 else x1), .int (x2 + nI 1)]) (st' := []) (E' := E1) (I' := I1) (J' := J1) (S' := S1) am_e227 rfl rfl rfl rfl ?_
    refine w_st (i' := 6) (ls' := [.ref 99, .int (if x1 < v1 then v1 else x1), .int (x2 + nI 1)]) (st' := []) (E' := E1) (I' := I1) (J' := J1) (S' := S1) am_e227 rfl rfl rfl rfl ?_
    exact h
-- 230 waitsFor
theorem g230_0 {p1 : Int32} {E : am_Ev} {I : Nat → Nat → Int32} {J : Nat → Nat → Int64} {S : Nat → Nat → Option Nat} {Q : am_Qt}  (h : ∀ w1 : Int32, w1 = (((nI 16) + ((nI 6) * p1)) + (nI 4)) → (vp_in w1 51 ∧ (vp_in p1 8 ∧ ((((I 116) w1.toNatClampNeg) < ((I 105) p1.toNatClampNeg) → (∀ w4 : Int32, w4 = (((nI 16) + ((nI 6) * p1)) + (nI 4)) → (vp_in w4 51 ∧ (∀ w6 : Int32, w6 = (((nI 16) * p1) + ((I 116) w4.toNatClampNeg)) → (vp_in w6 128 ∧ (((((I 106) w6.toNatClampNeg) = (nI 7) → (vp_in ((nI 40) + ((I 107) w6.toNatClampNeg)) 51 ∧ True)) ∧ (¬ ((I 106) w6.toNatClampNeg) = (nI 7) → (True))) ∧ (∀ w9 : Int32, w9 = (if ((I 106) w6.toNatClampNeg) = (nI 7) then ((I 116) (((nI 40) + ((I 107) w6.toNatClampNeg)).toNatClampNeg)) else (-1)) → (Q (.inl (some (.int w9))) E I J S)))))))) ∧ (¬ ((I 116) w1.toNatClampNeg) < ((I 105) p1.toNatClampNeg) → (Q (.inl (some (.int (-1)))) E I J S)))))) : am_ww 230 0 [.ref 99, .int p1, am_U] [] E I J S Q := by
  refine w_st (i' := 1) (ls' := [.ref 99, .int p1, am_U]) (st' := [.ref 99]) (E' := E) (I' := I) (J' := J) (S' := S) am_e230 rfl rfl rfl rfl ?_
  refine w_st (i' := 2) (ls' := [.ref 99, .int p1, am_U]) (st' := [.int p1, .ref 99]) (E' := E) (I' := I) (J' := J) (S' := S) am_e230 rfl rfl rfl rfl ?_
  refine w_cI am_e230 rfl rfl (as := [.ref 99, .int p1]) (rest := []) rfl rfl ?_
  show am_ww 221 0 [.ref 99, .int p1] [] E I J S _
  refine w_st (i' := 1) (ls' := [.ref 99, .int p1]) (st' := [.ref 99]) (E' := E) (I' := I) (J' := J) (S' := S) am_e221 rfl rfl rfl rfl ?_
  refine w_st (i' := 2) (ls' := [.ref 99, .int p1]) (st' := [.ref 116]) (E' := E) (I' := I) (J' := J) (S' := S) am_e221 rfl rfl rfl rfl ?_
  refine w_st (i' := 3) (ls' := [.ref 99, .int p1]) (st' := [.int p1, .ref 116]) (E' := E) (I' := I) (J' := J) (S' := S) am_e221 rfl rfl rfl rfl ?_
  refine w_st (i' := 4) (ls' := [.ref 99, .int p1]) (st' := [.int (nI 4), .int p1, .ref 116]) (E' := E) (I' := I) (J' := J) (S' := S) am_e221 rfl rfl rfl rfl ?_
  refine w_cI am_e221 rfl rfl (as := [.int p1, .int (nI 4)]) (rest := [.ref 116]) rfl rfl ?_
  show am_ww 222 0 [.int p1, .int (nI 4)] [] E I J S _
  refine w_st (i' := 1) (ls' := [.int p1, .int (nI 4)]) (st' := [.int (nI 16)]) (E' := E) (I' := I) (J' := J) (S' := S) am_e222 rfl rfl rfl rfl ?_
  refine w_st (i' := 2) (ls' := [.int p1, .int (nI 4)]) (st' := [.int (nI 6), .int (nI 16)]) (E' := E) (I' := I) (J' := J) (S' := S) am_e222 rfl rfl rfl rfl ?_
  refine w_st (i' := 3) (ls' := [.int p1, .int (nI 4)]) (st' := [.int p1, .int (nI 6), .int (nI 16)]) (E' := E) (I' := I) (J' := J) (S' := S) am_e222 rfl rfl rfl rfl ?_
  refine w_st (i' := 4) (ls' := [.int p1, .int (nI 4)]) (st' := [.int ((nI 6) * p1), .int (nI 16)]) (E' := E) (I' := I) (J' := J) (S' := S) am_e222 rfl rfl rfl rfl ?_
  refine w_st (i' := 5) (ls' := [.int p1, .int (nI 4)]) (st' := [.int ((nI 16) + ((nI 6) * p1))]) (E' := E) (I' := I) (J' := J) (S' := S) am_e222 rfl rfl rfl rfl ?_
  refine w_st (i' := 6) (ls' := [.int p1, .int (nI 4)]) (st' := [.int (nI 4), .int ((nI 16) + ((nI 6) * p1))]) (E' := E) (I' := I) (J' := J) (S' := S) am_e222 rfl rfl rfl rfl ?_
  refine w_st (i' := 7) (ls' := [.int p1, .int (nI 4)]) (st' := [.int (((nI 16) + ((nI 6) * p1)) + (nI 4))]) (E' := E) (I' := I) (J' := J) (S' := S) am_e222 rfl rfl rfl rfl ?_
  refine w_ri am_e222 rfl rfl (q_mkI ?_)
  show am_ww 221 5 [.ref 99, .int p1] [.int (((nI 16) + ((nI 6) * p1)) + (nI 4)), .ref 116] E I J S _
  refine w_var (fun w1 => am_ww 221 5 [.ref 99, .int p1] [.int w1, .ref 116] E I J S _) (((nI 16) + ((nI 6) * p1)) + (nI 4)) (fun w1 hw1 => ?_)
  replace h := h w1 hw1
  have hf2 := h.1
  replace h := h.2
  refine w_ia (k := 116) (n := 51) (jn := w1.toNatClampNeg) am_e221 rfl rfl (by decide) hf2 rfl ?_
  refine w_st (i' := 7) (ls' := [.ref 99, .int p1]) (st' := [.ref 99, .int ((I 116) w1.toNatClampNeg)]) (E' := E) (I' := I) (J' := J) (S' := S) am_e221 rfl rfl rfl rfl ?_
  refine w_st (i' := 8) (ls' := [.ref 99, .int p1]) (st' := [.ref 105, .int ((I 116) w1.toNatClampNeg)]) (E' := E) (I' := I) (J' := J) (S' := S) am_e221 rfl rfl rfl rfl ?_
  refine w_st (i' := 9) (ls' := [.ref 99, .int p1]) (st' := [.int p1, .ref 105, .int ((I 116) w1.toNatClampNeg)]) (E' := E) (I' := I) (J' := J) (S' := S) am_e221 rfl rfl rfl rfl ?_
  have hf3 := h.1
  replace h := h.2
  refine w_ia (k := 105) (n := 8) (jn := p1.toNatClampNeg) am_e221 rfl rfl (by decide) hf3 rfl ?_
  refine w_if2 am_e221 rfl rfl (fun c => ?_) (fun c => ?_)
  · replace h := h.1 (of_decide_eq_true c)
    refine w_st (i' := 14) (ls' := [.ref 99, .int p1]) (st' := [.int (nI 0)]) (E' := E) (I' := I) (J' := J) (S' := S) am_e221 rfl rfl rfl rfl ?_
    refine w_end (E' := E) (I' := I) (J' := J) (S' := S) am_e221 rfl rfl rfl (q_mkI ?_)
    show am_ww 230 3 [.ref 99, .int p1, am_U] [.int (nI 0)] E I J S _
    refine w_st (i' := 6) (ls' := [.ref 99, .int p1, am_U]) (st' := []) (E' := E) (I' := I) (J' := J) (S' := S) am_e230 rfl rfl rfl rfl ?_
    refine w_st (i' := 7) (ls' := [.ref 99, .int p1, am_U]) (st' := [.ref 99]) (E' := E) (I' := I) (J' := J) (S' := S) am_e230 rfl rfl rfl rfl ?_
    refine w_st (i' := 8) (ls' := [.ref 99, .int p1, am_U]) (st' := [.int p1, .ref 99]) (E' := E) (I' := I) (J' := J) (S' := S) am_e230 rfl rfl rfl rfl ?_
    refine w_cI am_e230 rfl rfl (as := [.ref 99, .int p1]) (rest := []) rfl rfl ?_
    show am_ww 223 0 [.ref 99, .int p1] [] E I J S _
    refine w_st (i' := 1) (ls' := [.ref 99, .int p1]) (st' := [.int (nI 16)]) (E' := E) (I' := I) (J' := J) (S' := S) am_e223 rfl rfl rfl rfl ?_
    refine w_st (i' := 2) (ls' := [.ref 99, .int p1]) (st' := [.int p1, .int (nI 16)]) (E' := E) (I' := I) (J' := J) (S' := S) am_e223 rfl rfl rfl rfl ?_
    refine w_st (i' := 3) (ls' := [.ref 99, .int p1]) (st' := [.int ((nI 16) * p1)]) (E' := E) (I' := I) (J' := J) (S' := S) am_e223 rfl rfl rfl rfl ?_
    refine w_st (i' := 4) (ls' := [.ref 99, .int p1]) (st' := [.ref 99, .int ((nI 16) * p1)]) (E' := E) (I' := I) (J' := J) (S' := S) am_e223 rfl rfl rfl rfl ?_
    refine w_st (i' := 5) (ls' := [.ref 99, .int p1]) (st' := [.ref 116, .int ((nI 16) * p1)]) (E' := E) (I' := I) (J' := J) (S' := S) am_e223 rfl rfl rfl rfl ?_
    refine w_st (i' := 6) (ls' := [.ref 99, .int p1]) (st' := [.int p1, .ref 116, .int ((nI 16) * p1)]) (E' := E) (I' := I) (J' := J) (S' := S) am_e223 rfl rfl rfl rfl ?_
    refine w_st (i' := 7) (ls' := [.ref 99, .int p1]) (st' := [.int (nI 4), .int p1, .ref 116, .int ((nI 16) * p1)]) (E' := E) (I' := I) (J' := J) (S' := S) am_e223 rfl rfl rfl rfl ?_
    refine w_cI am_e223 rfl rfl (as := [.int p1, .int (nI 4)]) (rest := [.ref 116, .int ((nI 16) * p1)]) rfl rfl ?_
    show am_ww 222 0 [.int p1, .int (nI 4)] [] E I J S _
    refine w_st (i' := 1) (ls' := [.int p1, .int (nI 4)]) (st' := [.int (nI 16)]) (E' := E) (I' := I) (J' := J) (S' := S) am_e222 rfl rfl rfl rfl ?_
    refine w_st (i' := 2) (ls' := [.int p1, .int (nI 4)]) (st' := [.int (nI 6), .int (nI 16)]) (E' := E) (I' := I) (J' := J) (S' := S) am_e222 rfl rfl rfl rfl ?_
    refine w_st (i' := 3) (ls' := [.int p1, .int (nI 4)]) (st' := [.int p1, .int (nI 6), .int (nI 16)]) (E' := E) (I' := I) (J' := J) (S' := S) am_e222 rfl rfl rfl rfl ?_
    refine w_st (i' := 4) (ls' := [.int p1, .int (nI 4)]) (st' := [.int ((nI 6) * p1), .int (nI 16)]) (E' := E) (I' := I) (J' := J) (S' := S) am_e222 rfl rfl rfl rfl ?_
    refine w_st (i' := 5) (ls' := [.int p1, .int (nI 4)]) (st' := [.int ((nI 16) + ((nI 6) * p1))]) (E' := E) (I' := I) (J' := J) (S' := S) am_e222 rfl rfl rfl rfl ?_
    refine w_st (i' := 6) (ls' := [.int p1, .int (nI 4)]) (st' := [.int (nI 4), .int ((nI 16) + ((nI 6) * p1))]) (E' := E) (I' := I) (J' := J) (S' := S) am_e222 rfl rfl rfl rfl ?_
    refine w_st (i' := 7) (ls' := [.int p1, .int (nI 4)]) (st' := [.int (((nI 16) + ((nI 6) * p1)) + (nI 4))]) (E' := E) (I' := I) (J' := J) (S' := S) am_e222 rfl rfl rfl rfl ?_
    refine w_ri am_e222 rfl rfl (q_mkI ?_)
    show am_ww 223 8 [.ref 99, .int p1] [.int (((nI 16) + ((nI 6) * p1)) + (nI 4)), .ref 116, .int ((nI 16) * p1)] E I J S _
    refine w_var (fun w4 => am_ww 223 8 [.ref 99, .int p1] [.int w4, .ref 116, .int ((nI 16) * p1)] E I J S _) (((nI 16) + ((nI 6) * p1)) + (nI 4)) (fun w4 hw4 => ?_)
    replace h := h w4 hw4
    have hf5 := h.1
    replace h := h.2
    refine w_ia (k := 116) (n := 51) (jn := w4.toNatClampNeg) am_e223 rfl rfl (by decide) hf5 rfl ?_
    refine w_st (i' := 10) (ls' := [.ref 99, .int p1]) (st' := [.int (((nI 16) * p1) + ((I 116) w4.toNatClampNeg))]) (E' := E) (I' := I) (J' := J) (S' := S) am_e223 rfl rfl rfl rfl ?_
    refine w_ri am_e223 rfl rfl (q_mkI ?_)
    show am_ww 230 9 [.ref 99, .int p1, am_U] [.int (((nI 16) * p1) + ((I 116) w4.toNatClampNeg))] E I J S _
    refine w_var (fun w6 => am_ww 230 9 [.ref 99, .int p1, am_U] [.int w6] E I J S _) (((nI 16) * p1) + ((I 116) w4.toNatClampNeg)) (fun w6 hw6 => ?_)
    replace h := h w6 hw6
    refine w_st (i' := 10) (ls' := [.ref 99, .int p1, .int w6]) (st' := []) (E' := E) (I' := I) (J' := J) (S' := S) am_e230 rfl rfl rfl rfl ?_
    refine w_st (i' := 11) (ls' := [.ref 99, .int p1, .int w6]) (st' := [.ref 99]) (E' := E) (I' := I) (J' := J) (S' := S) am_e230 rfl rfl rfl rfl ?_
    refine w_st (i' := 12) (ls' := [.ref 99, .int p1, .int w6]) (st' := [.ref 106]) (E' := E) (I' := I) (J' := J) (S' := S) am_e230 rfl rfl rfl rfl ?_
    refine w_st (i' := 13) (ls' := [.ref 99, .int p1, .int w6]) (st' := [.int w6, .ref 106]) (E' := E) (I' := I) (J' := J) (S' := S) am_e230 rfl rfl rfl rfl ?_
    have hf7 := h.1
    replace h := h.2
    refine w_ia (k := 106) (n := 128) (jn := w6.toNatClampNeg) am_e230 rfl rfl (by decide) hf7 rfl ?_
    refine w_st (i' := 15) (ls' := [.ref 99, .int p1, .int w6]) (st' := [.int (nI 7), .int ((I 106) w6.toNatClampNeg)]) (E' := E) (I' := I) (J' := J) (S' := S) am_e230 rfl rfl rfl rfl ?_
    refine w_mg (i := 27) (ls' := [.ref 99, .int p1, .int w6]) (st' := [.int (if ((I 106) w6.toNatClampNeg) = (nI 7) then ((I 116) (((nI 40) + ((I 107) w6.toNatClampNeg)).toNatClampNeg)) else (-1))]) (fun hm => ?_) ?_
    · replace h := h.1
      refine w_if2 am_e230 rfl rfl (fun c => ?_) (fun c => ?_)
      · have m8 : ¬ (((I 106) w6.toNatClampNeg) = (nI 7)) := (of_decide_eq_true c)
        replace h := h.2 m8
        refine w_st (i' := 27) (ls' := [.ref 99, .int p1, .int w6]) (st' := [.int (-1)]) (E' := E) (I' := I) (J' := J) (S' := S) am_e230 rfl rfl rfl rfl ?_
        first | exact hm | (simp only [if_neg m8] at hm; exact hm)
      · have m8 : ((I 106) w6.toNatClampNeg) = (nI 7) := (Decidable.not_not.mp (of_decide_eq_false c))
        replace h := h.1 m8
        refine w_st (i' := 17) (ls' := [.ref 99, .int p1, .int w6]) (st' := [.ref 99]) (E' := E) (I' := I) (J' := J) (S' := S) am_e230 rfl rfl rfl rfl ?_
        refine w_st (i' := 18) (ls' := [.ref 99, .int p1, .int w6]) (st' := [.ref 116]) (E' := E) (I' := I) (J' := J) (S' := S) am_e230 rfl rfl rfl rfl ?_
        refine w_st (i' := 19) (ls' := [.ref 99, .int p1, .int w6]) (st' := [.int (nI 40), .ref 116]) (E' := E) (I' := I) (J' := J) (S' := S) am_e230 rfl rfl rfl rfl ?_
        refine w_st (i' := 20) (ls' := [.ref 99, .int p1, .int w6]) (st' := [.ref 99, .int (nI 40), .ref 116]) (E' := E) (I' := I) (J' := J) (S' := S) am_e230 rfl rfl rfl rfl ?_
        refine w_st (i' := 21) (ls' := [.ref 99, .int p1, .int w6]) (st' := [.ref 107, .int (nI 40), .ref 116]) (E' := E) (I' := I) (J' := J) (S' := S) am_e230 rfl rfl rfl rfl ?_
        refine w_st (i' := 22) (ls' := [.ref 99, .int p1, .int w6]) (st' := [.int w6, .ref 107, .int (nI 40), .ref 116]) (E' := E) (I' := I) (J' := J) (S' := S) am_e230 rfl rfl rfl rfl ?_
        refine w_ia (k := 107) (n := 128) (jn := w6.toNatClampNeg) am_e230 rfl rfl (by decide) hf7 rfl ?_
        show am_ww 230 23 [.ref 99, .int p1, .int w6] [.int ((I 107) w6.toNatClampNeg), .int (nI 40), .ref 116] E I J S _
        refine w_st (i' := 24) (ls' := [.ref 99, .int p1, .int w6]) (st' := [.int ((nI 40) + ((I 107) w6.toNatClampNeg)), .ref 116]) (E' := E) (I' := I) (J' := J) (S' := S) am_e230 rfl rfl rfl rfl ?_
        refine w_ia (k := 116) (n := 51) (jn := ((nI 40) + ((I 107) w6.toNatClampNeg)).toNatClampNeg) am_e230 rfl rfl (by decide) h.1 rfl ?_
        replace h := h.2
        show am_ww 230 25 [.ref 99, .int p1, .int w6] [.int ((I 116) (((nI 40) + ((I 107) w6.toNatClampNeg)).toNatClampNeg))] E I J S _
        refine w_st (i' := 27) (ls' := [.ref 99, .int p1, .int w6]) (st' := [.int ((I 116) (((nI 40) + ((I 107) w6.toNatClampNeg)).toNatClampNeg))]) (E' := E) (I' := I) (J' := J) (S' := S) am_e230 rfl rfl rfl rfl ?_
        first | exact hm | (simp only [if_pos m8] at hm; exact hm)
    replace h := h.2
    refine w_var (fun w9 => am_ww 230 27 [.ref 99, .int p1, .int w6] [.int w9] E I J S _) (if ((I 106) w6.toNatClampNeg) = (nI 7) then ((I 116) (((nI 40) + ((I 107) w6.toNatClampNeg)).toNatClampNeg)) else (-1)) (fun w9 hw9 => ?_)
    replace h := h w9 hw9
    exact w_ri am_e230 rfl rfl h
  · replace h := h.2 (of_decide_eq_false c)
    refine w_st (i' := 12) (ls' := [.ref 99, .int p1]) (st' := [.int (nI 1)]) (E' := E) (I' := I) (J' := J) (S' := S) am_e221 rfl rfl rfl rfl ?_
    refine w_st (i' := 14) (ls' := [.ref 99, .int p1]) (st' := [.int (nI 1)]) (E' := E) (I' := I) (J' := J) (S' := S) am_e221 rfl rfl rfl rfl ?_
    refine w_end (E' := E) (I' := I) (J' := J) (S' := S) am_e221 rfl rfl rfl (q_mkI ?_)
    show am_ww 230 3 [.ref 99, .int p1, am_U] [.int (nI 1)] E I J S _
    refine w_st (i' := 4) (ls' := [.ref 99, .int p1, am_U]) (st' := []) (E' := E) (I' := I) (J' := J) (S' := S) am_e230 rfl rfl rfl rfl ?_
    refine w_st (i' := 5) (ls' := [.ref 99, .int p1, am_U]) (st' := [.int (-1)]) (E' := E) (I' := I) (J' := J) (S' := S) am_e230 rfl rfl rfl rfl ?_
    exact w_end am_e230 rfl rfl rfl h
-- 229 ring
theorem g229_0  {E : am_Ev} {I : Nat → Nat → Int32} {J : Nat → Nat → Int64} {S : Nat → Nat → Option Nat} {Q : am_Qt}  (h : am_ww 229 4 [.ref 99, .int (nI 0), .int (nI 0), am_U, am_U] [] E I J S Q) : am_ww 229 0 [.ref 99, am_U, am_U, am_U, am_U] [] E I J S Q := by
  refine w_st (i' := 1) (ls' := [.ref 99, am_U, am_U, am_U, am_U]) (st' := [.int (nI 0)]) (E' := E) (I' := I) (J' := J) (S' := S) am_e229 rfl rfl rfl rfl ?_
  refine w_st (i' := 2) (ls' := [.ref 99, .int (nI 0), am_U, am_U, am_U]) (st' := []) (E' := E) (I' := I) (J' := J) (S' := S) am_e229 rfl rfl rfl rfl ?_
  refine w_st (i' := 3) (ls' := [.ref 99, .int (nI 0), am_U, am_U, am_U]) (st' := [.int (nI 0)]) (E' := E) (I' := I) (J' := J) (S' := S) am_e229 rfl rfl rfl rfl ?_
  refine w_st (i' := 4) (ls' := [.ref 99, .int (nI 0), .int (nI 0), am_U, am_U]) (st' := []) (E' := E) (I' := I) (J' := J) (S' := S) am_e229 rfl rfl rfl rfl ?_
  exact h
theorem g229_4 {x1 : Int32} {x2 : Int32} {d3 : Value} {d4 : Value} {E : am_Ev} {I : Nat → Nat → Int32} {J : Nat → Nat → Int64} {S : Nat → Nat → Option Nat} {Q : am_Qt} (hd3 : am_isL d3 = false) (hd4 : am_isL d4 = false) (h : (((I 103) 4) ≤ x2 → (Q (.inl (some (.int x1))) E I J S)) ∧ (¬ ((I 103) 4) ≤ x2 → (am_ww 229 14 [.ref 99, .int x1, .int x2, .int x2, .int (nI 0)] [] E I J S Q))) : am_ww 229 4 [.ref 99, .int x1, .int x2, d3, d4] [] E I J S Q := by
  refine w_st (i' := 5) (ls' := [.ref 99, .int x1, .int x2, d3, d4]) (st' := [.int x2]) (E' := E) (I' := I) (J' := J) (S' := S) am_e229 rfl rfl rfl rfl ?_
  refine w_st (i' := 6) (ls' := [.ref 99, .int x1, .int x2, d3, d4]) (st' := [.ref 99, .int x2]) (E' := E) (I' := I) (J' := J) (S' := S) am_e229 rfl rfl rfl rfl ?_
  refine w_st (i' := 7) (ls' := [.ref 99, .int x1, .int x2, d3, d4]) (st' := [.ref 103, .int x2]) (E' := E) (I' := I) (J' := J) (S' := S) am_e229 rfl rfl rfl rfl ?_
  refine w_st (i' := 8) (ls' := [.ref 99, .int x1, .int x2, d3, d4]) (st' := [.int (nI 4), .ref 103, .int x2]) (E' := E) (I' := I) (J' := J) (S' := S) am_e229 rfl rfl rfl rfl ?_
  refine w_ia (k := 103) (n := 10) (jn := 4) am_e229 rfl rfl (by decide) (vp_in_nI (by decide) (by decide)) rfl ?_
  show am_ww 229 9 [.ref 99, .int x1, .int x2, d3, d4] [.int ((I 103) 4), .int x2] E I J S _
  refine w_if2 am_e229 rfl rfl (fun c => ?_) (fun c => ?_)
  · replace h := h.1 (of_decide_eq_true c)
    refine w_st (i' := 40) (ls' := [.ref 99, .int x1, .int x2, d3, d4]) (st' := [.int x1]) (E' := E) (I' := I) (J' := J) (S' := S) am_e229 rfl rfl rfl rfl ?_
    exact w_ri am_e229 rfl rfl h
  · replace h := h.2 (of_decide_eq_false c)
    refine w_st (i' := 11) (ls' := [.ref 99, .int x1, .int x2, d3, d4]) (st' := [.int x2]) (E' := E) (I' := I) (J' := J) (S' := S) am_e229 rfl rfl rfl rfl ?_
    refine w_st (i' := 12) (ls' := [.ref 99, .int x1, .int x2, .int x2, d4]) (st' := []) (E' := E) (I' := I) (J' := J) (S' := S) am_e229 rfl rfl rfl rfl ?_
    refine w_st (i' := 13) (ls' := [.ref 99, .int x1, .int x2, .int x2, d4]) (st' := [.int (nI 0)]) (E' := E) (I' := I) (J' := J) (S' := S) am_e229 rfl rfl rfl rfl ?_
    refine w_st (i' := 14) (ls' := [.ref 99, .int x1, .int x2, .int x2, .int (nI 0)]) (st' := []) (E' := E) (I' := I) (J' := J) (S' := S) am_e229 rfl rfl rfl rfl ?_
    exact h
theorem g229_14 {x1 : Int32} {x2 : Int32} {x3 : Int32} {x4 : Int32} {E : am_Ev} {I : Nat → Nat → Int32} {J : Nat → Nat → Int64} {S : Nat → Nat → Option Nat} {Q : am_Qt}  (h : ((nI 4) ≤ x4 → (am_ww 229 4 [.ref 99, .int x1, .int (x2 + nI 1), .int x3, .int x4] [] E I J S Q)) ∧ (¬ (nI 4) ≤ x4 → ((x3 = (-1) → (am_ww 229 4 [.ref 99, .int x1, .int (x2 + nI 1), .int x3, .int x4] [] E I J S Q)) ∧ (¬ x3 = (-1) → (∀ w1 : Int32, w1 = (((nI 16) + ((nI 6) * x3)) + (nI 4)) → (vp_in w1 51 ∧ (vp_in x3 8 ∧ ((((I 116) w1.toNatClampNeg) < ((I 105) x3.toNatClampNeg) → (∀ w4 : Int32, w4 = (((nI 16) + ((nI 6) * x3)) + (nI 4)) → (vp_in w4 51 ∧ (∀ w6 : Int32, w6 = (((nI 16) * x3) + ((I 116) w4.toNatClampNeg)) → (vp_in w6 128 ∧ (((((I 106) w6.toNatClampNeg) = (nI 7) → (vp_in ((nI 40) + ((I 107) w6.toNatClampNeg)) 51 ∧ True)) ∧ (¬ ((I 106) w6.toNatClampNeg) = (nI 7) → (True))) ∧ (∀ w9 : Int32, w9 = (if ((I 106) w6.toNatClampNeg) = (nI 7) then ((I 116) (((nI 40) + ((I 107) w6.toNatClampNeg)).toNatClampNeg)) else (-1)) → (∀ w11 : Int32, w11 = (if w9 = x2 then ((nI 1) <<< (x2 &&& 31)) else nI 0) → (am_ww 229 14 [.ref 99, .int (x1 ||| w11), .int x2, .int w9, .int (x4 + nI 1)] [] E I J S Q))))))))) ∧ (¬ ((I 116) w1.toNatClampNeg) < ((I 105) x3.toNatClampNeg) → (∀ w13 : Int32, w13 = (if (-1) = x2 then ((nI 1) <<< (x2 &&& 31)) else nI 0) → (am_ww 229 14 [.ref 99, .int (x1 ||| w13), .int x2, .int (-1), .int (x4 + nI 1)] [] E I J S Q))))))))))) : am_ww 229 14 [.ref 99, .int x1, .int x2, .int x3, .int x4] [] E I J S Q := by
  refine w_st (i' := 15) (ls' := [.ref 99, .int x1, .int x2, .int x3, .int x4]) (st' := [.int x4]) (E' := E) (I' := I) (J' := J) (S' := S) am_e229 rfl rfl rfl rfl ?_
  refine w_st (i' := 16) (ls' := [.ref 99, .int x1, .int x2, .int x3, .int x4]) (st' := [.int (nI 4), .int x4]) (E' := E) (I' := I) (J' := J) (S' := S) am_e229 rfl rfl rfl rfl ?_
  refine w_if2 am_e229 rfl rfl (fun c => ?_) (fun c => ?_)
  · replace h := h.1 (of_decide_eq_true c)
    refine w_st (i' := 38) (ls' := [.ref 99, .int x1, .int (x2 + nI 1), .int x3, .int x4]) (st' := []) (E' := E) (I' := I) (J' := J) (S' := S) am_e229 rfl rfl rfl rfl ?_
    refine w_st (i' := 4) (ls' := [.ref 99, .int x1, .int (x2 + nI 1), .int x3, .int x4]) (st' := []) (E' := E) (I' := I) (J' := J) (S' := S) am_e229 rfl rfl rfl rfl ?_
    exact h
  · replace h := h.2 (of_decide_eq_false c)
    refine w_st (i' := 18) (ls' := [.ref 99, .int x1, .int x2, .int x3, .int x4]) (st' := [.int x3]) (E' := E) (I' := I) (J' := J) (S' := S) am_e229 rfl rfl rfl rfl ?_
    refine w_st (i' := 19) (ls' := [.ref 99, .int x1, .int x2, .int x3, .int x4]) (st' := [.int (-1), .int x3]) (E' := E) (I' := I) (J' := J) (S' := S) am_e229 rfl rfl rfl rfl ?_
    refine w_if2 am_e229 rfl rfl (fun c => ?_) (fun c => ?_)
    · replace h := h.1 (of_decide_eq_true c)
      refine w_st (i' := 38) (ls' := [.ref 99, .int x1, .int (x2 + nI 1), .int x3, .int x4]) (st' := []) (E' := E) (I' := I) (J' := J) (S' := S) am_e229 rfl rfl rfl rfl ?_
      refine w_st (i' := 4) (ls' := [.ref 99, .int x1, .int (x2 + nI 1), .int x3, .int x4]) (st' := []) (E' := E) (I' := I) (J' := J) (S' := S) am_e229 rfl rfl rfl rfl ?_
      exact h
    · replace h := h.2 (of_decide_eq_false c)
      refine w_st (i' := 21) (ls' := [.ref 99, .int x1, .int x2, .int x3, .int x4]) (st' := [.ref 99]) (E' := E) (I' := I) (J' := J) (S' := S) am_e229 rfl rfl rfl rfl ?_
      refine w_st (i' := 22) (ls' := [.ref 99, .int x1, .int x2, .int x3, .int x4]) (st' := [.int x3, .ref 99]) (E' := E) (I' := I) (J' := J) (S' := S) am_e229 rfl rfl rfl rfl ?_
      refine w_cI am_e229 rfl rfl (as := [.ref 99, .int x3]) (rest := []) rfl rfl ?_
      show am_ww 230 0 [.ref 99, .int x3, am_U] [] E I J S _
      refine w_st (i' := 1) (ls' := [.ref 99, .int x3, am_U]) (st' := [.ref 99]) (E' := E) (I' := I) (J' := J) (S' := S) am_e230 rfl rfl rfl rfl ?_
      refine w_st (i' := 2) (ls' := [.ref 99, .int x3, am_U]) (st' := [.int x3, .ref 99]) (E' := E) (I' := I) (J' := J) (S' := S) am_e230 rfl rfl rfl rfl ?_
      refine w_cI am_e230 rfl rfl (as := [.ref 99, .int x3]) (rest := []) rfl rfl ?_
      show am_ww 221 0 [.ref 99, .int x3] [] E I J S _
      refine w_st (i' := 1) (ls' := [.ref 99, .int x3]) (st' := [.ref 99]) (E' := E) (I' := I) (J' := J) (S' := S) am_e221 rfl rfl rfl rfl ?_
      refine w_st (i' := 2) (ls' := [.ref 99, .int x3]) (st' := [.ref 116]) (E' := E) (I' := I) (J' := J) (S' := S) am_e221 rfl rfl rfl rfl ?_
      refine w_st (i' := 3) (ls' := [.ref 99, .int x3]) (st' := [.int x3, .ref 116]) (E' := E) (I' := I) (J' := J) (S' := S) am_e221 rfl rfl rfl rfl ?_
      refine w_st (i' := 4) (ls' := [.ref 99, .int x3]) (st' := [.int (nI 4), .int x3, .ref 116]) (E' := E) (I' := I) (J' := J) (S' := S) am_e221 rfl rfl rfl rfl ?_
      refine w_cI am_e221 rfl rfl (as := [.int x3, .int (nI 4)]) (rest := [.ref 116]) rfl rfl ?_
      show am_ww 222 0 [.int x3, .int (nI 4)] [] E I J S _
      refine w_st (i' := 1) (ls' := [.int x3, .int (nI 4)]) (st' := [.int (nI 16)]) (E' := E) (I' := I) (J' := J) (S' := S) am_e222 rfl rfl rfl rfl ?_
      refine w_st (i' := 2) (ls' := [.int x3, .int (nI 4)]) (st' := [.int (nI 6), .int (nI 16)]) (E' := E) (I' := I) (J' := J) (S' := S) am_e222 rfl rfl rfl rfl ?_
      refine w_st (i' := 3) (ls' := [.int x3, .int (nI 4)]) (st' := [.int x3, .int (nI 6), .int (nI 16)]) (E' := E) (I' := I) (J' := J) (S' := S) am_e222 rfl rfl rfl rfl ?_
      refine w_st (i' := 4) (ls' := [.int x3, .int (nI 4)]) (st' := [.int ((nI 6) * x3), .int (nI 16)]) (E' := E) (I' := I) (J' := J) (S' := S) am_e222 rfl rfl rfl rfl ?_
      refine w_st (i' := 5) (ls' := [.int x3, .int (nI 4)]) (st' := [.int ((nI 16) + ((nI 6) * x3))]) (E' := E) (I' := I) (J' := J) (S' := S) am_e222 rfl rfl rfl rfl ?_
      refine w_st (i' := 6) (ls' := [.int x3, .int (nI 4)]) (st' := [.int (nI 4), .int ((nI 16) + ((nI 6) * x3))]) (E' := E) (I' := I) (J' := J) (S' := S) am_e222 rfl rfl rfl rfl ?_
      refine w_st (i' := 7) (ls' := [.int x3, .int (nI 4)]) (st' := [.int (((nI 16) + ((nI 6) * x3)) + (nI 4))]) (E' := E) (I' := I) (J' := J) (S' := S) am_e222 rfl rfl rfl rfl ?_
      refine w_ri am_e222 rfl rfl (q_mkI ?_)
      show am_ww 221 5 [.ref 99, .int x3] [.int (((nI 16) + ((nI 6) * x3)) + (nI 4)), .ref 116] E I J S _
      refine w_var (fun w1 => am_ww 221 5 [.ref 99, .int x3] [.int w1, .ref 116] E I J S _) (((nI 16) + ((nI 6) * x3)) + (nI 4)) (fun w1 hw1 => ?_)
      replace h := h w1 hw1
      have hf2 := h.1
      replace h := h.2
      refine w_ia (k := 116) (n := 51) (jn := w1.toNatClampNeg) am_e221 rfl rfl (by decide) hf2 rfl ?_
      refine w_st (i' := 7) (ls' := [.ref 99, .int x3]) (st' := [.ref 99, .int ((I 116) w1.toNatClampNeg)]) (E' := E) (I' := I) (J' := J) (S' := S) am_e221 rfl rfl rfl rfl ?_
      refine w_st (i' := 8) (ls' := [.ref 99, .int x3]) (st' := [.ref 105, .int ((I 116) w1.toNatClampNeg)]) (E' := E) (I' := I) (J' := J) (S' := S) am_e221 rfl rfl rfl rfl ?_
      refine w_st (i' := 9) (ls' := [.ref 99, .int x3]) (st' := [.int x3, .ref 105, .int ((I 116) w1.toNatClampNeg)]) (E' := E) (I' := I) (J' := J) (S' := S) am_e221 rfl rfl rfl rfl ?_
      have hf3 := h.1
      replace h := h.2
      refine w_ia (k := 105) (n := 8) (jn := x3.toNatClampNeg) am_e221 rfl rfl (by decide) hf3 rfl ?_
      refine w_if2 am_e221 rfl rfl (fun c => ?_) (fun c => ?_)
      · replace h := h.1 (of_decide_eq_true c)
        refine w_st (i' := 14) (ls' := [.ref 99, .int x3]) (st' := [.int (nI 0)]) (E' := E) (I' := I) (J' := J) (S' := S) am_e221 rfl rfl rfl rfl ?_
        refine w_end (E' := E) (I' := I) (J' := J) (S' := S) am_e221 rfl rfl rfl (q_mkI ?_)
        show am_ww 230 3 [.ref 99, .int x3, am_U] [.int (nI 0)] E I J S _
        refine w_st (i' := 6) (ls' := [.ref 99, .int x3, am_U]) (st' := []) (E' := E) (I' := I) (J' := J) (S' := S) am_e230 rfl rfl rfl rfl ?_
        refine w_st (i' := 7) (ls' := [.ref 99, .int x3, am_U]) (st' := [.ref 99]) (E' := E) (I' := I) (J' := J) (S' := S) am_e230 rfl rfl rfl rfl ?_
        refine w_st (i' := 8) (ls' := [.ref 99, .int x3, am_U]) (st' := [.int x3, .ref 99]) (E' := E) (I' := I) (J' := J) (S' := S) am_e230 rfl rfl rfl rfl ?_
        refine w_cI am_e230 rfl rfl (as := [.ref 99, .int x3]) (rest := []) rfl rfl ?_
        show am_ww 223 0 [.ref 99, .int x3] [] E I J S _
        refine w_st (i' := 1) (ls' := [.ref 99, .int x3]) (st' := [.int (nI 16)]) (E' := E) (I' := I) (J' := J) (S' := S) am_e223 rfl rfl rfl rfl ?_
        refine w_st (i' := 2) (ls' := [.ref 99, .int x3]) (st' := [.int x3, .int (nI 16)]) (E' := E) (I' := I) (J' := J) (S' := S) am_e223 rfl rfl rfl rfl ?_
        refine w_st (i' := 3) (ls' := [.ref 99, .int x3]) (st' := [.int ((nI 16) * x3)]) (E' := E) (I' := I) (J' := J) (S' := S) am_e223 rfl rfl rfl rfl ?_
        refine w_st (i' := 4) (ls' := [.ref 99, .int x3]) (st' := [.ref 99, .int ((nI 16) * x3)]) (E' := E) (I' := I) (J' := J) (S' := S) am_e223 rfl rfl rfl rfl ?_
        refine w_st (i' := 5) (ls' := [.ref 99, .int x3]) (st' := [.ref 116, .int ((nI 16) * x3)]) (E' := E) (I' := I) (J' := J) (S' := S) am_e223 rfl rfl rfl rfl ?_
        refine w_st (i' := 6) (ls' := [.ref 99, .int x3]) (st' := [.int x3, .ref 116, .int ((nI 16) * x3)]) (E' := E) (I' := I) (J' := J) (S' := S) am_e223 rfl rfl rfl rfl ?_
        refine w_st (i' := 7) (ls' := [.ref 99, .int x3]) (st' := [.int (nI 4), .int x3, .ref 116, .int ((nI 16) * x3)]) (E' := E) (I' := I) (J' := J) (S' := S) am_e223 rfl rfl rfl rfl ?_
        refine w_cI am_e223 rfl rfl (as := [.int x3, .int (nI 4)]) (rest := [.ref 116, .int ((nI 16) * x3)]) rfl rfl ?_
        show am_ww 222 0 [.int x3, .int (nI 4)] [] E I J S _
        refine w_st (i' := 1) (ls' := [.int x3, .int (nI 4)]) (st' := [.int (nI 16)]) (E' := E) (I' := I) (J' := J) (S' := S) am_e222 rfl rfl rfl rfl ?_
        refine w_st (i' := 2) (ls' := [.int x3, .int (nI 4)]) (st' := [.int (nI 6), .int (nI 16)]) (E' := E) (I' := I) (J' := J) (S' := S) am_e222 rfl rfl rfl rfl ?_
        refine w_st (i' := 3) (ls' := [.int x3, .int (nI 4)]) (st' := [.int x3, .int (nI 6), .int (nI 16)]) (E' := E) (I' := I) (J' := J) (S' := S) am_e222 rfl rfl rfl rfl ?_
        refine w_st (i' := 4) (ls' := [.int x3, .int (nI 4)]) (st' := [.int ((nI 6) * x3), .int (nI 16)]) (E' := E) (I' := I) (J' := J) (S' := S) am_e222 rfl rfl rfl rfl ?_
        refine w_st (i' := 5) (ls' := [.int x3, .int (nI 4)]) (st' := [.int ((nI 16) + ((nI 6) * x3))]) (E' := E) (I' := I) (J' := J) (S' := S) am_e222 rfl rfl rfl rfl ?_
        refine w_st (i' := 6) (ls' := [.int x3, .int (nI 4)]) (st' := [.int (nI 4), .int ((nI 16) + ((nI 6) * x3))]) (E' := E) (I' := I) (J' := J) (S' := S) am_e222 rfl rfl rfl rfl ?_
        refine w_st (i' := 7) (ls' := [.int x3, .int (nI 4)]) (st' := [.int (((nI 16) + ((nI 6) * x3)) + (nI 4))]) (E' := E) (I' := I) (J' := J) (S' := S) am_e222 rfl rfl rfl rfl ?_
        refine w_ri am_e222 rfl rfl (q_mkI ?_)
        show am_ww 223 8 [.ref 99, .int x3] [.int (((nI 16) + ((nI 6) * x3)) + (nI 4)), .ref 116, .int ((nI 16) * x3)] E I J S _
        refine w_var (fun w4 => am_ww 223 8 [.ref 99, .int x3] [.int w4, .ref 116, .int ((nI 16) * x3)] E I J S _) (((nI 16) + ((nI 6) * x3)) + (nI 4)) (fun w4 hw4 => ?_)
        replace h := h w4 hw4
        have hf5 := h.1
        replace h := h.2
        refine w_ia (k := 116) (n := 51) (jn := w4.toNatClampNeg) am_e223 rfl rfl (by decide) hf5 rfl ?_
        refine w_st (i' := 10) (ls' := [.ref 99, .int x3]) (st' := [.int (((nI 16) * x3) + ((I 116) w4.toNatClampNeg))]) (E' := E) (I' := I) (J' := J) (S' := S) am_e223 rfl rfl rfl rfl ?_
        refine w_ri am_e223 rfl rfl (q_mkI ?_)
        show am_ww 230 9 [.ref 99, .int x3, am_U] [.int (((nI 16) * x3) + ((I 116) w4.toNatClampNeg))] E I J S _
        refine w_var (fun w6 => am_ww 230 9 [.ref 99, .int x3, am_U] [.int w6] E I J S _) (((nI 16) * x3) + ((I 116) w4.toNatClampNeg)) (fun w6 hw6 => ?_)
        replace h := h w6 hw6
        refine w_st (i' := 10) (ls' := [.ref 99, .int x3, .int w6]) (st' := []) (E' := E) (I' := I) (J' := J) (S' := S) am_e230 rfl rfl rfl rfl ?_
        refine w_st (i' := 11) (ls' := [.ref 99, .int x3, .int w6]) (st' := [.ref 99]) (E' := E) (I' := I) (J' := J) (S' := S) am_e230 rfl rfl rfl rfl ?_
        refine w_st (i' := 12) (ls' := [.ref 99, .int x3, .int w6]) (st' := [.ref 106]) (E' := E) (I' := I) (J' := J) (S' := S) am_e230 rfl rfl rfl rfl ?_
        refine w_st (i' := 13) (ls' := [.ref 99, .int x3, .int w6]) (st' := [.int w6, .ref 106]) (E' := E) (I' := I) (J' := J) (S' := S) am_e230 rfl rfl rfl rfl ?_
        have hf7 := h.1
        replace h := h.2
        refine w_ia (k := 106) (n := 128) (jn := w6.toNatClampNeg) am_e230 rfl rfl (by decide) hf7 rfl ?_
        refine w_st (i' := 15) (ls' := [.ref 99, .int x3, .int w6]) (st' := [.int (nI 7), .int ((I 106) w6.toNatClampNeg)]) (E' := E) (I' := I) (J' := J) (S' := S) am_e230 rfl rfl rfl rfl ?_
        refine w_mg (i := 27) (ls' := [.ref 99, .int x3, .int w6]) (st' := [.int (if ((I 106) w6.toNatClampNeg) = (nI 7) then ((I 116) (((nI 40) + ((I 107) w6.toNatClampNeg)).toNatClampNeg)) else (-1))]) (fun hm => ?_) ?_
        · replace h := h.1
          refine w_if2 am_e230 rfl rfl (fun c => ?_) (fun c => ?_)
          · have m8 : ¬ (((I 106) w6.toNatClampNeg) = (nI 7)) := (of_decide_eq_true c)
            replace h := h.2 m8
            refine w_st (i' := 27) (ls' := [.ref 99, .int x3, .int w6]) (st' := [.int (-1)]) (E' := E) (I' := I) (J' := J) (S' := S) am_e230 rfl rfl rfl rfl ?_
            first | exact hm | (simp only [if_neg m8] at hm; exact hm)
          · have m8 : ((I 106) w6.toNatClampNeg) = (nI 7) := (Decidable.not_not.mp (of_decide_eq_false c))
            replace h := h.1 m8
            refine w_st (i' := 17) (ls' := [.ref 99, .int x3, .int w6]) (st' := [.ref 99]) (E' := E) (I' := I) (J' := J) (S' := S) am_e230 rfl rfl rfl rfl ?_
            refine w_st (i' := 18) (ls' := [.ref 99, .int x3, .int w6]) (st' := [.ref 116]) (E' := E) (I' := I) (J' := J) (S' := S) am_e230 rfl rfl rfl rfl ?_
            refine w_st (i' := 19) (ls' := [.ref 99, .int x3, .int w6]) (st' := [.int (nI 40), .ref 116]) (E' := E) (I' := I) (J' := J) (S' := S) am_e230 rfl rfl rfl rfl ?_
            refine w_st (i' := 20) (ls' := [.ref 99, .int x3, .int w6]) (st' := [.ref 99, .int (nI 40), .ref 116]) (E' := E) (I' := I) (J' := J) (S' := S) am_e230 rfl rfl rfl rfl ?_
            refine w_st (i' := 21) (ls' := [.ref 99, .int x3, .int w6]) (st' := [.ref 107, .int (nI 40), .ref 116]) (E' := E) (I' := I) (J' := J) (S' := S) am_e230 rfl rfl rfl rfl ?_
            refine w_st (i' := 22) (ls' := [.ref 99, .int x3, .int w6]) (st' := [.int w6, .ref 107, .int (nI 40), .ref 116]) (E' := E) (I' := I) (J' := J) (S' := S) am_e230 rfl rfl rfl rfl ?_
            refine w_ia (k := 107) (n := 128) (jn := w6.toNatClampNeg) am_e230 rfl rfl (by decide) hf7 rfl ?_
            show am_ww 230 23 [.ref 99, .int x3, .int w6] [.int ((I 107) w6.toNatClampNeg), .int (nI 40), .ref 116] E I J S _
            refine w_st (i' := 24) (ls' := [.ref 99, .int x3, .int w6]) (st' := [.int ((nI 40) + ((I 107) w6.toNatClampNeg)), .ref 116]) (E' := E) (I' := I) (J' := J) (S' := S) am_e230 rfl rfl rfl rfl ?_
            refine w_ia (k := 116) (n := 51) (jn := ((nI 40) + ((I 107) w6.toNatClampNeg)).toNatClampNeg) am_e230 rfl rfl (by decide) h.1 rfl ?_
            replace h := h.2
            show am_ww 230 25 [.ref 99, .int x3, .int w6] [.int ((I 116) (((nI 40) + ((I 107) w6.toNatClampNeg)).toNatClampNeg))] E I J S _
            refine w_st (i' := 27) (ls' := [.ref 99, .int x3, .int w6]) (st' := [.int ((I 116) (((nI 40) + ((I 107) w6.toNatClampNeg)).toNatClampNeg))]) (E' := E) (I' := I) (J' := J) (S' := S) am_e230 rfl rfl rfl rfl ?_
            first | exact hm | (simp only [if_pos m8] at hm; exact hm)
        replace h := h.2
        refine w_var (fun w9 => am_ww 230 27 [.ref 99, .int x3, .int w6] [.int w9] E I J S _) (if ((I 106) w6.toNatClampNeg) = (nI 7) then ((I 116) (((nI 40) + ((I 107) w6.toNatClampNeg)).toNatClampNeg)) else (-1)) (fun w9 hw9 => ?_)
        replace h := h w9 hw9
        refine w_ri am_e230 rfl rfl (q_mkI ?_)
        show am_ww 229 23 [.ref 99, .int x1, .int x2, .int x3, .int x4] [.int w9] E I J S _
        refine w_st (i' := 24) (ls' := [.ref 99, .int x1, .int x2, .int w9, .int x4]) (st' := []) (E' := E) (I' := I) (J' := J) (S' := S) am_e229 rfl rfl rfl rfl ?_
        refine w_st (i' := 25) (ls' := [.ref 99, .int x1, .int x2, .int w9, .int x4]) (st' := [.int x1]) (E' := E) (I' := I) (J' := J) (S' := S) am_e229 rfl rfl rfl rfl ?_
        refine w_st (i' := 26) (ls' := [.ref 99, .int x1, .int x2, .int w9, .int x4]) (st' := [.int w9, .int x1]) (E' := E) (I' := I) (J' := J) (S' := S) am_e229 rfl rfl rfl rfl ?_
        refine w_st (i' := 27) (ls' := [.ref 99, .int x1, .int x2, .int w9, .int x4]) (st' := [.int x2, .int w9, .int x1]) (E' := E) (I' := I) (J' := J) (S' := S) am_e229 rfl rfl rfl rfl ?_
        refine w_mg (i := 33) (ls' := [.ref 99, .int x1, .int x2, .int w9, .int x4]) (st' := [.int (if w9 = x2 then ((nI 1) <<< (x2 &&& 31)) else nI 0), .int x1]) (fun hm => ?_) ?_
        · clear h
          refine w_if2 am_e229 rfl rfl (fun c => ?_) (fun c => ?_)
          · have m10 : ¬ (w9 = x2) := (of_decide_eq_true c)
            refine w_st (i' := 33) (ls' := [.ref 99, .int x1, .int x2, .int w9, .int x4]) (st' := [.int (nI 0), .int x1]) (E' := E) (I' := I) (J' := J) (S' := S) am_e229 rfl rfl rfl rfl ?_
            first | exact hm | (simp only [if_neg m10] at hm; exact hm)
          · have m10 : w9 = x2 := (Decidable.not_not.mp (of_decide_eq_false c))
            refine w_st (i' := 29) (ls' := [.ref 99, .int x1, .int x2, .int w9, .int x4]) (st' := [.int (nI 1), .int x1]) (E' := E) (I' := I) (J' := J) (S' := S) am_e229 rfl rfl rfl rfl ?_
            refine w_st (i' := 30) (ls' := [.ref 99, .int x1, .int x2, .int w9, .int x4]) (st' := [.int x2, .int (nI 1), .int x1]) (E' := E) (I' := I) (J' := J) (S' := S) am_e229 rfl rfl rfl rfl ?_
            refine w_st (i' := 31) (ls' := [.ref 99, .int x1, .int x2, .int w9, .int x4]) (st' := [.int ((nI 1) <<< (x2 &&& 31)), .int x1]) (E' := E) (I' := I) (J' := J) (S' := S) am_e229 rfl rfl rfl rfl ?_
            refine w_st (i' := 33) (ls' := [.ref 99, .int x1, .int x2, .int w9, .int x4]) (st' := [.int ((nI 1) <<< (x2 &&& 31)), .int x1]) (E' := E) (I' := I) (J' := J) (S' := S) am_e229 rfl rfl rfl rfl ?_
            first | exact hm | (simp only [if_pos m10] at hm; exact hm)
        refine w_var (fun w11 => am_ww 229 33 [.ref 99, .int x1, .int x2, .int w9, .int x4] [.int w11, .int x1] E I J S _) (if w9 = x2 then ((nI 1) <<< (x2 &&& 31)) else nI 0) (fun w11 hw11 => ?_)
        replace h := h w11 hw11
        refine w_st (i' := 34) (ls' := [.ref 99, .int x1, .int x2, .int w9, .int x4]) (st' := [.int (x1 ||| w11)]) (E' := E) (I' := I) (J' := J) (S' := S) am_e229 rfl rfl rfl rfl ?_
        refine w_st (i' := 35) (ls' := [.ref 99, .int (x1 ||| w11), .int x2, .int w9, .int x4]) (st' := []) (E' := E) (I' := I) (J' := J) (S' := S) am_e229 rfl rfl rfl rfl ?_
        refine w_st (i' := 36) (ls' := [.ref 99, .int (x1 ||| w11), .int x2, .int w9, .int (x4 + nI 1)]) (st' := []) (E' := E) (I' := I) (J' := J) (S' := S) am_e229 rfl rfl rfl rfl ?_
        refine w_st (i' := 14) (ls' := [.ref 99, .int (x1 ||| w11), .int x2, .int w9, .int (x4 + nI 1)]) (st' := []) (E' := E) (I' := I) (J' := J) (S' := S) am_e229 rfl rfl rfl rfl ?_
        exact h
      · replace h := h.2 (of_decide_eq_false c)
        refine w_st (i' := 12) (ls' := [.ref 99, .int x3]) (st' := [.int (nI 1)]) (E' := E) (I' := I) (J' := J) (S' := S) am_e221 rfl rfl rfl rfl ?_
        refine w_st (i' := 14) (ls' := [.ref 99, .int x3]) (st' := [.int (nI 1)]) (E' := E) (I' := I) (J' := J) (S' := S) am_e221 rfl rfl rfl rfl ?_
        refine w_end (E' := E) (I' := I) (J' := J) (S' := S) am_e221 rfl rfl rfl (q_mkI ?_)
        show am_ww 230 3 [.ref 99, .int x3, am_U] [.int (nI 1)] E I J S _
        refine w_st (i' := 4) (ls' := [.ref 99, .int x3, am_U]) (st' := []) (E' := E) (I' := I) (J' := J) (S' := S) am_e230 rfl rfl rfl rfl ?_
        refine w_st (i' := 5) (ls' := [.ref 99, .int x3, am_U]) (st' := [.int (-1)]) (E' := E) (I' := I) (J' := J) (S' := S) am_e230 rfl rfl rfl rfl ?_
        refine w_end (E' := E) (I' := I) (J' := J) (S' := S) am_e230 rfl rfl rfl (q_mkI ?_)
        show am_ww 229 23 [.ref 99, .int x1, .int x2, .int x3, .int x4] [.int (-1)] E I J S _
        refine w_st (i' := 24) (ls' := [.ref 99, .int x1, .int x2, .int (-1), .int x4]) (st' := []) (E' := E) (I' := I) (J' := J) (S' := S) am_e229 rfl rfl rfl rfl ?_
        refine w_st (i' := 25) (ls' := [.ref 99, .int x1, .int x2, .int (-1), .int x4]) (st' := [.int x1]) (E' := E) (I' := I) (J' := J) (S' := S) am_e229 rfl rfl rfl rfl ?_
        refine w_st (i' := 26) (ls' := [.ref 99, .int x1, .int x2, .int (-1), .int x4]) (st' := [.int (-1), .int x1]) (E' := E) (I' := I) (J' := J) (S' := S) am_e229 rfl rfl rfl rfl ?_
        refine w_st (i' := 27) (ls' := [.ref 99, .int x1, .int x2, .int (-1), .int x4]) (st' := [.int x2, .int (-1), .int x1]) (E' := E) (I' := I) (J' := J) (S' := S) am_e229 rfl rfl rfl rfl ?_
        refine w_mg (i := 33) (ls' := [.ref 99, .int x1, .int x2, .int (-1), .int x4]) (st' := [.int (if (-1) = x2 then ((nI 1) <<< (x2 &&& 31)) else nI 0), .int x1]) (fun hm => ?_) ?_
        · clear h
          refine w_if2 am_e229 rfl rfl (fun c => ?_) (fun c => ?_)
          · have m12 : ¬ ((-1) = x2) := (of_decide_eq_true c)
            refine w_st (i' := 33) (ls' := [.ref 99, .int x1, .int x2, .int (-1), .int x4]) (st' := [.int (nI 0), .int x1]) (E' := E) (I' := I) (J' := J) (S' := S) am_e229 rfl rfl rfl rfl ?_
            first | exact hm | (simp only [if_neg m12] at hm; exact hm)
          · have m12 : (-1) = x2 := (Decidable.not_not.mp (of_decide_eq_false c))
            refine w_st (i' := 29) (ls' := [.ref 99, .int x1, .int x2, .int (-1), .int x4]) (st' := [.int (nI 1), .int x1]) (E' := E) (I' := I) (J' := J) (S' := S) am_e229 rfl rfl rfl rfl ?_
            refine w_st (i' := 30) (ls' := [.ref 99, .int x1, .int x2, .int (-1), .int x4]) (st' := [.int x2, .int (nI 1), .int x1]) (E' := E) (I' := I) (J' := J) (S' := S) am_e229 rfl rfl rfl rfl ?_
            refine w_st (i' := 31) (ls' := [.ref 99, .int x1, .int x2, .int (-1), .int x4]) (st' := [.int ((nI 1) <<< (x2 &&& 31)), .int x1]) (E' := E) (I' := I) (J' := J) (S' := S) am_e229 rfl rfl rfl rfl ?_
            refine w_st (i' := 33) (ls' := [.ref 99, .int x1, .int x2, .int (-1), .int x4]) (st' := [.int ((nI 1) <<< (x2 &&& 31)), .int x1]) (E' := E) (I' := I) (J' := J) (S' := S) am_e229 rfl rfl rfl rfl ?_
            first | exact hm | (simp only [if_pos m12] at hm; exact hm)
        refine w_var (fun w13 => am_ww 229 33 [.ref 99, .int x1, .int x2, .int (-1), .int x4] [.int w13, .int x1] E I J S _) (if (-1) = x2 then ((nI 1) <<< (x2 &&& 31)) else nI 0) (fun w13 hw13 => ?_)
        replace h := h w13 hw13
        refine w_st (i' := 34) (ls' := [.ref 99, .int x1, .int x2, .int (-1), .int x4]) (st' := [.int (x1 ||| w13)]) (E' := E) (I' := I) (J' := J) (S' := S) am_e229 rfl rfl rfl rfl ?_
        refine w_st (i' := 35) (ls' := [.ref 99, .int (x1 ||| w13), .int x2, .int (-1), .int x4]) (st' := []) (E' := E) (I' := I) (J' := J) (S' := S) am_e229 rfl rfl rfl rfl ?_
        refine w_st (i' := 36) (ls' := [.ref 99, .int (x1 ||| w13), .int x2, .int (-1), .int (x4 + nI 1)]) (st' := []) (E' := E) (I' := I) (J' := J) (S' := S) am_e229 rfl rfl rfl rfl ?_
        refine w_st (i' := 14) (ls' := [.ref 99, .int (x1 ||| w13), .int x2, .int (-1), .int (x4 + nI 1)]) (st' := []) (E' := E) (I' := I) (J' := J) (S' := S) am_e229 rfl rfl rfl rfl ?_
        exact h
-- 235 keep
theorem g235_0 {p1 : Int32} {E : am_Ev} {I : Nat → Nat → Int32} {J : Nat → Nat → Int64} {S : Nat → Nat → Option Nat} {Q : am_Qt}  (h : (((I 99) 43) = (nI 40) → (am_ww 235 12 [.ref 99, .int p1, .int (nI 0)] [] E (u_I I 99 (upd (I 99) 43 (((I 99) 43) - (nI 1)))) J S Q)) ∧ (¬ ((I 99) 43) = (nI 40) → (am_ww 235 38 [.ref 99, .int p1, am_U] [] E I J S Q))) : am_ww 235 0 [.ref 99, .int p1, am_U] [] E I J S Q := by
  refine w_st (i' := 1) (ls' := [.ref 99, .int p1, am_U]) (st' := [.ref 99]) (E' := E) (I' := I) (J' := J) (S' := S) am_e235 rfl rfl rfl rfl ?_
  refine w_st (i' := 2) (ls' := [.ref 99, .int p1, am_U]) (st' := [.int ((I 99) 43)]) (E' := E) (I' := I) (J' := J) (S' := S) am_e235 rfl rfl rfl rfl ?_
  refine w_st (i' := 3) (ls' := [.ref 99, .int p1, am_U]) (st' := [.int (nI 40), .int ((I 99) 43)]) (E' := E) (I' := I) (J' := J) (S' := S) am_e235 rfl rfl rfl rfl ?_
  refine w_if2 am_e235 rfl rfl (fun c => ?_) (fun c => ?_)
  · replace h := h.2 (of_decide_eq_true c)
    exact h
  · replace h := h.1 (Decidable.not_not.mp (of_decide_eq_false c))
    refine w_st (i' := 5) (ls' := [.ref 99, .int p1, am_U]) (st' := [.ref 99]) (E' := E) (I' := I) (J' := J) (S' := S) am_e235 rfl rfl rfl rfl ?_
    refine w_st (i' := 6) (ls' := [.ref 99, .int p1, am_U]) (st' := [.ref 99, .ref 99]) (E' := E) (I' := I) (J' := J) (S' := S) am_e235 rfl rfl rfl rfl ?_
    refine w_st (i' := 7) (ls' := [.ref 99, .int p1, am_U]) (st' := [.int ((I 99) 43), .ref 99]) (E' := E) (I' := I) (J' := J) (S' := S) am_e235 rfl rfl rfl rfl ?_
    refine w_st (i' := 8) (ls' := [.ref 99, .int p1, am_U]) (st' := [.int (nI 1), .int ((I 99) 43), .ref 99]) (E' := E) (I' := I) (J' := J) (S' := S) am_e235 rfl rfl rfl rfl ?_
    refine w_st (i' := 9) (ls' := [.ref 99, .int p1, am_U]) (st' := [.int (((I 99) 43) - (nI 1)), .ref 99]) (E' := E) (I' := I) (J' := J) (S' := S) am_e235 rfl rfl rfl rfl ?_
    refine w_st (i' := 10) (ls' := [.ref 99, .int p1, am_U]) (st' := []) (E' := E) (I' := (u_I I 99 (upd (I 99) 43 (((I 99) 43) - (nI 1))))) (J' := J) (S' := S) am_e235 rfl rfl rfl rfl ?_
    refine w_st (i' := 11) (ls' := [.ref 99, .int p1, am_U]) (st' := [.int (nI 0)]) (E' := E) (I' := (u_I I 99 (upd (I 99) 43 (((I 99) 43) - (nI 1))))) (J' := J) (S' := S) am_e235 rfl rfl rfl rfl ?_
    refine w_st (i' := 12) (ls' := [.ref 99, .int p1, .int (nI 0)]) (st' := []) (E' := E) (I' := (u_I I 99 (upd (I 99) 43 (((I 99) 43) - (nI 1))))) (J' := J) (S' := S) am_e235 rfl rfl rfl rfl ?_
    exact h
theorem g235_38 {x1 : Int32} {d2 : Value} {E : am_Ev} {I : Nat → Nat → Int32} {J : Nat → Nat → Int64} {S : Nat → Nat → Option Nat} {Q : am_Qt} (hd2 : am_isL d2 = false) (h : vp_in ((I 99) 43) 40 ∧ (Q (.inl none) E (u_I (u_I (u_I I 126 (upd (I 126) (((I 99) 43).toNatClampNeg) x1)) 127 (upd (I 127) (((I 99) 43).toNatClampNeg) ((I 99) 12))) 99 (upd (I 99) 43 (((I 99) 43) + (nI 1)))) J S)) : am_ww 235 38 [.ref 99, .int x1, d2] [] E I J S Q := by
  refine w_st (i' := 39) (ls' := [.ref 99, .int x1, d2]) (st' := [.ref 99]) (E' := E) (I' := I) (J' := J) (S' := S) am_e235 rfl rfl rfl rfl ?_
  refine w_st (i' := 40) (ls' := [.ref 99, .int x1, d2]) (st' := [.ref 126]) (E' := E) (I' := I) (J' := J) (S' := S) am_e235 rfl rfl rfl rfl ?_
  refine w_st (i' := 41) (ls' := [.ref 99, .int x1, d2]) (st' := [.ref 99, .ref 126]) (E' := E) (I' := I) (J' := J) (S' := S) am_e235 rfl rfl rfl rfl ?_
  refine w_st (i' := 42) (ls' := [.ref 99, .int x1, d2]) (st' := [.int ((I 99) 43), .ref 126]) (E' := E) (I' := I) (J' := J) (S' := S) am_e235 rfl rfl rfl rfl ?_
  refine w_st (i' := 43) (ls' := [.ref 99, .int x1, d2]) (st' := [.int x1, .int ((I 99) 43), .ref 126]) (E' := E) (I' := I) (J' := J) (S' := S) am_e235 rfl rfl rfl rfl ?_
  have hf1 := h.1
  replace h := h.2
  refine w_is (k := 126) (n := 40) (jn := ((I 99) 43).toNatClampNeg) am_e235 rfl rfl (by decide) hf1 rfl ?_
  show am_ww 235 44 [.ref 99, .int x1, d2] [] E (u_I I 126 (upd (I 126) (((I 99) 43).toNatClampNeg) x1)) J S _
  refine w_st (i' := 45) (ls' := [.ref 99, .int x1, d2]) (st' := [.ref 99]) (E' := E) (I' := (u_I I 126 (upd (I 126) (((I 99) 43).toNatClampNeg) x1))) (J' := J) (S' := S) am_e235 rfl rfl rfl rfl ?_
  refine w_st (i' := 46) (ls' := [.ref 99, .int x1, d2]) (st' := [.ref 127]) (E' := E) (I' := (u_I I 126 (upd (I 126) (((I 99) 43).toNatClampNeg) x1))) (J' := J) (S' := S) am_e235 rfl rfl rfl rfl ?_
  refine w_st (i' := 47) (ls' := [.ref 99, .int x1, d2]) (st' := [.ref 99, .ref 127]) (E' := E) (I' := (u_I I 126 (upd (I 126) (((I 99) 43).toNatClampNeg) x1))) (J' := J) (S' := S) am_e235 rfl rfl rfl rfl ?_
  refine w_st (i' := 48) (ls' := [.ref 99, .int x1, d2]) (st' := [.int ((I 99) 43), .ref 127]) (E' := E) (I' := (u_I I 126 (upd (I 126) (((I 99) 43).toNatClampNeg) x1))) (J' := J) (S' := S) am_e235 rfl rfl rfl rfl ?_
  refine w_st (i' := 49) (ls' := [.ref 99, .int x1, d2]) (st' := [.ref 99, .int ((I 99) 43), .ref 127]) (E' := E) (I' := (u_I I 126 (upd (I 126) (((I 99) 43).toNatClampNeg) x1))) (J' := J) (S' := S) am_e235 rfl rfl rfl rfl ?_
  refine w_st (i' := 50) (ls' := [.ref 99, .int x1, d2]) (st' := [.int ((I 99) 12), .int ((I 99) 43), .ref 127]) (E' := E) (I' := (u_I I 126 (upd (I 126) (((I 99) 43).toNatClampNeg) x1))) (J' := J) (S' := S) am_e235 rfl rfl rfl rfl ?_
  refine w_is (k := 127) (n := 40) (jn := ((I 99) 43).toNatClampNeg) am_e235 rfl rfl (by decide) hf1 rfl ?_
  show am_ww 235 51 [.ref 99, .int x1, d2] [] E (u_I (u_I I 126 (upd (I 126) (((I 99) 43).toNatClampNeg) x1)) 127 (upd (I 127) (((I 99) 43).toNatClampNeg) ((I 99) 12))) J S _
  refine w_st (i' := 52) (ls' := [.ref 99, .int x1, d2]) (st' := [.ref 99]) (E' := E) (I' := (u_I (u_I I 126 (upd (I 126) (((I 99) 43).toNatClampNeg) x1)) 127 (upd (I 127) (((I 99) 43).toNatClampNeg) ((I 99) 12)))) (J' := J) (S' := S) am_e235 rfl rfl rfl rfl ?_
  refine w_st (i' := 53) (ls' := [.ref 99, .int x1, d2]) (st' := [.ref 99, .ref 99]) (E' := E) (I' := (u_I (u_I I 126 (upd (I 126) (((I 99) 43).toNatClampNeg) x1)) 127 (upd (I 127) (((I 99) 43).toNatClampNeg) ((I 99) 12)))) (J' := J) (S' := S) am_e235 rfl rfl rfl rfl ?_
  refine w_st (i' := 54) (ls' := [.ref 99, .int x1, d2]) (st' := [.int ((I 99) 43), .ref 99]) (E' := E) (I' := (u_I (u_I I 126 (upd (I 126) (((I 99) 43).toNatClampNeg) x1)) 127 (upd (I 127) (((I 99) 43).toNatClampNeg) ((I 99) 12)))) (J' := J) (S' := S) am_e235 rfl rfl rfl rfl ?_
  refine w_st (i' := 55) (ls' := [.ref 99, .int x1, d2]) (st' := [.int (nI 1), .int ((I 99) 43), .ref 99]) (E' := E) (I' := (u_I (u_I I 126 (upd (I 126) (((I 99) 43).toNatClampNeg) x1)) 127 (upd (I 127) (((I 99) 43).toNatClampNeg) ((I 99) 12)))) (J' := J) (S' := S) am_e235 rfl rfl rfl rfl ?_
  refine w_st (i' := 56) (ls' := [.ref 99, .int x1, d2]) (st' := [.int (((I 99) 43) + (nI 1)), .ref 99]) (E' := E) (I' := (u_I (u_I I 126 (upd (I 126) (((I 99) 43).toNatClampNeg) x1)) 127 (upd (I 127) (((I 99) 43).toNatClampNeg) ((I 99) 12)))) (J' := J) (S' := S) am_e235 rfl rfl rfl rfl ?_
  refine w_st (i' := 57) (ls' := [.ref 99, .int x1, d2]) (st' := []) (E' := E) (I' := (u_I (u_I (u_I I 126 (upd (I 126) (((I 99) 43).toNatClampNeg) x1)) 127 (upd (I 127) (((I 99) 43).toNatClampNeg) ((I 99) 12))) 99 (upd (I 99) 43 (((I 99) 43) + (nI 1))))) (J' := J) (S' := S) am_e235 rfl rfl rfl rfl ?_
  exact w_end am_e235 rfl rfl rfl h
theorem g235_12 {x1 : Int32} {x2 : Int32} {E : am_Ev} {I : Nat → Nat → Int32} {J : Nat → Nat → Int64} {S : Nat → Nat → Option Nat} {Q : am_Qt}  (h : (((I 99) 43) ≤ x2 → (am_ww 235 38 [.ref 99, .int x1, .int x2] [] E I J S Q)) ∧ (¬ ((I 99) 43) ≤ x2 → (vp_in (x2 + (nI 1)) 40 ∧ (vp_in x2 40 ∧ (am_ww 235 12 [.ref 99, .int x1, .int (x2 + nI 1)] [] E (u_I (u_I I 126 (upd (I 126) x2.toNatClampNeg ((I 126) ((x2 + (nI 1)).toNatClampNeg)))) 127 (upd (I 127) x2.toNatClampNeg ((I 127) ((x2 + (nI 1)).toNatClampNeg)))) J S Q))))) : am_ww 235 12 [.ref 99, .int x1, .int x2] [] E I J S Q := by
  refine w_st (i' := 13) (ls' := [.ref 99, .int x1, .int x2]) (st' := [.int x2]) (E' := E) (I' := I) (J' := J) (S' := S) am_e235 rfl rfl rfl rfl ?_
  refine w_st (i' := 14) (ls' := [.ref 99, .int x1, .int x2]) (st' := [.ref 99, .int x2]) (E' := E) (I' := I) (J' := J) (S' := S) am_e235 rfl rfl rfl rfl ?_
  refine w_st (i' := 15) (ls' := [.ref 99, .int x1, .int x2]) (st' := [.int ((I 99) 43), .int x2]) (E' := E) (I' := I) (J' := J) (S' := S) am_e235 rfl rfl rfl rfl ?_
  refine w_if2 am_e235 rfl rfl (fun c => ?_) (fun c => ?_)
  · replace h := h.1 (of_decide_eq_true c)
    exact h
  · replace h := h.2 (of_decide_eq_false c)
    refine w_st (i' := 17) (ls' := [.ref 99, .int x1, .int x2]) (st' := [.ref 99]) (E' := E) (I' := I) (J' := J) (S' := S) am_e235 rfl rfl rfl rfl ?_
    refine w_st (i' := 18) (ls' := [.ref 99, .int x1, .int x2]) (st' := [.ref 126]) (E' := E) (I' := I) (J' := J) (S' := S) am_e235 rfl rfl rfl rfl ?_
    refine w_st (i' := 19) (ls' := [.ref 99, .int x1, .int x2]) (st' := [.int x2, .ref 126]) (E' := E) (I' := I) (J' := J) (S' := S) am_e235 rfl rfl rfl rfl ?_
    refine w_st (i' := 20) (ls' := [.ref 99, .int x1, .int x2]) (st' := [.ref 99, .int x2, .ref 126]) (E' := E) (I' := I) (J' := J) (S' := S) am_e235 rfl rfl rfl rfl ?_
    refine w_st (i' := 21) (ls' := [.ref 99, .int x1, .int x2]) (st' := [.ref 126, .int x2, .ref 126]) (E' := E) (I' := I) (J' := J) (S' := S) am_e235 rfl rfl rfl rfl ?_
    refine w_st (i' := 22) (ls' := [.ref 99, .int x1, .int x2]) (st' := [.int x2, .ref 126, .int x2, .ref 126]) (E' := E) (I' := I) (J' := J) (S' := S) am_e235 rfl rfl rfl rfl ?_
    refine w_st (i' := 23) (ls' := [.ref 99, .int x1, .int x2]) (st' := [.int (nI 1), .int x2, .ref 126, .int x2, .ref 126]) (E' := E) (I' := I) (J' := J) (S' := S) am_e235 rfl rfl rfl rfl ?_
    refine w_st (i' := 24) (ls' := [.ref 99, .int x1, .int x2]) (st' := [.int (x2 + (nI 1)), .ref 126, .int x2, .ref 126]) (E' := E) (I' := I) (J' := J) (S' := S) am_e235 rfl rfl rfl rfl ?_
    have hf1 := h.1
    replace h := h.2
    refine w_ia (k := 126) (n := 40) (jn := (x2 + (nI 1)).toNatClampNeg) am_e235 rfl rfl (by decide) hf1 rfl ?_
    have hf2 := h.1
    replace h := h.2
    refine w_is (k := 126) (n := 40) (jn := x2.toNatClampNeg) am_e235 rfl rfl (by decide) hf2 rfl ?_
    show am_ww 235 26 [.ref 99, .int x1, .int x2] [] E (u_I I 126 (upd (I 126) x2.toNatClampNeg ((I 126) ((x2 + (nI 1)).toNatClampNeg)))) J S _
    refine w_st (i' := 27) (ls' := [.ref 99, .int x1, .int x2]) (st' := [.ref 99]) (E' := E) (I' := (u_I I 126 (upd (I 126) x2.toNatClampNeg ((I 126) ((x2 + (nI 1)).toNatClampNeg))))) (J' := J) (S' := S) am_e235 rfl rfl rfl rfl ?_
    refine w_st (i' := 28) (ls' := [.ref 99, .int x1, .int x2]) (st' := [.ref 127]) (E' := E) (I' := (u_I I 126 (upd (I 126) x2.toNatClampNeg ((I 126) ((x2 + (nI 1)).toNatClampNeg))))) (J' := J) (S' := S) am_e235 rfl rfl rfl rfl ?_
    refine w_st (i' := 29) (ls' := [.ref 99, .int x1, .int x2]) (st' := [.int x2, .ref 127]) (E' := E) (I' := (u_I I 126 (upd (I 126) x2.toNatClampNeg ((I 126) ((x2 + (nI 1)).toNatClampNeg))))) (J' := J) (S' := S) am_e235 rfl rfl rfl rfl ?_
    refine w_st (i' := 30) (ls' := [.ref 99, .int x1, .int x2]) (st' := [.ref 99, .int x2, .ref 127]) (E' := E) (I' := (u_I I 126 (upd (I 126) x2.toNatClampNeg ((I 126) ((x2 + (nI 1)).toNatClampNeg))))) (J' := J) (S' := S) am_e235 rfl rfl rfl rfl ?_
    refine w_st (i' := 31) (ls' := [.ref 99, .int x1, .int x2]) (st' := [.ref 127, .int x2, .ref 127]) (E' := E) (I' := (u_I I 126 (upd (I 126) x2.toNatClampNeg ((I 126) ((x2 + (nI 1)).toNatClampNeg))))) (J' := J) (S' := S) am_e235 rfl rfl rfl rfl ?_
    refine w_st (i' := 32) (ls' := [.ref 99, .int x1, .int x2]) (st' := [.int x2, .ref 127, .int x2, .ref 127]) (E' := E) (I' := (u_I I 126 (upd (I 126) x2.toNatClampNeg ((I 126) ((x2 + (nI 1)).toNatClampNeg))))) (J' := J) (S' := S) am_e235 rfl rfl rfl rfl ?_
    refine w_st (i' := 33) (ls' := [.ref 99, .int x1, .int x2]) (st' := [.int (nI 1), .int x2, .ref 127, .int x2, .ref 127]) (E' := E) (I' := (u_I I 126 (upd (I 126) x2.toNatClampNeg ((I 126) ((x2 + (nI 1)).toNatClampNeg))))) (J' := J) (S' := S) am_e235 rfl rfl rfl rfl ?_
    refine w_st (i' := 34) (ls' := [.ref 99, .int x1, .int x2]) (st' := [.int (x2 + (nI 1)), .ref 127, .int x2, .ref 127]) (E' := E) (I' := (u_I I 126 (upd (I 126) x2.toNatClampNeg ((I 126) ((x2 + (nI 1)).toNatClampNeg))))) (J' := J) (S' := S) am_e235 rfl rfl rfl rfl ?_
    refine w_ia (k := 127) (n := 40) (jn := (x2 + (nI 1)).toNatClampNeg) am_e235 rfl rfl (by decide) hf1 rfl ?_
    show am_ww 235 35 [.ref 99, .int x1, .int x2] [.int ((I 127) ((x2 + (nI 1)).toNatClampNeg)), .int x2, .ref 127] E (u_I I 126 (upd (I 126) x2.toNatClampNeg ((I 126) ((x2 + (nI 1)).toNatClampNeg)))) J S _
    refine w_is (k := 127) (n := 40) (jn := x2.toNatClampNeg) am_e235 rfl rfl (by decide) hf2 rfl ?_
    show am_ww 235 36 [.ref 99, .int x1, .int x2] [] E (u_I (u_I I 126 (upd (I 126) x2.toNatClampNeg ((I 126) ((x2 + (nI 1)).toNatClampNeg)))) 127 (upd (I 127) x2.toNatClampNeg ((I 127) ((x2 + (nI 1)).toNatClampNeg)))) J S _
    refine w_st (i' := 37) (ls' := [.ref 99, .int x1, .int (x2 + nI 1)]) (st' := []) (E' := E) (I' := (u_I (u_I I 126 (upd (I 126) x2.toNatClampNeg ((I 126) ((x2 + (nI 1)).toNatClampNeg)))) 127 (upd (I 127) x2.toNatClampNeg ((I 127) ((x2 + (nI 1)).toNatClampNeg))))) (J' := J) (S' := S) am_e235 rfl rfl rfl rfl ?_
    refine w_st (i' := 12) (ls' := [.ref 99, .int x1, .int (x2 + nI 1)]) (st' := []) (E' := E) (I' := (u_I (u_I I 126 (upd (I 126) x2.toNatClampNeg ((I 126) ((x2 + (nI 1)).toNatClampNeg)))) 127 (upd (I 127) x2.toNatClampNeg ((I 127) ((x2 + (nI 1)).toNatClampNeg))))) (J' := J) (S' := S) am_e235 rfl rfl rfl rfl ?_
    exact h
-- 187 feed
theorem g187_0 {p1 : Int32} {p2 : Int32} {p3 : Int32} {p4 : Int32} {p5 : Int32} {E : am_Ev} {I : Nat → Nat → Int32} {J : Nat → Nat → Int64} {S : Nat → Nat → Option Nat} {Q : am_Qt}  (h : ((((I 99) 15) + (nI 20)) ≤ (nI 700) → (am_ww 187 13 [.ref 99, .int p1, .int p2, .int p3, .int p4, .int p5, .int (nI 0), am_U] [] E (u_I I 99 (upd (I 99) 3 (nI 0))) J S Q)) ∧ (¬ (((I 99) 15) + (nI 20)) ≤ (nI 700) → (Q (.inl (some (.int (-1)))) E (u_I I 99 (upd (I 99) 3 (nI 0))) J S))) : am_ww 187 0 [.ref 99, .int p1, .int p2, .int p3, .int p4, .int p5, am_U, am_U] [] E I J S Q := by
  refine w_st (i' := 1) (ls' := [.ref 99, .int p1, .int p2, .int p3, .int p4, .int p5, am_U, am_U]) (st' := [.ref 99]) (E' := E) (I' := I) (J' := J) (S' := S) am_e187 rfl rfl rfl rfl ?_
  refine w_st (i' := 2) (ls' := [.ref 99, .int p1, .int p2, .int p3, .int p4, .int p5, am_U, am_U]) (st' := [.int (nI 0), .ref 99]) (E' := E) (I' := I) (J' := J) (S' := S) am_e187 rfl rfl rfl rfl ?_
  refine w_st (i' := 3) (ls' := [.ref 99, .int p1, .int p2, .int p3, .int p4, .int p5, am_U, am_U]) (st' := []) (E' := E) (I' := (u_I I 99 (upd (I 99) 3 (nI 0)))) (J' := J) (S' := S) am_e187 rfl rfl rfl rfl ?_
  refine w_st (i' := 4) (ls' := [.ref 99, .int p1, .int p2, .int p3, .int p4, .int p5, am_U, am_U]) (st' := [.ref 99]) (E' := E) (I' := (u_I I 99 (upd (I 99) 3 (nI 0)))) (J' := J) (S' := S) am_e187 rfl rfl rfl rfl ?_
  refine w_st (i' := 5) (ls' := [.ref 99, .int p1, .int p2, .int p3, .int p4, .int p5, am_U, am_U]) (st' := [.int ((I 99) 15)]) (E' := E) (I' := (u_I I 99 (upd (I 99) 3 (nI 0)))) (J' := J) (S' := S) am_e187 rfl rfl rfl rfl ?_
  refine w_st (i' := 6) (ls' := [.ref 99, .int p1, .int p2, .int p3, .int p4, .int p5, am_U, am_U]) (st' := [.int (nI 20), .int ((I 99) 15)]) (E' := E) (I' := (u_I I 99 (upd (I 99) 3 (nI 0)))) (J' := J) (S' := S) am_e187 rfl rfl rfl rfl ?_
  refine w_st (i' := 7) (ls' := [.ref 99, .int p1, .int p2, .int p3, .int p4, .int p5, am_U, am_U]) (st' := [.int (((I 99) 15) + (nI 20))]) (E' := E) (I' := (u_I I 99 (upd (I 99) 3 (nI 0)))) (J' := J) (S' := S) am_e187 rfl rfl rfl rfl ?_
  refine w_st (i' := 8) (ls' := [.ref 99, .int p1, .int p2, .int p3, .int p4, .int p5, am_U, am_U]) (st' := [.int (nI 700), .int (((I 99) 15) + (nI 20))]) (E' := E) (I' := (u_I I 99 (upd (I 99) 3 (nI 0)))) (J' := J) (S' := S) am_e187 rfl rfl rfl rfl ?_
  refine w_if2 am_e187 rfl rfl (fun c => ?_) (fun c => ?_)
  · replace h := h.1 (of_decide_eq_true c)
    refine w_st (i' := 12) (ls' := [.ref 99, .int p1, .int p2, .int p3, .int p4, .int p5, am_U, am_U]) (st' := [.int (nI 0)]) (E' := E) (I' := (u_I I 99 (upd (I 99) 3 (nI 0)))) (J' := J) (S' := S) am_e187 rfl rfl rfl rfl ?_
    refine w_st (i' := 13) (ls' := [.ref 99, .int p1, .int p2, .int p3, .int p4, .int p5, .int (nI 0), am_U]) (st' := []) (E' := E) (I' := (u_I I 99 (upd (I 99) 3 (nI 0)))) (J' := J) (S' := S) am_e187 rfl rfl rfl rfl ?_
    exact h
  · replace h := h.2 (of_decide_eq_false c)
    refine w_st (i' := 10) (ls' := [.ref 99, .int p1, .int p2, .int p3, .int p4, .int p5, am_U, am_U]) (st' := [.int (-1)]) (E' := E) (I' := (u_I I 99 (upd (I 99) 3 (nI 0)))) (J' := J) (S' := S) am_e187 rfl rfl rfl rfl ?_
    exact w_end am_e187 rfl rfl rfl h
theorem g187_13 {x1 : Int32} {x2 : Int32} {x3 : Int32} {x4 : Int32} {x5 : Int32} {x6 : Int32} {d7 : Value} {E : am_Ev} {I : Nat → Nat → Int32} {J : Nat → Nat → Int64} {S : Nat → Nat → Option Nat} {Q : am_Qt} (hd7 : am_isL d7 = false) (h : ((nI 20) ≤ x6 → (Q (.inl (some (.int ((I 99) 15)))) E I J S)) ∧ (¬ (nI 20) ≤ x6 → (∀ w5 : Int32, w5 = (if (nI 4) ≤ x6 then (if (nI 8) ≤ x6 then (if (nI 12) ≤ x6 then (if (nI 16) ≤ x6 then x5 else x4) else x3) else x2) else x1) → (vp_in ((I 99) 15) 700 ∧ (am_ww 187 13 [.ref 99, .int x1, .int x2, .int x3, .int x4, .int x5, .int (x6 + nI 1), .int w5] [] E (u_I (u_I I 111 (upd (I 111) (((I 99) 15).toNatClampNeg) ((w5 >>> (((nI 24) - ((nI 8) * (x6 - x6 / (nI 4) * (nI 4)))) &&& 31)) &&& (nI 255)))) 99 (upd (I 99) 15 (((I 99) 15) + (nI 1)))) J S Q))))) : am_ww 187 13 [.ref 99, .int x1, .int x2, .int x3, .int x4, .int x5, .int x6, d7] [] E I J S Q := by
  refine w_st (i' := 14) (ls' := [.ref 99, .int x1, .int x2, .int x3, .int x4, .int x5, .int x6, d7]) (st' := [.int x6]) (E' := E) (I' := I) (J' := J) (S' := S) am_e187 rfl rfl rfl rfl ?_
  refine w_st (i' := 15) (ls' := [.ref 99, .int x1, .int x2, .int x3, .int x4, .int x5, .int x6, d7]) (st' := [.int (nI 20), .int x6]) (E' := E) (I' := I) (J' := J) (S' := S) am_e187 rfl rfl rfl rfl ?_
  refine w_if2 am_e187 rfl rfl (fun c => ?_) (fun c => ?_)
  · replace h := h.1 (of_decide_eq_true c)
    refine w_st (i' := 63) (ls' := [.ref 99, .int x1, .int x2, .int x3, .int x4, .int x5, .int x6, d7]) (st' := [.ref 99]) (E' := E) (I' := I) (J' := J) (S' := S) am_e187 rfl rfl rfl rfl ?_
    refine w_st (i' := 64) (ls' := [.ref 99, .int x1, .int x2, .int x3, .int x4, .int x5, .int x6, d7]) (st' := [.int ((I 99) 15)]) (E' := E) (I' := I) (J' := J) (S' := S) am_e187 rfl rfl rfl rfl ?_
    exact w_ri am_e187 rfl rfl h
  · replace h := h.2 (of_decide_eq_false c)
    refine w_st (i' := 17) (ls' := [.ref 99, .int x1, .int x2, .int x3, .int x4, .int x5, .int x6, d7]) (st' := [.int x6]) (E' := E) (I' := I) (J' := J) (S' := S) am_e187 rfl rfl rfl rfl ?_
    refine w_st (i' := 18) (ls' := [.ref 99, .int x1, .int x2, .int x3, .int x4, .int x5, .int x6, d7]) (st' := [.int (nI 4), .int x6]) (E' := E) (I' := I) (J' := J) (S' := S) am_e187 rfl rfl rfl rfl ?_
    refine w_mg (i := 37) (ls' := [.ref 99, .int x1, .int x2, .int x3, .int x4, .int x5, .int x6, d7]) (st' := [.int (if (nI 4) ≤ x6 then (if (nI 8) ≤ x6 then (if (nI 12) ≤ x6 then (if (nI 16) ≤ x6 then x5 else x4) else x3) else x2) else x1)]) (fun hm => ?_) ?_
    · clear h
      refine w_if2 am_e187 rfl rfl (fun c => ?_) (fun c => ?_)
      · have m1 : (nI 4) ≤ x6 := (of_decide_eq_true c)
        refine w_st (i' := 22) (ls' := [.ref 99, .int x1, .int x2, .int x3, .int x4, .int x5, .int x6, d7]) (st' := [.int x6]) (E' := E) (I' := I) (J' := J) (S' := S) am_e187 rfl rfl rfl rfl ?_
        refine w_st (i' := 23) (ls' := [.ref 99, .int x1, .int x2, .int x3, .int x4, .int x5, .int x6, d7]) (st' := [.int (nI 8), .int x6]) (E' := E) (I' := I) (J' := J) (S' := S) am_e187 rfl rfl rfl rfl ?_
        refine w_if2 am_e187 rfl rfl (fun c => ?_) (fun c => ?_)
        · have m2 : (nI 8) ≤ x6 := (of_decide_eq_true c)
          refine w_st (i' := 27) (ls' := [.ref 99, .int x1, .int x2, .int x3, .int x4, .int x5, .int x6, d7]) (st' := [.int x6]) (E' := E) (I' := I) (J' := J) (S' := S) am_e187 rfl rfl rfl rfl ?_
          refine w_st (i' := 28) (ls' := [.ref 99, .int x1, .int x2, .int x3, .int x4, .int x5, .int x6, d7]) (st' := [.int (nI 12), .int x6]) (E' := E) (I' := I) (J' := J) (S' := S) am_e187 rfl rfl rfl rfl ?_
          refine w_if2 am_e187 rfl rfl (fun c => ?_) (fun c => ?_)
          · have m3 : (nI 12) ≤ x6 := (of_decide_eq_true c)
            refine w_st (i' := 32) (ls' := [.ref 99, .int x1, .int x2, .int x3, .int x4, .int x5, .int x6, d7]) (st' := [.int x6]) (E' := E) (I' := I) (J' := J) (S' := S) am_e187 rfl rfl rfl rfl ?_
            refine w_st (i' := 33) (ls' := [.ref 99, .int x1, .int x2, .int x3, .int x4, .int x5, .int x6, d7]) (st' := [.int (nI 16), .int x6]) (E' := E) (I' := I) (J' := J) (S' := S) am_e187 rfl rfl rfl rfl ?_
            refine w_if2 am_e187 rfl rfl (fun c => ?_) (fun c => ?_)
            · have m4 : (nI 16) ≤ x6 := (of_decide_eq_true c)
              refine w_st (i' := 37) (ls' := [.ref 99, .int x1, .int x2, .int x3, .int x4, .int x5, .int x6, d7]) (st' := [.int x5]) (E' := E) (I' := I) (J' := J) (S' := S) am_e187 rfl rfl rfl rfl ?_
              first | exact hm | (simp only [if_pos m1, if_pos m2, if_pos m3, if_pos m4] at hm; exact hm)
            · have m4 : ¬ ((nI 16) ≤ x6) := (of_decide_eq_false c)
              refine w_st (i' := 35) (ls' := [.ref 99, .int x1, .int x2, .int x3, .int x4, .int x5, .int x6, d7]) (st' := [.int x4]) (E' := E) (I' := I) (J' := J) (S' := S) am_e187 rfl rfl rfl rfl ?_
              refine w_st (i' := 37) (ls' := [.ref 99, .int x1, .int x2, .int x3, .int x4, .int x5, .int x6, d7]) (st' := [.int x4]) (E' := E) (I' := I) (J' := J) (S' := S) am_e187 rfl rfl rfl rfl ?_
              first | exact hm | (simp only [if_pos m1, if_pos m2, if_pos m3, if_neg m4] at hm; exact hm)
          · have m3 : ¬ ((nI 12) ≤ x6) := (of_decide_eq_false c)
            refine w_st (i' := 30) (ls' := [.ref 99, .int x1, .int x2, .int x3, .int x4, .int x5, .int x6, d7]) (st' := [.int x3]) (E' := E) (I' := I) (J' := J) (S' := S) am_e187 rfl rfl rfl rfl ?_
            refine w_st (i' := 37) (ls' := [.ref 99, .int x1, .int x2, .int x3, .int x4, .int x5, .int x6, d7]) (st' := [.int x3]) (E' := E) (I' := I) (J' := J) (S' := S) am_e187 rfl rfl rfl rfl ?_
            first | exact hm | (simp only [if_pos m1, if_pos m2, if_neg m3] at hm; exact hm)
        · have m2 : ¬ ((nI 8) ≤ x6) := (of_decide_eq_false c)
          refine w_st (i' := 25) (ls' := [.ref 99, .int x1, .int x2, .int x3, .int x4, .int x5, .int x6, d7]) (st' := [.int x2]) (E' := E) (I' := I) (J' := J) (S' := S) am_e187 rfl rfl rfl rfl ?_
          refine w_st (i' := 37) (ls' := [.ref 99, .int x1, .int x2, .int x3, .int x4, .int x5, .int x6, d7]) (st' := [.int x2]) (E' := E) (I' := I) (J' := J) (S' := S) am_e187 rfl rfl rfl rfl ?_
          first | exact hm | (simp only [if_pos m1, if_neg m2] at hm; exact hm)
      · have m1 : ¬ ((nI 4) ≤ x6) := (of_decide_eq_false c)
        refine w_st (i' := 20) (ls' := [.ref 99, .int x1, .int x2, .int x3, .int x4, .int x5, .int x6, d7]) (st' := [.int x1]) (E' := E) (I' := I) (J' := J) (S' := S) am_e187 rfl rfl rfl rfl ?_
        refine w_st (i' := 37) (ls' := [.ref 99, .int x1, .int x2, .int x3, .int x4, .int x5, .int x6, d7]) (st' := [.int x1]) (E' := E) (I' := I) (J' := J) (S' := S) am_e187 rfl rfl rfl rfl ?_
        first | exact hm | (simp only [if_neg m1] at hm; exact hm)
    refine w_var (fun w5 => am_ww 187 37 [.ref 99, .int x1, .int x2, .int x3, .int x4, .int x5, .int x6, d7] [.int w5] E I J S _) (if (nI 4) ≤ x6 then (if (nI 8) ≤ x6 then (if (nI 12) ≤ x6 then (if (nI 16) ≤ x6 then x5 else x4) else x3) else x2) else x1) (fun w5 hw5 => ?_)
    replace h := h w5 hw5
    refine w_st (i' := 38) (ls' := [.ref 99, .int x1, .int x2, .int x3, .int x4, .int x5, .int x6, .int w5]) (st' := []) (E' := E) (I' := I) (J' := J) (S' := S) am_e187 rfl rfl rfl rfl ?_
    refine w_st (i' := 39) (ls' := [.ref 99, .int x1, .int x2, .int x3, .int x4, .int x5, .int x6, .int w5]) (st' := [.ref 99]) (E' := E) (I' := I) (J' := J) (S' := S) am_e187 rfl rfl rfl rfl ?_
    refine w_st (i' := 40) (ls' := [.ref 99, .int x1, .int x2, .int x3, .int x4, .int x5, .int x6, .int w5]) (st' := [.ref 111]) (E' := E) (I' := I) (J' := J) (S' := S) am_e187 rfl rfl rfl rfl ?_
    refine w_st (i' := 41) (ls' := [.ref 99, .int x1, .int x2, .int x3, .int x4, .int x5, .int x6, .int w5]) (st' := [.ref 99, .ref 111]) (E' := E) (I' := I) (J' := J) (S' := S) am_e187 rfl rfl rfl rfl ?_
    refine w_st (i' := 42) (ls' := [.ref 99, .int x1, .int x2, .int x3, .int x4, .int x5, .int x6, .int w5]) (st' := [.int ((I 99) 15), .ref 111]) (E' := E) (I' := I) (J' := J) (S' := S) am_e187 rfl rfl rfl rfl ?_
    refine w_st (i' := 43) (ls' := [.ref 99, .int x1, .int x2, .int x3, .int x4, .int x5, .int x6, .int w5]) (st' := [.int w5, .int ((I 99) 15), .ref 111]) (E' := E) (I' := I) (J' := J) (S' := S) am_e187 rfl rfl rfl rfl ?_
    refine w_st (i' := 44) (ls' := [.ref 99, .int x1, .int x2, .int x3, .int x4, .int x5, .int x6, .int w5]) (st' := [.int (nI 24), .int w5, .int ((I 99) 15), .ref 111]) (E' := E) (I' := I) (J' := J) (S' := S) am_e187 rfl rfl rfl rfl ?_
    refine w_st (i' := 45) (ls' := [.ref 99, .int x1, .int x2, .int x3, .int x4, .int x5, .int x6, .int w5]) (st' := [.int (nI 8), .int (nI 24), .int w5, .int ((I 99) 15), .ref 111]) (E' := E) (I' := I) (J' := J) (S' := S) am_e187 rfl rfl rfl rfl ?_
    refine w_st (i' := 46) (ls' := [.ref 99, .int x1, .int x2, .int x3, .int x4, .int x5, .int x6, .int w5]) (st' := [.int x6, .int (nI 8), .int (nI 24), .int w5, .int ((I 99) 15), .ref 111]) (E' := E) (I' := I) (J' := J) (S' := S) am_e187 rfl rfl rfl rfl ?_
    refine w_st (i' := 47) (ls' := [.ref 99, .int x1, .int x2, .int x3, .int x4, .int x5, .int x6, .int w5]) (st' := [.int (nI 4), .int x6, .int (nI 8), .int (nI 24), .int w5, .int ((I 99) 15), .ref 111]) (E' := E) (I' := I) (J' := J) (S' := S) am_e187 rfl rfl rfl rfl ?_
    refine w_rm (by decide) am_e187 rfl ?_
    refine w_st (i' := 49) (ls' := [.ref 99, .int x1, .int x2, .int x3, .int x4, .int x5, .int x6, .int w5]) (st' := [.int ((nI 8) * (x6 - x6 / (nI 4) * (nI 4))), .int (nI 24), .int w5, .int ((I 99) 15), .ref 111]) (E' := E) (I' := I) (J' := J) (S' := S) am_e187 rfl rfl rfl rfl ?_
    refine w_st (i' := 50) (ls' := [.ref 99, .int x1, .int x2, .int x3, .int x4, .int x5, .int x6, .int w5]) (st' := [.int ((nI 24) - ((nI 8) * (x6 - x6 / (nI 4) * (nI 4)))), .int w5, .int ((I 99) 15), .ref 111]) (E' := E) (I' := I) (J' := J) (S' := S) am_e187 rfl rfl rfl rfl ?_
    refine w_st (i' := 51) (ls' := [.ref 99, .int x1, .int x2, .int x3, .int x4, .int x5, .int x6, .int w5]) (st' := [.int (w5 >>> (((nI 24) - ((nI 8) * (x6 - x6 / (nI 4) * (nI 4)))) &&& 31)), .int ((I 99) 15), .ref 111]) (E' := E) (I' := I) (J' := J) (S' := S) am_e187 rfl rfl rfl rfl ?_
    refine w_st (i' := 52) (ls' := [.ref 99, .int x1, .int x2, .int x3, .int x4, .int x5, .int x6, .int w5]) (st' := [.int (nI 255), .int (w5 >>> (((nI 24) - ((nI 8) * (x6 - x6 / (nI 4) * (nI 4)))) &&& 31)), .int ((I 99) 15), .ref 111]) (E' := E) (I' := I) (J' := J) (S' := S) am_e187 rfl rfl rfl rfl ?_
    refine w_st (i' := 53) (ls' := [.ref 99, .int x1, .int x2, .int x3, .int x4, .int x5, .int x6, .int w5]) (st' := [.int ((w5 >>> (((nI 24) - ((nI 8) * (x6 - x6 / (nI 4) * (nI 4)))) &&& 31)) &&& (nI 255)), .int ((I 99) 15), .ref 111]) (E' := E) (I' := I) (J' := J) (S' := S) am_e187 rfl rfl rfl rfl ?_
    have hf6 := h.1
    replace h := h.2
    refine w_is (k := 111) (n := 700) (jn := ((I 99) 15).toNatClampNeg) am_e187 rfl rfl (by decide) hf6 rfl ?_
    show am_ww 187 54 [.ref 99, .int x1, .int x2, .int x3, .int x4, .int x5, .int x6, .int w5] [] E (u_I I 111 (upd (I 111) (((I 99) 15).toNatClampNeg) ((w5 >>> (((nI 24) - ((nI 8) * (x6 - x6 / (nI 4) * (nI 4)))) &&& 31)) &&& (nI 255)))) J S _
    refine w_st (i' := 55) (ls' := [.ref 99, .int x1, .int x2, .int x3, .int x4, .int x5, .int x6, .int w5]) (st' := [.ref 99]) (E' := E) (I' := (u_I I 111 (upd (I 111) (((I 99) 15).toNatClampNeg) ((w5 >>> (((nI 24) - ((nI 8) * (x6 - x6 / (nI 4) * (nI 4)))) &&& 31)) &&& (nI 255))))) (J' := J) (S' := S) am_e187 rfl rfl rfl rfl ?_
    refine w_st (i' := 56) (ls' := [.ref 99, .int x1, .int x2, .int x3, .int x4, .int x5, .int x6, .int w5]) (st' := [.ref 99, .ref 99]) (E' := E) (I' := (u_I I 111 (upd (I 111) (((I 99) 15).toNatClampNeg) ((w5 >>> (((nI 24) - ((nI 8) * (x6 - x6 / (nI 4) * (nI 4)))) &&& 31)) &&& (nI 255))))) (J' := J) (S' := S) am_e187 rfl rfl rfl rfl ?_
    refine w_st (i' := 57) (ls' := [.ref 99, .int x1, .int x2, .int x3, .int x4, .int x5, .int x6, .int w5]) (st' := [.int ((I 99) 15), .ref 99]) (E' := E) (I' := (u_I I 111 (upd (I 111) (((I 99) 15).toNatClampNeg) ((w5 >>> (((nI 24) - ((nI 8) * (x6 - x6 / (nI 4) * (nI 4)))) &&& 31)) &&& (nI 255))))) (J' := J) (S' := S) am_e187 rfl rfl rfl rfl ?_
    refine w_st (i' := 58) (ls' := [.ref 99, .int x1, .int x2, .int x3, .int x4, .int x5, .int x6, .int w5]) (st' := [.int (nI 1), .int ((I 99) 15), .ref 99]) (E' := E) (I' := (u_I I 111 (upd (I 111) (((I 99) 15).toNatClampNeg) ((w5 >>> (((nI 24) - ((nI 8) * (x6 - x6 / (nI 4) * (nI 4)))) &&& 31)) &&& (nI 255))))) (J' := J) (S' := S) am_e187 rfl rfl rfl rfl ?_
    refine w_st (i' := 59) (ls' := [.ref 99, .int x1, .int x2, .int x3, .int x4, .int x5, .int x6, .int w5]) (st' := [.int (((I 99) 15) + (nI 1)), .ref 99]) (E' := E) (I' := (u_I I 111 (upd (I 111) (((I 99) 15).toNatClampNeg) ((w5 >>> (((nI 24) - ((nI 8) * (x6 - x6 / (nI 4) * (nI 4)))) &&& 31)) &&& (nI 255))))) (J' := J) (S' := S) am_e187 rfl rfl rfl rfl ?_
    refine w_st (i' := 60) (ls' := [.ref 99, .int x1, .int x2, .int x3, .int x4, .int x5, .int x6, .int w5]) (st' := []) (E' := E) (I' := (u_I (u_I I 111 (upd (I 111) (((I 99) 15).toNatClampNeg) ((w5 >>> (((nI 24) - ((nI 8) * (x6 - x6 / (nI 4) * (nI 4)))) &&& 31)) &&& (nI 255)))) 99 (upd (I 99) 15 (((I 99) 15) + (nI 1))))) (J' := J) (S' := S) am_e187 rfl rfl rfl rfl ?_
    refine w_st (i' := 61) (ls' := [.ref 99, .int x1, .int x2, .int x3, .int x4, .int x5, .int (x6 + nI 1), .int w5]) (st' := []) (E' := E) (I' := (u_I (u_I I 111 (upd (I 111) (((I 99) 15).toNatClampNeg) ((w5 >>> (((nI 24) - ((nI 8) * (x6 - x6 / (nI 4) * (nI 4)))) &&& 31)) &&& (nI 255)))) 99 (upd (I 99) 15 (((I 99) 15) + (nI 1))))) (J' := J) (S' := S) am_e187 rfl rfl rfl rfl ?_
    refine w_st (i' := 13) (ls' := [.ref 99, .int x1, .int x2, .int x3, .int x4, .int x5, .int (x6 + nI 1), .int w5]) (st' := []) (E' := E) (I' := (u_I (u_I I 111 (upd (I 111) (((I 99) 15).toNatClampNeg) ((w5 >>> (((nI 24) - ((nI 8) * (x6 - x6 / (nI 4) * (nI 4)))) &&& 31)) &&& (nI 255)))) 99 (upd (I 99) 15 (((I 99) 15) + (nI 1))))) (J' := J) (S' := S) am_e187 rfl rfl rfl rfl ?_
    exact h
