/-! rows of methods, by program -/
-- 15 begin
theorem g15_0_19 {p2 : Int32} {E : am_Ev} {I : Nat → Nat → Int32} {J : Nat → Nat → Int64} {S : Nat → Nat → Option Nat} {Q : am_Qt}  (h : am_cl 16 [.ref 20, .ref 12] E I J S (q_V fun E1 I1 J1 S1 => Q (.inl none) E1 (u_I I1 19 (upd (upd (I1 19) 1 p2) 2 (nI 0))) J1 S1)) : am_ww 15 0 [.ref 19, .ref 12, .int p2] [] E I J S Q := by
  refine w_st (i' := 1) (ls' := [.ref 19, .ref 12, .int p2]) (st' := [.ref 19]) (E' := E) (I' := I) (J' := J) (S' := S) am_e15 rfl rfl rfl rfl ?_
  refine w_st (i' := 2) (ls' := [.ref 19, .ref 12, .int p2]) (st' := [.ref 20]) (E' := E) (I' := I) (J' := J) (S' := S) am_e15 rfl rfl rfl rfl ?_
  refine w_st (i' := 3) (ls' := [.ref 19, .ref 12, .int p2]) (st' := [.ref 12, .ref 20]) (E' := E) (I' := I) (J' := J) (S' := S) am_e15 rfl rfl rfl rfl ?_
  refine w_cV am_e15 rfl rfl (as := [.ref 20, .ref 12]) (rest := []) rfl rfl (am_ww.mono h ?_)
  rintro _ E1 I1 J1 S1 ⟨rfl, h⟩
  refine q_mkV ?_
  refine w_st (i' := 5) (ls' := [.ref 19, .ref 12, .int p2]) (st' := [.ref 19]) (E' := E1) (I' := I1) (J' := J1) (S' := S1) am_e15 rfl rfl rfl rfl ?_
  refine w_st (i' := 6) (ls' := [.ref 19, .ref 12, .int p2]) (st' := [.int p2, .ref 19]) (E' := E1) (I' := I1) (J' := J1) (S' := S1) am_e15 rfl rfl rfl rfl ?_
  refine w_st (i' := 7) (ls' := [.ref 19, .ref 12, .int p2]) (st' := []) (E' := E1) (I' := (u_I I1 19 (upd (I1 19) 1 p2))) (J' := J1) (S' := S1) am_e15 rfl rfl rfl rfl ?_
  refine w_st (i' := 8) (ls' := [.ref 19, .ref 12, .int p2]) (st' := [.ref 19]) (E' := E1) (I' := (u_I I1 19 (upd (I1 19) 1 p2))) (J' := J1) (S' := S1) am_e15 rfl rfl rfl rfl ?_
  refine w_st (i' := 9) (ls' := [.ref 19, .ref 12, .int p2]) (st' := [.int (nI 0), .ref 19]) (E' := E1) (I' := (u_I I1 19 (upd (I1 19) 1 p2))) (J' := J1) (S' := S1) am_e15 rfl rfl rfl rfl ?_
  refine w_st (i' := 10) (ls' := [.ref 19, .ref 12, .int p2]) (st' := []) (E' := E1) (I' := (u_I (u_I I1 19 (upd (I1 19) 1 p2)) 19 (upd (upd (I1 19) 1 p2) 2 (nI 0)))) (J' := J1) (S' := S1) am_e15 rfl rfl rfl rfl ?_
  refine w_eI (uI_0 ..) ?_
  show am_ww 15 10 [.ref 19, .ref 12, .int p2] [] E1 (u_I I1 19 (upd (upd (I1 19) 1 p2) 2 (nI 0))) J1 S1 _
  exact w_end am_e15 rfl rfl rfl h
-- 15 begin
theorem g15_0_76 {p2 : Int32} {E : am_Ev} {I : Nat → Nat → Int32} {J : Nat → Nat → Int64} {S : Nat → Nat → Option Nat} {Q : am_Qt}  (h : am_cl 16 [.ref 77, .ref 12] E I J S (q_V fun E1 I1 J1 S1 => Q (.inl none) E1 (u_I I1 76 (upd (upd (I1 76) 1 p2) 2 (nI 0))) J1 S1)) : am_ww 15 0 [.ref 76, .ref 12, .int p2] [] E I J S Q := by
  refine w_st (i' := 1) (ls' := [.ref 76, .ref 12, .int p2]) (st' := [.ref 76]) (E' := E) (I' := I) (J' := J) (S' := S) am_e15 rfl rfl rfl rfl ?_
  refine w_st (i' := 2) (ls' := [.ref 76, .ref 12, .int p2]) (st' := [.ref 77]) (E' := E) (I' := I) (J' := J) (S' := S) am_e15 rfl rfl rfl rfl ?_
  refine w_st (i' := 3) (ls' := [.ref 76, .ref 12, .int p2]) (st' := [.ref 12, .ref 77]) (E' := E) (I' := I) (J' := J) (S' := S) am_e15 rfl rfl rfl rfl ?_
  refine w_cV am_e15 rfl rfl (as := [.ref 77, .ref 12]) (rest := []) rfl rfl (am_ww.mono h ?_)
  rintro _ E1 I1 J1 S1 ⟨rfl, h⟩
  refine q_mkV ?_
  refine w_st (i' := 5) (ls' := [.ref 76, .ref 12, .int p2]) (st' := [.ref 76]) (E' := E1) (I' := I1) (J' := J1) (S' := S1) am_e15 rfl rfl rfl rfl ?_
  refine w_st (i' := 6) (ls' := [.ref 76, .ref 12, .int p2]) (st' := [.int p2, .ref 76]) (E' := E1) (I' := I1) (J' := J1) (S' := S1) am_e15 rfl rfl rfl rfl ?_
  refine w_st (i' := 7) (ls' := [.ref 76, .ref 12, .int p2]) (st' := []) (E' := E1) (I' := (u_I I1 76 (upd (I1 76) 1 p2))) (J' := J1) (S' := S1) am_e15 rfl rfl rfl rfl ?_
  refine w_st (i' := 8) (ls' := [.ref 76, .ref 12, .int p2]) (st' := [.ref 76]) (E' := E1) (I' := (u_I I1 76 (upd (I1 76) 1 p2))) (J' := J1) (S' := S1) am_e15 rfl rfl rfl rfl ?_
  refine w_st (i' := 9) (ls' := [.ref 76, .ref 12, .int p2]) (st' := [.int (nI 0), .ref 76]) (E' := E1) (I' := (u_I I1 76 (upd (I1 76) 1 p2))) (J' := J1) (S' := S1) am_e15 rfl rfl rfl rfl ?_
  refine w_st (i' := 10) (ls' := [.ref 76, .ref 12, .int p2]) (st' := []) (E' := E1) (I' := (u_I (u_I I1 76 (upd (I1 76) 1 p2)) 76 (upd (upd (I1 76) 1 p2) 2 (nI 0)))) (J' := J1) (S' := S1) am_e15 rfl rfl rfl rfl ?_
  refine w_eI (uI_0 ..) ?_
  show am_ww 15 10 [.ref 76, .ref 12, .int p2] [] E1 (u_I I1 76 (upd (upd (I1 76) 1 p2) 2 (nI 0))) J1 S1 _
  exact w_end am_e15 rfl rfl rfl h
-- 33 turnTo
theorem g33_0_19 {p1 : Int32} {E : am_Ev} {I : Nat → Nat → Int32} {J : Nat → Nat → Int64} {S : Nat → Nat → Option Nat} {Q : am_Qt}  (h : ∀ w2 : Int32, w2 = (if p1 = ((I 20) 6) then nI 0 else nI 1) → ((w2 = 0 ∨ w2 = 1) ∧ (((((I 20) 6) = (-1) → (True)) ∧ (¬ ((I 20) 6) = (-1) → (vp_in ((I 20) 6) 4 ∧ True))) ∧ (∀ w4 : Int32, w4 = (if ((I 20) 6) = (-1) then nI 0 else ((I 24) (((I 20) 6).toNatClampNeg))) → (((((I 20) 6) = (-1) → (True)) ∧ (¬ ((I 20) 6) = (-1) → (vp_in ((I 20) 6) 4 ∧ True))) ∧ (∀ w6 : Int32, w6 = (if ((I 20) 6) = (-1) then nI 0 else ((I 23) (((I 20) 6).toNatClampNeg))) → (Q (.inl none) E (u_I (u_I I 19 (upd (upd (upd (I 19) 4 w2) 5 w4) 6 w6)) 20 (upd (I 20) 6 p1)) J S))))))) : am_ww 33 0 [.ref 19, .int p1, am_U] [] E I J S Q := by
  refine w_st (i' := 1) (ls' := [.ref 19, .int p1, am_U]) (st' := [.ref 19]) (E' := E) (I' := I) (J' := J) (S' := S) am_e33 rfl rfl rfl rfl ?_
  refine w_st (i' := 2) (ls' := [.ref 19, .int p1, am_U]) (st' := [.ref 20]) (E' := E) (I' := I) (J' := J) (S' := S) am_e33 rfl rfl rfl rfl ?_
  refine w_st (i' := 3) (ls' := [.ref 19, .int p1, am_U]) (st' := [.int ((I 20) 6)]) (E' := E) (I' := I) (J' := J) (S' := S) am_e33 rfl rfl rfl rfl ?_
  refine w_st (i' := 4) (ls' := [.ref 19, .int p1, .int ((I 20) 6)]) (st' := []) (E' := E) (I' := I) (J' := J) (S' := S) am_e33 rfl rfl rfl rfl ?_
  refine w_st (i' := 5) (ls' := [.ref 19, .int p1, .int ((I 20) 6)]) (st' := [.ref 19]) (E' := E) (I' := I) (J' := J) (S' := S) am_e33 rfl rfl rfl rfl ?_
  refine w_st (i' := 6) (ls' := [.ref 19, .int p1, .int ((I 20) 6)]) (st' := [.int p1, .ref 19]) (E' := E) (I' := I) (J' := J) (S' := S) am_e33 rfl rfl rfl rfl ?_
  refine w_st (i' := 7) (ls' := [.ref 19, .int p1, .int ((I 20) 6)]) (st' := [.int ((I 20) 6), .int p1, .ref 19]) (E' := E) (I' := I) (J' := J) (S' := S) am_e33 rfl rfl rfl rfl ?_
  refine w_mg (i := 11) (ls' := [.ref 19, .int p1, .int ((I 20) 6)]) (st' := [.int (if p1 = ((I 20) 6) then nI 0 else nI 1), .ref 19]) (fun hm => ?_) ?_
  · clear h
    refine w_if2 am_e33 rfl rfl (fun c => ?_) (fun c => ?_)
    · have m1 : p1 = ((I 20) 6) := (of_decide_eq_true c)
      refine w_st (i' := 11) (ls' := [.ref 19, .int p1, .int ((I 20) 6)]) (st' := [.int (nI 0), .ref 19]) (E' := E) (I' := I) (J' := J) (S' := S) am_e33 rfl rfl rfl rfl ?_
      first | exact hm | (simp only [if_pos m1] at hm; exact hm)
    · have m1 : ¬ (p1 = ((I 20) 6)) := (of_decide_eq_false c)
      refine w_st (i' := 9) (ls' := [.ref 19, .int p1, .int ((I 20) 6)]) (st' := [.int (nI 1), .ref 19]) (E' := E) (I' := I) (J' := J) (S' := S) am_e33 rfl rfl rfl rfl ?_
      refine w_st (i' := 11) (ls' := [.ref 19, .int p1, .int ((I 20) 6)]) (st' := [.int (nI 1), .ref 19]) (E' := E) (I' := I) (J' := J) (S' := S) am_e33 rfl rfl rfl rfl ?_
      first | exact hm | (simp only [if_neg m1] at hm; exact hm)
  refine w_var (fun w2 => am_ww 33 11 [.ref 19, .int p1, .int ((I 20) 6)] [.int w2, .ref 19] E I J S _) (if p1 = ((I 20) 6) then nI 0 else nI 1) (fun w2 hw2 => ?_)
  replace h := h w2 hw2
  refine w_pz (k := 19) (f := 4) am_e33 rfl (by decide) rfl h.1 ?_
  replace h := h.2
  show am_ww 33 12 [.ref 19, .int p1, .int ((I 20) 6)] [] E (u_I I 19 (upd (I 19) 4 w2)) J S _
  refine w_st (i' := 13) (ls' := [.ref 19, .int p1, .int ((I 20) 6)]) (st' := [.ref 19]) (E' := E) (I' := (u_I I 19 (upd (I 19) 4 w2))) (J' := J) (S' := S) am_e33 rfl rfl rfl rfl ?_
  refine w_st (i' := 14) (ls' := [.ref 19, .int p1, .int ((I 20) 6)]) (st' := [.int ((I 20) 6), .ref 19]) (E' := E) (I' := (u_I I 19 (upd (I 19) 4 w2))) (J' := J) (S' := S) am_e33 rfl rfl rfl rfl ?_
  refine w_st (i' := 15) (ls' := [.ref 19, .int p1, .int ((I 20) 6)]) (st' := [.int (-1), .int ((I 20) 6), .ref 19]) (E' := E) (I' := (u_I I 19 (upd (I 19) 4 w2))) (J' := J) (S' := S) am_e33 rfl rfl rfl rfl ?_
  refine w_mg (i := 23) (ls' := [.ref 19, .int p1, .int ((I 20) 6)]) (st' := [.int (if ((I 20) 6) = (-1) then nI 0 else ((I 24) (((I 20) 6).toNatClampNeg))), .ref 19]) (fun hm => ?_) ?_
  · replace h := h.1
    refine w_if2 am_e33 rfl rfl (fun c => ?_) (fun c => ?_)
    · have m3 : ¬ (((I 20) 6) = (-1)) := (of_decide_eq_true c)
      replace h := h.2 m3
      refine w_st (i' := 19) (ls' := [.ref 19, .int p1, .int ((I 20) 6)]) (st' := [.ref 19, .ref 19]) (E' := E) (I' := (u_I I 19 (upd (I 19) 4 w2))) (J' := J) (S' := S) am_e33 rfl rfl rfl rfl ?_
      refine w_st (i' := 20) (ls' := [.ref 19, .int p1, .int ((I 20) 6)]) (st' := [.ref 20, .ref 19]) (E' := E) (I' := (u_I I 19 (upd (I 19) 4 w2))) (J' := J) (S' := S) am_e33 rfl rfl rfl rfl ?_
      refine w_st (i' := 21) (ls' := [.ref 19, .int p1, .int ((I 20) 6)]) (st' := [.ref 24, .ref 19]) (E' := E) (I' := (u_I I 19 (upd (I 19) 4 w2))) (J' := J) (S' := S) am_e33 rfl rfl rfl rfl ?_
      refine w_st (i' := 22) (ls' := [.ref 19, .int p1, .int ((I 20) 6)]) (st' := [.int ((I 20) 6), .ref 24, .ref 19]) (E' := E) (I' := (u_I I 19 (upd (I 19) 4 w2))) (J' := J) (S' := S) am_e33 rfl rfl rfl rfl ?_
      refine w_ia (k := 24) (n := 4) (jn := ((I 20) 6).toNatClampNeg) am_e33 rfl rfl (by decide) h.1 rfl ?_
      replace h := h.2
      show am_ww 33 23 [.ref 19, .int p1, .int ((I 20) 6)] [.int ((I 24) (((I 20) 6).toNatClampNeg)), .ref 19] E (u_I I 19 (upd (I 19) 4 w2)) J S _
      first | exact hm | (simp only [if_neg m3] at hm; exact hm)
    · have m3 : ((I 20) 6) = (-1) := (Decidable.not_not.mp (of_decide_eq_false c))
      replace h := h.1 m3
      refine w_st (i' := 17) (ls' := [.ref 19, .int p1, .int ((I 20) 6)]) (st' := [.int (nI 0), .ref 19]) (E' := E) (I' := (u_I I 19 (upd (I 19) 4 w2))) (J' := J) (S' := S) am_e33 rfl rfl rfl rfl ?_
      refine w_st (i' := 23) (ls' := [.ref 19, .int p1, .int ((I 20) 6)]) (st' := [.int (nI 0), .ref 19]) (E' := E) (I' := (u_I I 19 (upd (I 19) 4 w2))) (J' := J) (S' := S) am_e33 rfl rfl rfl rfl ?_
      first | exact hm | (simp only [if_pos m3] at hm; exact hm)
  replace h := h.2
  refine w_var (fun w4 => am_ww 33 23 [.ref 19, .int p1, .int ((I 20) 6)] [.int w4, .ref 19] E (u_I I 19 (upd (I 19) 4 w2)) J S _) (if ((I 20) 6) = (-1) then nI 0 else ((I 24) (((I 20) 6).toNatClampNeg))) (fun w4 hw4 => ?_)
  replace h := h w4 hw4
  refine w_st (i' := 24) (ls' := [.ref 19, .int p1, .int ((I 20) 6)]) (st' := []) (E' := E) (I' := (u_I (u_I I 19 (upd (I 19) 4 w2)) 19 (upd (upd (I 19) 4 w2) 5 w4))) (J' := J) (S' := S) am_e33 rfl rfl rfl rfl ?_
  refine w_eI (uI_0 ..) ?_
  show am_ww 33 24 [.ref 19, .int p1, .int ((I 20) 6)] [] E (u_I I 19 (upd (upd (I 19) 4 w2) 5 w4)) J S _
  refine w_st (i' := 25) (ls' := [.ref 19, .int p1, .int ((I 20) 6)]) (st' := [.ref 19]) (E' := E) (I' := (u_I I 19 (upd (upd (I 19) 4 w2) 5 w4))) (J' := J) (S' := S) am_e33 rfl rfl rfl rfl ?_
  refine w_st (i' := 26) (ls' := [.ref 19, .int p1, .int ((I 20) 6)]) (st' := [.int ((I 20) 6), .ref 19]) (E' := E) (I' := (u_I I 19 (upd (upd (I 19) 4 w2) 5 w4))) (J' := J) (S' := S) am_e33 rfl rfl rfl rfl ?_
  refine w_st (i' := 27) (ls' := [.ref 19, .int p1, .int ((I 20) 6)]) (st' := [.int (-1), .int ((I 20) 6), .ref 19]) (E' := E) (I' := (u_I I 19 (upd (upd (I 19) 4 w2) 5 w4))) (J' := J) (S' := S) am_e33 rfl rfl rfl rfl ?_
  refine w_mg (i := 35) (ls' := [.ref 19, .int p1, .int ((I 20) 6)]) (st' := [.int (if ((I 20) 6) = (-1) then nI 0 else ((I 23) (((I 20) 6).toNatClampNeg))), .ref 19]) (fun hm => ?_) ?_
  · replace h := h.1
    refine w_if2 am_e33 rfl rfl (fun c => ?_) (fun c => ?_)
    · have m5 : ¬ (((I 20) 6) = (-1)) := (of_decide_eq_true c)
      replace h := h.2 m5
      refine w_st (i' := 31) (ls' := [.ref 19, .int p1, .int ((I 20) 6)]) (st' := [.ref 19, .ref 19]) (E' := E) (I' := (u_I I 19 (upd (upd (I 19) 4 w2) 5 w4))) (J' := J) (S' := S) am_e33 rfl rfl rfl rfl ?_
      refine w_st (i' := 32) (ls' := [.ref 19, .int p1, .int ((I 20) 6)]) (st' := [.ref 20, .ref 19]) (E' := E) (I' := (u_I I 19 (upd (upd (I 19) 4 w2) 5 w4))) (J' := J) (S' := S) am_e33 rfl rfl rfl rfl ?_
      refine w_st (i' := 33) (ls' := [.ref 19, .int p1, .int ((I 20) 6)]) (st' := [.ref 23, .ref 19]) (E' := E) (I' := (u_I I 19 (upd (upd (I 19) 4 w2) 5 w4))) (J' := J) (S' := S) am_e33 rfl rfl rfl rfl ?_
      refine w_st (i' := 34) (ls' := [.ref 19, .int p1, .int ((I 20) 6)]) (st' := [.int ((I 20) 6), .ref 23, .ref 19]) (E' := E) (I' := (u_I I 19 (upd (upd (I 19) 4 w2) 5 w4))) (J' := J) (S' := S) am_e33 rfl rfl rfl rfl ?_
      refine w_ia (k := 23) (n := 4) (jn := ((I 20) 6).toNatClampNeg) am_e33 rfl rfl (by decide) h.1 rfl ?_
      replace h := h.2
      show am_ww 33 35 [.ref 19, .int p1, .int ((I 20) 6)] [.int ((I 23) (((I 20) 6).toNatClampNeg)), .ref 19] E (u_I I 19 (upd (upd (I 19) 4 w2) 5 w4)) J S _
      first | exact hm | (simp only [if_neg m5] at hm; exact hm)
    · have m5 : ((I 20) 6) = (-1) := (Decidable.not_not.mp (of_decide_eq_false c))
      replace h := h.1 m5
      refine w_st (i' := 29) (ls' := [.ref 19, .int p1, .int ((I 20) 6)]) (st' := [.int (nI 0), .ref 19]) (E' := E) (I' := (u_I I 19 (upd (upd (I 19) 4 w2) 5 w4))) (J' := J) (S' := S) am_e33 rfl rfl rfl rfl ?_
      refine w_st (i' := 35) (ls' := [.ref 19, .int p1, .int ((I 20) 6)]) (st' := [.int (nI 0), .ref 19]) (E' := E) (I' := (u_I I 19 (upd (upd (I 19) 4 w2) 5 w4))) (J' := J) (S' := S) am_e33 rfl rfl rfl rfl ?_
      first | exact hm | (simp only [if_pos m5] at hm; exact hm)
  replace h := h.2
  refine w_var (fun w6 => am_ww 33 35 [.ref 19, .int p1, .int ((I 20) 6)] [.int w6, .ref 19] E (u_I I 19 (upd (upd (I 19) 4 w2) 5 w4)) J S _) (if ((I 20) 6) = (-1) then nI 0 else ((I 23) (((I 20) 6).toNatClampNeg))) (fun w6 hw6 => ?_)
  replace h := h w6 hw6
  refine w_st (i' := 36) (ls' := [.ref 19, .int p1, .int ((I 20) 6)]) (st' := []) (E' := E) (I' := (u_I (u_I I 19 (upd (upd (I 19) 4 w2) 5 w4)) 19 (upd (upd (upd (I 19) 4 w2) 5 w4) 6 w6))) (J' := J) (S' := S) am_e33 rfl rfl rfl rfl ?_
  refine w_eI (uI_0 ..) ?_
  show am_ww 33 36 [.ref 19, .int p1, .int ((I 20) 6)] [] E (u_I I 19 (upd (upd (upd (I 19) 4 w2) 5 w4) 6 w6)) J S _
  refine w_st (i' := 37) (ls' := [.ref 19, .int p1, .int ((I 20) 6)]) (st' := [.ref 19]) (E' := E) (I' := (u_I I 19 (upd (upd (upd (I 19) 4 w2) 5 w4) 6 w6))) (J' := J) (S' := S) am_e33 rfl rfl rfl rfl ?_
  refine w_st (i' := 38) (ls' := [.ref 19, .int p1, .int ((I 20) 6)]) (st' := [.ref 20]) (E' := E) (I' := (u_I I 19 (upd (upd (upd (I 19) 4 w2) 5 w4) 6 w6))) (J' := J) (S' := S) am_e33 rfl rfl rfl rfl ?_
  refine w_st (i' := 39) (ls' := [.ref 19, .int p1, .int ((I 20) 6)]) (st' := [.int p1, .ref 20]) (E' := E) (I' := (u_I I 19 (upd (upd (upd (I 19) 4 w2) 5 w4) 6 w6))) (J' := J) (S' := S) am_e33 rfl rfl rfl rfl ?_
  refine w_st (i' := 40) (ls' := [.ref 19, .int p1, .int ((I 20) 6)]) (st' := []) (E' := E) (I' := (u_I (u_I I 19 (upd (upd (upd (I 19) 4 w2) 5 w4) 6 w6)) 20 (upd (I 20) 6 p1))) (J' := J) (S' := S) am_e33 rfl rfl rfl rfl ?_
  exact w_end am_e33 rfl rfl rfl h
-- 33 turnTo
theorem g33_0_76 {p1 : Int32} {E : am_Ev} {I : Nat → Nat → Int32} {J : Nat → Nat → Int64} {S : Nat → Nat → Option Nat} {Q : am_Qt}  (h : ∀ w2 : Int32, w2 = (if p1 = ((I 77) 6) then nI 0 else nI 1) → ((w2 = 0 ∨ w2 = 1) ∧ (((((I 77) 6) = (-1) → (True)) ∧ (¬ ((I 77) 6) = (-1) → (vp_in ((I 77) 6) 4 ∧ True))) ∧ (∀ w4 : Int32, w4 = (if ((I 77) 6) = (-1) then nI 0 else ((I 81) (((I 77) 6).toNatClampNeg))) → (((((I 77) 6) = (-1) → (True)) ∧ (¬ ((I 77) 6) = (-1) → (vp_in ((I 77) 6) 4 ∧ True))) ∧ (∀ w6 : Int32, w6 = (if ((I 77) 6) = (-1) then nI 0 else ((I 80) (((I 77) 6).toNatClampNeg))) → (Q (.inl none) E (u_I (u_I I 76 (upd (upd (upd (I 76) 4 w2) 5 w4) 6 w6)) 77 (upd (I 77) 6 p1)) J S))))))) : am_ww 33 0 [.ref 76, .int p1, am_U] [] E I J S Q := by
  refine w_st (i' := 1) (ls' := [.ref 76, .int p1, am_U]) (st' := [.ref 76]) (E' := E) (I' := I) (J' := J) (S' := S) am_e33 rfl rfl rfl rfl ?_
  refine w_st (i' := 2) (ls' := [.ref 76, .int p1, am_U]) (st' := [.ref 77]) (E' := E) (I' := I) (J' := J) (S' := S) am_e33 rfl rfl rfl rfl ?_
  refine w_st (i' := 3) (ls' := [.ref 76, .int p1, am_U]) (st' := [.int ((I 77) 6)]) (E' := E) (I' := I) (J' := J) (S' := S) am_e33 rfl rfl rfl rfl ?_
  refine w_st (i' := 4) (ls' := [.ref 76, .int p1, .int ((I 77) 6)]) (st' := []) (E' := E) (I' := I) (J' := J) (S' := S) am_e33 rfl rfl rfl rfl ?_
  refine w_st (i' := 5) (ls' := [.ref 76, .int p1, .int ((I 77) 6)]) (st' := [.ref 76]) (E' := E) (I' := I) (J' := J) (S' := S) am_e33 rfl rfl rfl rfl ?_
  refine w_st (i' := 6) (ls' := [.ref 76, .int p1, .int ((I 77) 6)]) (st' := [.int p1, .ref 76]) (E' := E) (I' := I) (J' := J) (S' := S) am_e33 rfl rfl rfl rfl ?_
  refine w_st (i' := 7) (ls' := [.ref 76, .int p1, .int ((I 77) 6)]) (st' := [.int ((I 77) 6), .int p1, .ref 76]) (E' := E) (I' := I) (J' := J) (S' := S) am_e33 rfl rfl rfl rfl ?_
  refine w_mg (i := 11) (ls' := [.ref 76, .int p1, .int ((I 77) 6)]) (st' := [.int (if p1 = ((I 77) 6) then nI 0 else nI 1), .ref 76]) (fun hm => ?_) ?_
  · clear h
    refine w_if2 am_e33 rfl rfl (fun c => ?_) (fun c => ?_)
    · have m1 : p1 = ((I 77) 6) := (of_decide_eq_true c)
      refine w_st (i' := 11) (ls' := [.ref 76, .int p1, .int ((I 77) 6)]) (st' := [.int (nI 0), .ref 76]) (E' := E) (I' := I) (J' := J) (S' := S) am_e33 rfl rfl rfl rfl ?_
      first | exact hm | (simp only [if_pos m1] at hm; exact hm)
    · have m1 : ¬ (p1 = ((I 77) 6)) := (of_decide_eq_false c)
      refine w_st (i' := 9) (ls' := [.ref 76, .int p1, .int ((I 77) 6)]) (st' := [.int (nI 1), .ref 76]) (E' := E) (I' := I) (J' := J) (S' := S) am_e33 rfl rfl rfl rfl ?_
      refine w_st (i' := 11) (ls' := [.ref 76, .int p1, .int ((I 77) 6)]) (st' := [.int (nI 1), .ref 76]) (E' := E) (I' := I) (J' := J) (S' := S) am_e33 rfl rfl rfl rfl ?_
      first | exact hm | (simp only [if_neg m1] at hm; exact hm)
  refine w_var (fun w2 => am_ww 33 11 [.ref 76, .int p1, .int ((I 77) 6)] [.int w2, .ref 76] E I J S _) (if p1 = ((I 77) 6) then nI 0 else nI 1) (fun w2 hw2 => ?_)
  replace h := h w2 hw2
  refine w_pz (k := 76) (f := 4) am_e33 rfl (by decide) rfl h.1 ?_
  replace h := h.2
  show am_ww 33 12 [.ref 76, .int p1, .int ((I 77) 6)] [] E (u_I I 76 (upd (I 76) 4 w2)) J S _
  refine w_st (i' := 13) (ls' := [.ref 76, .int p1, .int ((I 77) 6)]) (st' := [.ref 76]) (E' := E) (I' := (u_I I 76 (upd (I 76) 4 w2))) (J' := J) (S' := S) am_e33 rfl rfl rfl rfl ?_
  refine w_st (i' := 14) (ls' := [.ref 76, .int p1, .int ((I 77) 6)]) (st' := [.int ((I 77) 6), .ref 76]) (E' := E) (I' := (u_I I 76 (upd (I 76) 4 w2))) (J' := J) (S' := S) am_e33 rfl rfl rfl rfl ?_
  refine w_st (i' := 15) (ls' := [.ref 76, .int p1, .int ((I 77) 6)]) (st' := [.int (-1), .int ((I 77) 6), .ref 76]) (E' := E) (I' := (u_I I 76 (upd (I 76) 4 w2))) (J' := J) (S' := S) am_e33 rfl rfl rfl rfl ?_
  refine w_mg (i := 23) (ls' := [.ref 76, .int p1, .int ((I 77) 6)]) (st' := [.int (if ((I 77) 6) = (-1) then nI 0 else ((I 81) (((I 77) 6).toNatClampNeg))), .ref 76]) (fun hm => ?_) ?_
  · replace h := h.1
    refine w_if2 am_e33 rfl rfl (fun c => ?_) (fun c => ?_)
    · have m3 : ¬ (((I 77) 6) = (-1)) := (of_decide_eq_true c)
      replace h := h.2 m3
      refine w_st (i' := 19) (ls' := [.ref 76, .int p1, .int ((I 77) 6)]) (st' := [.ref 76, .ref 76]) (E' := E) (I' := (u_I I 76 (upd (I 76) 4 w2))) (J' := J) (S' := S) am_e33 rfl rfl rfl rfl ?_
      refine w_st (i' := 20) (ls' := [.ref 76, .int p1, .int ((I 77) 6)]) (st' := [.ref 77, .ref 76]) (E' := E) (I' := (u_I I 76 (upd (I 76) 4 w2))) (J' := J) (S' := S) am_e33 rfl rfl rfl rfl ?_
      refine w_st (i' := 21) (ls' := [.ref 76, .int p1, .int ((I 77) 6)]) (st' := [.ref 81, .ref 76]) (E' := E) (I' := (u_I I 76 (upd (I 76) 4 w2))) (J' := J) (S' := S) am_e33 rfl rfl rfl rfl ?_
      refine w_st (i' := 22) (ls' := [.ref 76, .int p1, .int ((I 77) 6)]) (st' := [.int ((I 77) 6), .ref 81, .ref 76]) (E' := E) (I' := (u_I I 76 (upd (I 76) 4 w2))) (J' := J) (S' := S) am_e33 rfl rfl rfl rfl ?_
      refine w_ia (k := 81) (n := 4) (jn := ((I 77) 6).toNatClampNeg) am_e33 rfl rfl (by decide) h.1 rfl ?_
      replace h := h.2
      show am_ww 33 23 [.ref 76, .int p1, .int ((I 77) 6)] [.int ((I 81) (((I 77) 6).toNatClampNeg)), .ref 76] E (u_I I 76 (upd (I 76) 4 w2)) J S _
      first | exact hm | (simp only [if_neg m3] at hm; exact hm)
    · have m3 : ((I 77) 6) = (-1) := (Decidable.not_not.mp (of_decide_eq_false c))
      replace h := h.1 m3
      refine w_st (i' := 17) (ls' := [.ref 76, .int p1, .int ((I 77) 6)]) (st' := [.int (nI 0), .ref 76]) (E' := E) (I' := (u_I I 76 (upd (I 76) 4 w2))) (J' := J) (S' := S) am_e33 rfl rfl rfl rfl ?_
      refine w_st (i' := 23) (ls' := [.ref 76, .int p1, .int ((I 77) 6)]) (st' := [.int (nI 0), .ref 76]) (E' := E) (I' := (u_I I 76 (upd (I 76) 4 w2))) (J' := J) (S' := S) am_e33 rfl rfl rfl rfl ?_
      first | exact hm | (simp only [if_pos m3] at hm; exact hm)
  replace h := h.2
  refine w_var (fun w4 => am_ww 33 23 [.ref 76, .int p1, .int ((I 77) 6)] [.int w4, .ref 76] E (u_I I 76 (upd (I 76) 4 w2)) J S _) (if ((I 77) 6) = (-1) then nI 0 else ((I 81) (((I 77) 6).toNatClampNeg))) (fun w4 hw4 => ?_)
  replace h := h w4 hw4
  refine w_st (i' := 24) (ls' := [.ref 76, .int p1, .int ((I 77) 6)]) (st' := []) (E' := E) (I' := (u_I (u_I I 76 (upd (I 76) 4 w2)) 76 (upd (upd (I 76) 4 w2) 5 w4))) (J' := J) (S' := S) am_e33 rfl rfl rfl rfl ?_
  refine w_eI (uI_0 ..) ?_
  show am_ww 33 24 [.ref 76, .int p1, .int ((I 77) 6)] [] E (u_I I 76 (upd (upd (I 76) 4 w2) 5 w4)) J S _
  refine w_st (i' := 25) (ls' := [.ref 76, .int p1, .int ((I 77) 6)]) (st' := [.ref 76]) (E' := E) (I' := (u_I I 76 (upd (upd (I 76) 4 w2) 5 w4))) (J' := J) (S' := S) am_e33 rfl rfl rfl rfl ?_
  refine w_st (i' := 26) (ls' := [.ref 76, .int p1, .int ((I 77) 6)]) (st' := [.int ((I 77) 6), .ref 76]) (E' := E) (I' := (u_I I 76 (upd (upd (I 76) 4 w2) 5 w4))) (J' := J) (S' := S) am_e33 rfl rfl rfl rfl ?_
  refine w_st (i' := 27) (ls' := [.ref 76, .int p1, .int ((I 77) 6)]) (st' := [.int (-1), .int ((I 77) 6), .ref 76]) (E' := E) (I' := (u_I I 76 (upd (upd (I 76) 4 w2) 5 w4))) (J' := J) (S' := S) am_e33 rfl rfl rfl rfl ?_
  refine w_mg (i := 35) (ls' := [.ref 76, .int p1, .int ((I 77) 6)]) (st' := [.int (if ((I 77) 6) = (-1) then nI 0 else ((I 80) (((I 77) 6).toNatClampNeg))), .ref 76]) (fun hm => ?_) ?_
  · replace h := h.1
    refine w_if2 am_e33 rfl rfl (fun c => ?_) (fun c => ?_)
    · have m5 : ¬ (((I 77) 6) = (-1)) := (of_decide_eq_true c)
      replace h := h.2 m5
      refine w_st (i' := 31) (ls' := [.ref 76, .int p1, .int ((I 77) 6)]) (st' := [.ref 76, .ref 76]) (E' := E) (I' := (u_I I 76 (upd (upd (I 76) 4 w2) 5 w4))) (J' := J) (S' := S) am_e33 rfl rfl rfl rfl ?_
      refine w_st (i' := 32) (ls' := [.ref 76, .int p1, .int ((I 77) 6)]) (st' := [.ref 77, .ref 76]) (E' := E) (I' := (u_I I 76 (upd (upd (I 76) 4 w2) 5 w4))) (J' := J) (S' := S) am_e33 rfl rfl rfl rfl ?_
      refine w_st (i' := 33) (ls' := [.ref 76, .int p1, .int ((I 77) 6)]) (st' := [.ref 80, .ref 76]) (E' := E) (I' := (u_I I 76 (upd (upd (I 76) 4 w2) 5 w4))) (J' := J) (S' := S) am_e33 rfl rfl rfl rfl ?_
      refine w_st (i' := 34) (ls' := [.ref 76, .int p1, .int ((I 77) 6)]) (st' := [.int ((I 77) 6), .ref 80, .ref 76]) (E' := E) (I' := (u_I I 76 (upd (upd (I 76) 4 w2) 5 w4))) (J' := J) (S' := S) am_e33 rfl rfl rfl rfl ?_
      refine w_ia (k := 80) (n := 4) (jn := ((I 77) 6).toNatClampNeg) am_e33 rfl rfl (by decide) h.1 rfl ?_
      replace h := h.2
      show am_ww 33 35 [.ref 76, .int p1, .int ((I 77) 6)] [.int ((I 80) (((I 77) 6).toNatClampNeg)), .ref 76] E (u_I I 76 (upd (upd (I 76) 4 w2) 5 w4)) J S _
      first | exact hm | (simp only [if_neg m5] at hm; exact hm)
    · have m5 : ((I 77) 6) = (-1) := (Decidable.not_not.mp (of_decide_eq_false c))
      replace h := h.1 m5
      refine w_st (i' := 29) (ls' := [.ref 76, .int p1, .int ((I 77) 6)]) (st' := [.int (nI 0), .ref 76]) (E' := E) (I' := (u_I I 76 (upd (upd (I 76) 4 w2) 5 w4))) (J' := J) (S' := S) am_e33 rfl rfl rfl rfl ?_
      refine w_st (i' := 35) (ls' := [.ref 76, .int p1, .int ((I 77) 6)]) (st' := [.int (nI 0), .ref 76]) (E' := E) (I' := (u_I I 76 (upd (upd (I 76) 4 w2) 5 w4))) (J' := J) (S' := S) am_e33 rfl rfl rfl rfl ?_
      first | exact hm | (simp only [if_pos m5] at hm; exact hm)
  replace h := h.2
  refine w_var (fun w6 => am_ww 33 35 [.ref 76, .int p1, .int ((I 77) 6)] [.int w6, .ref 76] E (u_I I 76 (upd (upd (I 76) 4 w2) 5 w4)) J S _) (if ((I 77) 6) = (-1) then nI 0 else ((I 80) (((I 77) 6).toNatClampNeg))) (fun w6 hw6 => ?_)
  replace h := h w6 hw6
  refine w_st (i' := 36) (ls' := [.ref 76, .int p1, .int ((I 77) 6)]) (st' := []) (E' := E) (I' := (u_I (u_I I 76 (upd (upd (I 76) 4 w2) 5 w4)) 76 (upd (upd (upd (I 76) 4 w2) 5 w4) 6 w6))) (J' := J) (S' := S) am_e33 rfl rfl rfl rfl ?_
  refine w_eI (uI_0 ..) ?_
  show am_ww 33 36 [.ref 76, .int p1, .int ((I 77) 6)] [] E (u_I I 76 (upd (upd (upd (I 76) 4 w2) 5 w4) 6 w6)) J S _
  refine w_st (i' := 37) (ls' := [.ref 76, .int p1, .int ((I 77) 6)]) (st' := [.ref 76]) (E' := E) (I' := (u_I I 76 (upd (upd (upd (I 76) 4 w2) 5 w4) 6 w6))) (J' := J) (S' := S) am_e33 rfl rfl rfl rfl ?_
  refine w_st (i' := 38) (ls' := [.ref 76, .int p1, .int ((I 77) 6)]) (st' := [.ref 77]) (E' := E) (I' := (u_I I 76 (upd (upd (upd (I 76) 4 w2) 5 w4) 6 w6))) (J' := J) (S' := S) am_e33 rfl rfl rfl rfl ?_
  refine w_st (i' := 39) (ls' := [.ref 76, .int p1, .int ((I 77) 6)]) (st' := [.int p1, .ref 77]) (E' := E) (I' := (u_I I 76 (upd (upd (upd (I 76) 4 w2) 5 w4) 6 w6))) (J' := J) (S' := S) am_e33 rfl rfl rfl rfl ?_
  refine w_st (i' := 40) (ls' := [.ref 76, .int p1, .int ((I 77) 6)]) (st' := []) (E' := E) (I' := (u_I (u_I I 76 (upd (upd (upd (I 76) 4 w2) 5 w4) 6 w6)) 77 (upd (I 77) 6 p1))) (J' := J) (S' := S) am_e33 rfl rfl rfl rfl ?_
  exact w_end am_e33 rfl rfl rfl h
-- 32 pick
theorem g32_0_19 {p3 : Int32} {E : am_Ev} {I : Nat → Nat → Int32} {J : Nat → Nat → Int64} {S : Nat → Nat → Option Nat} {Q : am_Qt}  (h : am_ww 32 4 [.ref 19, .ref 12, .ref 28, .int p3, .int p3, .int (nI 0)] [] E I J S Q) : am_ww 32 0 [.ref 19, .ref 12, .ref 28, .int p3, am_U, am_U] [] E I J S Q := by
  refine w_st (i' := 1) (ls' := [.ref 19, .ref 12, .ref 28, .int p3, am_U, am_U]) (st' := [.int p3]) (E' := E) (I' := I) (J' := J) (S' := S) am_e32 rfl rfl rfl rfl ?_
  refine w_st (i' := 2) (ls' := [.ref 19, .ref 12, .ref 28, .int p3, .int p3, am_U]) (st' := []) (E' := E) (I' := I) (J' := J) (S' := S) am_e32 rfl rfl rfl rfl ?_
  refine w_st (i' := 3) (ls' := [.ref 19, .ref 12, .ref 28, .int p3, .int p3, am_U]) (st' := [.int (nI 0)]) (E' := E) (I' := I) (J' := J) (S' := S) am_e32 rfl rfl rfl rfl ?_
  refine w_st (i' := 4) (ls' := [.ref 19, .ref 12, .ref 28, .int p3, .int p3, .int (nI 0)]) (st' := []) (E' := E) (I' := I) (J' := J) (S' := S) am_e32 rfl rfl rfl rfl ?_
  exact h
theorem g32_4_19 {d3 : Value} {x4 : Int32} {x5 : Int32} {E : am_Ev} {I : Nat → Nat → Int32} {J : Nat → Nat → Int64} {S : Nat → Nat → Option Nat} {Q : am_Qt} (hd3 : am_isL d3 = false) (h : (((I 12) 5) ≤ x5 → (Q (.inl (some (.int ((I 20) 6)))) E I J S)) ∧ (¬ ((I 12) 5) ≤ x5 → (am_cl 23 [.ref 20, .ref 12, .int x5, .ref 28] E I J S (q_I fun v1 E1 I1 J1 S1 => (v1 = 0 → (am_ww 32 4 [.ref 19, .ref 12, .ref 28, d3, .int x4, .int (x5 + nI 1)] [] E1 I1 J1 S1 Q)) ∧ (¬ v1 = 0 → ((x4 = 0 → (Q (.inl (some (.int x5))) E1 I1 J1 S1)) ∧ (¬ x4 = 0 → (am_ww 32 4 [.ref 19, .ref 12, .ref 28, d3, .int (x4 - nI 1), .int (x5 + nI 1)] [] E1 I1 J1 S1 Q)))))))) : am_ww 32 4 [.ref 19, .ref 12, .ref 28, d3, .int x4, .int x5] [] E I J S Q := by
  refine w_st (i' := 5) (ls' := [.ref 19, .ref 12, .ref 28, d3, .int x4, .int x5]) (st' := [.int x5]) (E' := E) (I' := I) (J' := J) (S' := S) am_e32 rfl rfl rfl rfl ?_
  refine w_st (i' := 6) (ls' := [.ref 19, .ref 12, .ref 28, d3, .int x4, .int x5]) (st' := [.ref 12, .int x5]) (E' := E) (I' := I) (J' := J) (S' := S) am_e32 rfl rfl rfl rfl ?_
  refine w_st (i' := 7) (ls' := [.ref 19, .ref 12, .ref 28, d3, .int x4, .int x5]) (st' := [.int ((I 12) 5), .int x5]) (E' := E) (I' := I) (J' := J) (S' := S) am_e32 rfl rfl rfl rfl ?_
  refine w_if2 am_e32 rfl rfl (fun c => ?_) (fun c => ?_)
  · replace h := h.1 (of_decide_eq_true c)
    refine w_st (i' := 23) (ls' := [.ref 19, .ref 12, .ref 28, d3, .int x4, .int x5]) (st' := [.ref 19]) (E' := E) (I' := I) (J' := J) (S' := S) am_e32 rfl rfl rfl rfl ?_
    refine w_st (i' := 24) (ls' := [.ref 19, .ref 12, .ref 28, d3, .int x4, .int x5]) (st' := [.ref 20]) (E' := E) (I' := I) (J' := J) (S' := S) am_e32 rfl rfl rfl rfl ?_
    refine w_st (i' := 25) (ls' := [.ref 19, .ref 12, .ref 28, d3, .int x4, .int x5]) (st' := [.int ((I 20) 6)]) (E' := E) (I' := I) (J' := J) (S' := S) am_e32 rfl rfl rfl rfl ?_
    exact w_ri am_e32 rfl rfl h
  · replace h := h.2 (of_decide_eq_false c)
    refine w_st (i' := 9) (ls' := [.ref 19, .ref 12, .ref 28, d3, .int x4, .int x5]) (st' := [.ref 19]) (E' := E) (I' := I) (J' := J) (S' := S) am_e32 rfl rfl rfl rfl ?_
    refine w_st (i' := 10) (ls' := [.ref 19, .ref 12, .ref 28, d3, .int x4, .int x5]) (st' := [.ref 20]) (E' := E) (I' := I) (J' := J) (S' := S) am_e32 rfl rfl rfl rfl ?_
    refine w_st (i' := 11) (ls' := [.ref 19, .ref 12, .ref 28, d3, .int x4, .int x5]) (st' := [.ref 12, .ref 20]) (E' := E) (I' := I) (J' := J) (S' := S) am_e32 rfl rfl rfl rfl ?_
    refine w_st (i' := 12) (ls' := [.ref 19, .ref 12, .ref 28, d3, .int x4, .int x5]) (st' := [.int x5, .ref 12, .ref 20]) (E' := E) (I' := I) (J' := J) (S' := S) am_e32 rfl rfl rfl rfl ?_
    refine w_st (i' := 13) (ls' := [.ref 19, .ref 12, .ref 28, d3, .int x4, .int x5]) (st' := [.ref 28, .int x5, .ref 12, .ref 20]) (E' := E) (I' := I) (J' := J) (S' := S) am_e32 rfl rfl rfl rfl ?_
    refine w_cI am_e32 rfl rfl (as := [.ref 20, .ref 12, .int x5, .ref 28]) (rest := []) rfl rfl (am_ww.mono h ?_)
    rintro _ E1 I1 J1 S1 ⟨v1, rfl, h⟩
    refine q_mkI ?_
    refine w_if1 am_e32 rfl rfl (fun c => ?_) (fun c => ?_)
    · replace h := h.1 (of_decide_eq_true c)
      refine w_st (i' := 21) (ls' := [.ref 19, .ref 12, .ref 28, d3, .int x4, .int (x5 + nI 1)]) (st' := []) (E' := E1) (I' := I1) (J' := J1) (S' := S1) am_e32 rfl rfl rfl rfl ?_
      refine w_st (i' := 4) (ls' := [.ref 19, .ref 12, .ref 28, d3, .int x4, .int (x5 + nI 1)]) (st' := []) (E' := E1) (I' := I1) (J' := J1) (S' := S1) am_e32 rfl rfl rfl rfl ?_
      exact h
    · replace h := h.2 (of_decide_eq_false c)
      refine w_st (i' := 16) (ls' := [.ref 19, .ref 12, .ref 28, d3, .int x4, .int x5]) (st' := [.int x4]) (E' := E1) (I' := I1) (J' := J1) (S' := S1) am_e32 rfl rfl rfl rfl ?_
      refine w_if1 am_e32 rfl rfl (fun c => ?_) (fun c => ?_)
      · replace h := h.2 (of_decide_eq_true c)
        refine w_st (i' := 20) (ls' := [.ref 19, .ref 12, .ref 28, d3, .int (x4 - nI 1), .int x5]) (st' := []) (E' := E1) (I' := I1) (J' := J1) (S' := S1) am_e32 rfl rfl rfl (by simp [am_step, am_sto, am_inc, hd3] <;> rfl) ?_
        refine w_st (i' := 21) (ls' := [.ref 19, .ref 12, .ref 28, d3, .int (x4 - nI 1), .int (x5 + nI 1)]) (st' := []) (E' := E1) (I' := I1) (J' := J1) (S' := S1) am_e32 rfl rfl rfl rfl ?_
        refine w_st (i' := 4) (ls' := [.ref 19, .ref 12, .ref 28, d3, .int (x4 - nI 1), .int (x5 + nI 1)]) (st' := []) (E' := E1) (I' := I1) (J' := J1) (S' := S1) am_e32 rfl rfl rfl rfl ?_
        exact h
      · replace h := h.1 (Decidable.not_not.mp (of_decide_eq_false c))
        refine w_st (i' := 18) (ls' := [.ref 19, .ref 12, .ref 28, d3, .int x4, .int x5]) (st' := [.int x5]) (E' := E1) (I' := I1) (J' := J1) (S' := S1) am_e32 rfl rfl rfl rfl ?_
        exact w_ri am_e32 rfl rfl h
-- 32 pick
theorem g32_0_76 {p3 : Int32} {E : am_Ev} {I : Nat → Nat → Int32} {J : Nat → Nat → Int64} {S : Nat → Nat → Option Nat} {Q : am_Qt}  (h : am_ww 32 4 [.ref 76, .ref 12, .ref 28, .int p3, .int p3, .int (nI 0)] [] E I J S Q) : am_ww 32 0 [.ref 76, .ref 12, .ref 28, .int p3, am_U, am_U] [] E I J S Q := by
  refine w_st (i' := 1) (ls' := [.ref 76, .ref 12, .ref 28, .int p3, am_U, am_U]) (st' := [.int p3]) (E' := E) (I' := I) (J' := J) (S' := S) am_e32 rfl rfl rfl rfl ?_
  refine w_st (i' := 2) (ls' := [.ref 76, .ref 12, .ref 28, .int p3, .int p3, am_U]) (st' := []) (E' := E) (I' := I) (J' := J) (S' := S) am_e32 rfl rfl rfl rfl ?_
  refine w_st (i' := 3) (ls' := [.ref 76, .ref 12, .ref 28, .int p3, .int p3, am_U]) (st' := [.int (nI 0)]) (E' := E) (I' := I) (J' := J) (S' := S) am_e32 rfl rfl rfl rfl ?_
  refine w_st (i' := 4) (ls' := [.ref 76, .ref 12, .ref 28, .int p3, .int p3, .int (nI 0)]) (st' := []) (E' := E) (I' := I) (J' := J) (S' := S) am_e32 rfl rfl rfl rfl ?_
  exact h
theorem g32_4_76 {d3 : Value} {x4 : Int32} {x5 : Int32} {E : am_Ev} {I : Nat → Nat → Int32} {J : Nat → Nat → Int64} {S : Nat → Nat → Option Nat} {Q : am_Qt} (hd3 : am_isL d3 = false) (h : (((I 12) 5) ≤ x5 → (Q (.inl (some (.int ((I 77) 6)))) E I J S)) ∧ (¬ ((I 12) 5) ≤ x5 → (am_cl 23 [.ref 77, .ref 12, .int x5, .ref 28] E I J S (q_I fun v1 E1 I1 J1 S1 => (v1 = 0 → (am_ww 32 4 [.ref 76, .ref 12, .ref 28, d3, .int x4, .int (x5 + nI 1)] [] E1 I1 J1 S1 Q)) ∧ (¬ v1 = 0 → ((x4 = 0 → (Q (.inl (some (.int x5))) E1 I1 J1 S1)) ∧ (¬ x4 = 0 → (am_ww 32 4 [.ref 76, .ref 12, .ref 28, d3, .int (x4 - nI 1), .int (x5 + nI 1)] [] E1 I1 J1 S1 Q)))))))) : am_ww 32 4 [.ref 76, .ref 12, .ref 28, d3, .int x4, .int x5] [] E I J S Q := by
  refine w_st (i' := 5) (ls' := [.ref 76, .ref 12, .ref 28, d3, .int x4, .int x5]) (st' := [.int x5]) (E' := E) (I' := I) (J' := J) (S' := S) am_e32 rfl rfl rfl rfl ?_
  refine w_st (i' := 6) (ls' := [.ref 76, .ref 12, .ref 28, d3, .int x4, .int x5]) (st' := [.ref 12, .int x5]) (E' := E) (I' := I) (J' := J) (S' := S) am_e32 rfl rfl rfl rfl ?_
  refine w_st (i' := 7) (ls' := [.ref 76, .ref 12, .ref 28, d3, .int x4, .int x5]) (st' := [.int ((I 12) 5), .int x5]) (E' := E) (I' := I) (J' := J) (S' := S) am_e32 rfl rfl rfl rfl ?_
  refine w_if2 am_e32 rfl rfl (fun c => ?_) (fun c => ?_)
  · replace h := h.1 (of_decide_eq_true c)
    refine w_st (i' := 23) (ls' := [.ref 76, .ref 12, .ref 28, d3, .int x4, .int x5]) (st' := [.ref 76]) (E' := E) (I' := I) (J' := J) (S' := S) am_e32 rfl rfl rfl rfl ?_
    refine w_st (i' := 24) (ls' := [.ref 76, .ref 12, .ref 28, d3, .int x4, .int x5]) (st' := [.ref 77]) (E' := E) (I' := I) (J' := J) (S' := S) am_e32 rfl rfl rfl rfl ?_
    refine w_st (i' := 25) (ls' := [.ref 76, .ref 12, .ref 28, d3, .int x4, .int x5]) (st' := [.int ((I 77) 6)]) (E' := E) (I' := I) (J' := J) (S' := S) am_e32 rfl rfl rfl rfl ?_
    exact w_ri am_e32 rfl rfl h
  · replace h := h.2 (of_decide_eq_false c)
    refine w_st (i' := 9) (ls' := [.ref 76, .ref 12, .ref 28, d3, .int x4, .int x5]) (st' := [.ref 76]) (E' := E) (I' := I) (J' := J) (S' := S) am_e32 rfl rfl rfl rfl ?_
    refine w_st (i' := 10) (ls' := [.ref 76, .ref 12, .ref 28, d3, .int x4, .int x5]) (st' := [.ref 77]) (E' := E) (I' := I) (J' := J) (S' := S) am_e32 rfl rfl rfl rfl ?_
    refine w_st (i' := 11) (ls' := [.ref 76, .ref 12, .ref 28, d3, .int x4, .int x5]) (st' := [.ref 12, .ref 77]) (E' := E) (I' := I) (J' := J) (S' := S) am_e32 rfl rfl rfl rfl ?_
    refine w_st (i' := 12) (ls' := [.ref 76, .ref 12, .ref 28, d3, .int x4, .int x5]) (st' := [.int x5, .ref 12, .ref 77]) (E' := E) (I' := I) (J' := J) (S' := S) am_e32 rfl rfl rfl rfl ?_
    refine w_st (i' := 13) (ls' := [.ref 76, .ref 12, .ref 28, d3, .int x4, .int x5]) (st' := [.ref 28, .int x5, .ref 12, .ref 77]) (E' := E) (I' := I) (J' := J) (S' := S) am_e32 rfl rfl rfl rfl ?_
    refine w_cI am_e32 rfl rfl (as := [.ref 77, .ref 12, .int x5, .ref 28]) (rest := []) rfl rfl (am_ww.mono h ?_)
    rintro _ E1 I1 J1 S1 ⟨v1, rfl, h⟩
    refine q_mkI ?_
    refine w_if1 am_e32 rfl rfl (fun c => ?_) (fun c => ?_)
    · replace h := h.1 (of_decide_eq_true c)
      refine w_st (i' := 21) (ls' := [.ref 76, .ref 12, .ref 28, d3, .int x4, .int (x5 + nI 1)]) (st' := []) (E' := E1) (I' := I1) (J' := J1) (S' := S1) am_e32 rfl rfl rfl rfl ?_
      refine w_st (i' := 4) (ls' := [.ref 76, .ref 12, .ref 28, d3, .int x4, .int (x5 + nI 1)]) (st' := []) (E' := E1) (I' := I1) (J' := J1) (S' := S1) am_e32 rfl rfl rfl rfl ?_
      exact h
    · replace h := h.2 (of_decide_eq_false c)
      refine w_st (i' := 16) (ls' := [.ref 76, .ref 12, .ref 28, d3, .int x4, .int x5]) (st' := [.int x4]) (E' := E1) (I' := I1) (J' := J1) (S' := S1) am_e32 rfl rfl rfl rfl ?_
      refine w_if1 am_e32 rfl rfl (fun c => ?_) (fun c => ?_)
      · replace h := h.2 (of_decide_eq_true c)
        refine w_st (i' := 20) (ls' := [.ref 76, .ref 12, .ref 28, d3, .int (x4 - nI 1), .int x5]) (st' := []) (E' := E1) (I' := I1) (J' := J1) (S' := S1) am_e32 rfl rfl rfl (by simp [am_step, am_sto, am_inc, hd3] <;> rfl) ?_
        refine w_st (i' := 21) (ls' := [.ref 76, .ref 12, .ref 28, d3, .int (x4 - nI 1), .int (x5 + nI 1)]) (st' := []) (E' := E1) (I' := I1) (J' := J1) (S' := S1) am_e32 rfl rfl rfl rfl ?_
        refine w_st (i' := 4) (ls' := [.ref 76, .ref 12, .ref 28, d3, .int (x4 - nI 1), .int (x5 + nI 1)]) (st' := []) (E' := E1) (I' := I1) (J' := J1) (S' := S1) am_e32 rfl rfl rfl rfl ?_
        exact h
      · replace h := h.1 (Decidable.not_not.mp (of_decide_eq_false c))
        refine w_st (i' := 18) (ls' := [.ref 76, .ref 12, .ref 28, d3, .int x4, .int x5]) (st' := [.int x5]) (E' := E1) (I' := I1) (J' := J1) (S' := S1) am_e32 rfl rfl rfl rfl ?_
        exact w_ri am_e32 rfl rfl h
-- 30 advance
theorem g30_0_19 {p3 : Int32} {E : am_Ev} {I : Nat → Nat → Int32} {J : Nat → Nat → Int64} {S : Nat → Nat → Option Nat} {Q : am_Qt}  (h : (((I 19) 2) = 0 → (am_ww 30 18 [.ref 19, .ref 12, .ref 18, .int p3, .ref 28, am_U] [] E (u_I I 19 (upd (I 19) 4 (nI 0))) J S Q)) ∧ (¬ ((I 19) 2) = 0 → (am_cl 23 [.ref 20, .ref 12, .int ((I 20) 6), .ref 28] E (u_I I 19 (upd (I 19) 4 (nI 0))) J S (q_I fun v1 E1 I1 J1 S1 => (v1 = 0 → (am_ww 30 18 [.ref 19, .ref 12, .ref 18, .int p3, .ref 28, am_U] [] E1 I1 J1 S1 Q)) ∧ (¬ v1 = 0 → (am_ww 30 44 [.ref 19, .ref 12, .ref 18, .int p3, .ref 28, am_U] [] E1 I1 J1 S1 Q)))))) : am_ww 30 0 [.ref 19, .ref 12, .ref 18, .int p3, am_U, am_U] [] E I J S Q := by
  refine w_st (i' := 1) (ls' := [.ref 19, .ref 12, .ref 18, .int p3, am_U, am_U]) (st' := [.ref 19]) (E' := E) (I' := I) (J' := J) (S' := S) am_e30 rfl rfl rfl rfl ?_
  refine w_st (i' := 2) (ls' := [.ref 19, .ref 12, .ref 18, .int p3, am_U, am_U]) (st' := [.int (nI 0), .ref 19]) (E' := E) (I' := I) (J' := J) (S' := S) am_e30 rfl rfl rfl rfl ?_
  refine w_st (i' := 3) (ls' := [.ref 19, .ref 12, .ref 18, .int p3, am_U, am_U]) (st' := []) (E' := E) (I' := (u_I I 19 (upd (I 19) 4 (nI 0)))) (J' := J) (S' := S) am_e30 rfl rfl rfl rfl ?_
  refine w_st (i' := 4) (ls' := [.ref 19, .ref 12, .ref 18, .int p3, am_U, am_U]) (st' := [.ref 18]) (E' := E) (I' := (u_I I 19 (upd (I 19) 4 (nI 0)))) (J' := J) (S' := S) am_e30 rfl rfl rfl rfl ?_
  refine w_st (i' := 5) (ls' := [.ref 19, .ref 12, .ref 18, .int p3, am_U, am_U]) (st' := [.ref 28]) (E' := E) (I' := (u_I I 19 (upd (I 19) 4 (nI 0)))) (J' := J) (S' := S) am_e30 rfl rfl rfl rfl ?_
  refine w_st (i' := 6) (ls' := [.ref 19, .ref 12, .ref 18, .int p3, .ref 28, am_U]) (st' := []) (E' := E) (I' := (u_I I 19 (upd (I 19) 4 (nI 0)))) (J' := J) (S' := S) am_e30 rfl rfl rfl rfl ?_
  refine w_st (i' := 7) (ls' := [.ref 19, .ref 12, .ref 18, .int p3, .ref 28, am_U]) (st' := [.ref 19]) (E' := E) (I' := (u_I I 19 (upd (I 19) 4 (nI 0)))) (J' := J) (S' := S) am_e30 rfl rfl rfl rfl ?_
  refine w_st (i' := 8) (ls' := [.ref 19, .ref 12, .ref 18, .int p3, .ref 28, am_U]) (st' := [.int ((I 19) 2)]) (E' := E) (I' := (u_I I 19 (upd (I 19) 4 (nI 0)))) (J' := J) (S' := S) am_e30 rfl rfl rfl rfl ?_
  refine w_if1 am_e30 rfl rfl (fun c => ?_) (fun c => ?_)
  · replace h := h.1 (of_decide_eq_true c)
    exact h
  · replace h := h.2 (of_decide_eq_false c)
    refine w_st (i' := 10) (ls' := [.ref 19, .ref 12, .ref 18, .int p3, .ref 28, am_U]) (st' := [.ref 19]) (E' := E) (I' := (u_I I 19 (upd (I 19) 4 (nI 0)))) (J' := J) (S' := S) am_e30 rfl rfl rfl rfl ?_
    refine w_st (i' := 11) (ls' := [.ref 19, .ref 12, .ref 18, .int p3, .ref 28, am_U]) (st' := [.ref 20]) (E' := E) (I' := (u_I I 19 (upd (I 19) 4 (nI 0)))) (J' := J) (S' := S) am_e30 rfl rfl rfl rfl ?_
    refine w_st (i' := 12) (ls' := [.ref 19, .ref 12, .ref 18, .int p3, .ref 28, am_U]) (st' := [.ref 12, .ref 20]) (E' := E) (I' := (u_I I 19 (upd (I 19) 4 (nI 0)))) (J' := J) (S' := S) am_e30 rfl rfl rfl rfl ?_
    refine w_st (i' := 13) (ls' := [.ref 19, .ref 12, .ref 18, .int p3, .ref 28, am_U]) (st' := [.ref 19, .ref 12, .ref 20]) (E' := E) (I' := (u_I I 19 (upd (I 19) 4 (nI 0)))) (J' := J) (S' := S) am_e30 rfl rfl rfl rfl ?_
    refine w_st (i' := 14) (ls' := [.ref 19, .ref 12, .ref 18, .int p3, .ref 28, am_U]) (st' := [.ref 20, .ref 12, .ref 20]) (E' := E) (I' := (u_I I 19 (upd (I 19) 4 (nI 0)))) (J' := J) (S' := S) am_e30 rfl rfl rfl rfl ?_
    refine w_st (i' := 15) (ls' := [.ref 19, .ref 12, .ref 18, .int p3, .ref 28, am_U]) (st' := [.int ((I 20) 6), .ref 12, .ref 20]) (E' := E) (I' := (u_I I 19 (upd (I 19) 4 (nI 0)))) (J' := J) (S' := S) am_e30 rfl rfl rfl rfl ?_
    refine w_st (i' := 16) (ls' := [.ref 19, .ref 12, .ref 18, .int p3, .ref 28, am_U]) (st' := [.ref 28, .int ((I 20) 6), .ref 12, .ref 20]) (E' := E) (I' := (u_I I 19 (upd (I 19) 4 (nI 0)))) (J' := J) (S' := S) am_e30 rfl rfl rfl rfl ?_
    refine w_cI am_e30 rfl rfl (as := [.ref 20, .ref 12, .int ((I 20) 6), .ref 28]) (rest := []) rfl rfl (am_ww.mono h ?_)
    rintro _ E1 I1 J1 S1 ⟨v1, rfl, h⟩
    refine q_mkI ?_
    refine w_if1 am_e30 rfl rfl (fun c => ?_) (fun c => ?_)
    · replace h := h.2 (of_decide_eq_true c)
      exact h
    · replace h := h.1 (Decidable.not_not.mp (of_decide_eq_false c))
      exact h
theorem g30_18_19 {x3 : Int32} {d5 : Value} {E : am_Ev} {I : Nat → Nat → Int32} {J : Nat → Nat → Int64} {S : Nat → Nat → Option Nat} {Q : am_Qt} (hd5 : am_isL d5 = false) (h : am_cl 22 [.ref 20, .ref 12, .ref 28] E I J S (q_I fun v1 E1 I1 J1 S1 => (v1 = 0 → (Q (.inl (some (.int (nI 0)))) E1 I1 J1 S1)) ∧ (¬ v1 = 0 → (∀ w2 : Int32, w2 = (((((((I1 19) 1) * (nI 1103515245)) + (nI 12345)).toUInt32 >>> ((nI 16).toUInt32 &&& Int32.toUInt32 31)).toInt32) &&& (nI 32767)) → (((nI 1) ≤ v1 → ((¬ v1 = 0) ∧ (am_cl 32 [.ref 19, .ref 12, .ref 28, .int (w2 - w2 / v1 * v1)] E1 (u_I I1 19 (upd (I1 19) 1 ((((I1 19) 1) * (nI 1103515245)) + (nI 12345)))) J1 S1 (q_I fun v3 E3 I3 J3 S3 => am_cl 33 [.ref 19, .int v3] E3 I3 J3 S3 (q_V fun E4 I4 J4 S4 => ∀ w5 : Int32, w5 = (((((((I4 19) 1) * (nI 1103515245)) + (nI 12345)).toUInt32 >>> ((nI 16).toUInt32 &&& Int32.toUInt32 31)).toInt32) &&& (nI 32767)) → (((nI 1) ≤ x3 → ((¬ x3 = 0) ∧ (am_ww 30 44 [.ref 19, .ref 12, .ref 18, .int x3, .ref 28, .int v1] [] E4 (u_I I4 19 (upd (upd (I4 19) 1 ((((I4 19) 1) * (nI 1103515245)) + (nI 12345))) 2 ((w5 - w5 / x3 * x3) + (nI 1)))) J4 S4 Q))) ∧ (¬ (nI 1) ≤ x3 → (am_ww 30 44 [.ref 19, .ref 12, .ref 18, .int x3, .ref 28, .int v1] [] E4 (u_I I4 19 (upd (upd (I4 19) 1 ((((I4 19) 1) * (nI 1103515245)) + (nI 12345))) 2 (nI 1))) J4 S4 Q)))))))) ∧ (¬ (nI 1) ≤ v1 → (am_cl 32 [.ref 19, .ref 12, .ref 28, .int (nI 0)] E1 (u_I I1 19 (upd (I1 19) 1 ((((I1 19) 1) * (nI 1103515245)) + (nI 12345)))) J1 S1 (q_I fun v6 E6 I6 J6 S6 => am_cl 33 [.ref 19, .int v6] E6 I6 J6 S6 (q_V fun E7 I7 J7 S7 => ∀ w8 : Int32, w8 = (((((((I7 19) 1) * (nI 1103515245)) + (nI 12345)).toUInt32 >>> ((nI 16).toUInt32 &&& Int32.toUInt32 31)).toInt32) &&& (nI 32767)) → (((nI 1) ≤ x3 → ((¬ x3 = 0) ∧ (am_ww 30 44 [.ref 19, .ref 12, .ref 18, .int x3, .ref 28, .int v1] [] E7 (u_I I7 19 (upd (upd (I7 19) 1 ((((I7 19) 1) * (nI 1103515245)) + (nI 12345))) 2 ((w8 - w8 / x3 * x3) + (nI 1)))) J7 S7 Q))) ∧ (¬ (nI 1) ≤ x3 → (am_ww 30 44 [.ref 19, .ref 12, .ref 18, .int x3, .ref 28, .int v1] [] E7 (u_I I7 19 (upd (upd (I7 19) 1 ((((I7 19) 1) * (nI 1103515245)) + (nI 12345))) 2 (nI 1))) J7 S7 Q)))))))))))) : am_ww 30 18 [.ref 19, .ref 12, .ref 18, .int x3, .ref 28, d5] [] E I J S Q := by
  refine w_st (i' := 19) (ls' := [.ref 19, .ref 12, .ref 18, .int x3, .ref 28, d5]) (st' := [.ref 19]) (E' := E) (I' := I) (J' := J) (S' := S) am_e30 rfl rfl rfl rfl ?_
  refine w_st (i' := 20) (ls' := [.ref 19, .ref 12, .ref 18, .int x3, .ref 28, d5]) (st' := [.ref 20]) (E' := E) (I' := I) (J' := J) (S' := S) am_e30 rfl rfl rfl rfl ?_
  refine w_st (i' := 21) (ls' := [.ref 19, .ref 12, .ref 18, .int x3, .ref 28, d5]) (st' := [.ref 12, .ref 20]) (E' := E) (I' := I) (J' := J) (S' := S) am_e30 rfl rfl rfl rfl ?_
  refine w_st (i' := 22) (ls' := [.ref 19, .ref 12, .ref 18, .int x3, .ref 28, d5]) (st' := [.ref 28, .ref 12, .ref 20]) (E' := E) (I' := I) (J' := J) (S' := S) am_e30 rfl rfl rfl rfl ?_
  refine w_cI am_e30 rfl rfl (as := [.ref 20, .ref 12, .ref 28]) (rest := []) rfl rfl (am_ww.mono h ?_)
  rintro _ E1 I1 J1 S1 ⟨v1, rfl, h⟩
  refine q_mkI ?_
  refine w_st (i' := 24) (ls' := [.ref 19, .ref 12, .ref 18, .int x3, .ref 28, .int v1]) (st' := []) (E' := E1) (I' := I1) (J' := J1) (S' := S1) am_e30 rfl rfl rfl rfl ?_
  refine w_st (i' := 25) (ls' := [.ref 19, .ref 12, .ref 18, .int x3, .ref 28, .int v1]) (st' := [.int v1]) (E' := E1) (I' := I1) (J' := J1) (S' := S1) am_e30 rfl rfl rfl rfl ?_
  refine w_if1 am_e30 rfl rfl (fun c => ?_) (fun c => ?_)
  · replace h := h.2 (of_decide_eq_true c)
    refine w_st (i' := 29) (ls' := [.ref 19, .ref 12, .ref 18, .int x3, .ref 28, .int v1]) (st' := [.ref 19]) (E' := E1) (I' := I1) (J' := J1) (S' := S1) am_e30 rfl rfl rfl rfl ?_
    refine w_st (i' := 30) (ls' := [.ref 19, .ref 12, .ref 18, .int x3, .ref 28, .int v1]) (st' := [.ref 19, .ref 19]) (E' := E1) (I' := I1) (J' := J1) (S' := S1) am_e30 rfl rfl rfl rfl ?_
    refine w_st (i' := 31) (ls' := [.ref 19, .ref 12, .ref 18, .int x3, .ref 28, .int v1]) (st' := [.ref 12, .ref 19, .ref 19]) (E' := E1) (I' := I1) (J' := J1) (S' := S1) am_e30 rfl rfl rfl rfl ?_
    refine w_st (i' := 32) (ls' := [.ref 19, .ref 12, .ref 18, .int x3, .ref 28, .int v1]) (st' := [.ref 28, .ref 12, .ref 19, .ref 19]) (E' := E1) (I' := I1) (J' := J1) (S' := S1) am_e30 rfl rfl rfl rfl ?_
    refine w_st (i' := 33) (ls' := [.ref 19, .ref 12, .ref 18, .int x3, .ref 28, .int v1]) (st' := [.ref 19, .ref 28, .ref 12, .ref 19, .ref 19]) (E' := E1) (I' := I1) (J' := J1) (S' := S1) am_e30 rfl rfl rfl rfl ?_
    refine w_st (i' := 34) (ls' := [.ref 19, .ref 12, .ref 18, .int x3, .ref 28, .int v1]) (st' := [.int v1, .ref 19, .ref 28, .ref 12, .ref 19, .ref 19]) (E' := E1) (I' := I1) (J' := J1) (S' := S1) am_e30 rfl rfl rfl rfl ?_
    refine w_cI am_e30 rfl rfl (as := [.ref 19, .int v1]) (rest := [.ref 28, .ref 12, .ref 19, .ref 19]) rfl rfl ?_
    show am_ww 31 0 [.ref 19, .int v1, am_U] [] E1 I1 J1 S1 _
    refine w_st (i' := 1) (ls' := [.ref 19, .int v1, am_U]) (st' := [.ref 19]) (E' := E1) (I' := I1) (J' := J1) (S' := S1) am_e31 rfl rfl rfl rfl ?_
    refine w_st (i' := 2) (ls' := [.ref 19, .int v1, am_U]) (st' := [.ref 19, .ref 19]) (E' := E1) (I' := I1) (J' := J1) (S' := S1) am_e31 rfl rfl rfl rfl ?_
    refine w_st (i' := 3) (ls' := [.ref 19, .int v1, am_U]) (st' := [.int ((I1 19) 1), .ref 19]) (E' := E1) (I' := I1) (J' := J1) (S' := S1) am_e31 rfl rfl rfl rfl ?_
    refine w_st (i' := 4) (ls' := [.ref 19, .int v1, am_U]) (st' := [.int (nI 1103515245), .int ((I1 19) 1), .ref 19]) (E' := E1) (I' := I1) (J' := J1) (S' := S1) am_e31 rfl rfl rfl rfl ?_
    refine w_st (i' := 5) (ls' := [.ref 19, .int v1, am_U]) (st' := [.int (((I1 19) 1) * (nI 1103515245)), .ref 19]) (E' := E1) (I' := I1) (J' := J1) (S' := S1) am_e31 rfl rfl rfl rfl ?_
    refine w_st (i' := 6) (ls' := [.ref 19, .int v1, am_U]) (st' := [.int (nI 12345), .int (((I1 19) 1) * (nI 1103515245)), .ref 19]) (E' := E1) (I' := I1) (J' := J1) (S' := S1) am_e31 rfl rfl rfl rfl ?_
    refine w_st (i' := 7) (ls' := [.ref 19, .int v1, am_U]) (st' := [.int ((((I1 19) 1) * (nI 1103515245)) + (nI 12345)), .ref 19]) (E' := E1) (I' := I1) (J' := J1) (S' := S1) am_e31 rfl rfl rfl rfl ?_
    refine w_st (i' := 8) (ls' := [.ref 19, .int v1, am_U]) (st' := []) (E' := E1) (I' := (u_I I1 19 (upd (I1 19) 1 ((((I1 19) 1) * (nI 1103515245)) + (nI 12345))))) (J' := J1) (S' := S1) am_e31 rfl rfl rfl rfl ?_
    refine w_st (i' := 9) (ls' := [.ref 19, .int v1, am_U]) (st' := [.ref 19]) (E' := E1) (I' := (u_I I1 19 (upd (I1 19) 1 ((((I1 19) 1) * (nI 1103515245)) + (nI 12345))))) (J' := J1) (S' := S1) am_e31 rfl rfl rfl rfl ?_
    refine w_st (i' := 10) (ls' := [.ref 19, .int v1, am_U]) (st' := [.int ((((I1 19) 1) * (nI 1103515245)) + (nI 12345))]) (E' := E1) (I' := (u_I I1 19 (upd (I1 19) 1 ((((I1 19) 1) * (nI 1103515245)) + (nI 12345))))) (J' := J1) (S' := S1) am_e31 rfl rfl rfl rfl ?_
    refine w_st (i' := 11) (ls' := [.ref 19, .int v1, am_U]) (st' := [.int (nI 16), .int ((((I1 19) 1) * (nI 1103515245)) + (nI 12345))]) (E' := E1) (I' := (u_I I1 19 (upd (I1 19) 1 ((((I1 19) 1) * (nI 1103515245)) + (nI 12345))))) (J' := J1) (S' := S1) am_e31 rfl rfl rfl rfl ?_
    refine w_st (i' := 12) (ls' := [.ref 19, .int v1, am_U]) (st' := [.int ((((((I1 19) 1) * (nI 1103515245)) + (nI 12345)).toUInt32 >>> ((nI 16).toUInt32 &&& Int32.toUInt32 31)).toInt32)]) (E' := E1) (I' := (u_I I1 19 (upd (I1 19) 1 ((((I1 19) 1) * (nI 1103515245)) + (nI 12345))))) (J' := J1) (S' := S1) am_e31 rfl rfl rfl rfl ?_
    refine w_st (i' := 13) (ls' := [.ref 19, .int v1, am_U]) (st' := [.int (nI 32767), .int ((((((I1 19) 1) * (nI 1103515245)) + (nI 12345)).toUInt32 >>> ((nI 16).toUInt32 &&& Int32.toUInt32 31)).toInt32)]) (E' := E1) (I' := (u_I I1 19 (upd (I1 19) 1 ((((I1 19) 1) * (nI 1103515245)) + (nI 12345))))) (J' := J1) (S' := S1) am_e31 rfl rfl rfl rfl ?_
    refine w_st (i' := 14) (ls' := [.ref 19, .int v1, am_U]) (st' := [.int (((((((I1 19) 1) * (nI 1103515245)) + (nI 12345)).toUInt32 >>> ((nI 16).toUInt32 &&& Int32.toUInt32 31)).toInt32) &&& (nI 32767))]) (E' := E1) (I' := (u_I I1 19 (upd (I1 19) 1 ((((I1 19) 1) * (nI 1103515245)) + (nI 12345))))) (J' := J1) (S' := S1) am_e31 rfl rfl rfl rfl ?_
    refine w_st (i' := 15) (ls' := [.ref 19, .int v1, .int (((((((I1 19) 1) * (nI 1103515245)) + (nI 12345)).toUInt32 >>> ((nI 16).toUInt32 &&& Int32.toUInt32 31)).toInt32) &&& (nI 32767))]) (st' := []) (E' := E1) (I' := (u_I I1 19 (upd (I1 19) 1 ((((I1 19) 1) * (nI 1103515245)) + (nI 12345))))) (J' := J1) (S' := S1) am_e31 rfl rfl rfl rfl ?_
    refine w_var (fun w2 => am_ww 31 15 [.ref 19, .int v1, .int w2] [] E1 (u_I I1 19 (upd (I1 19) 1 ((((I1 19) 1) * (nI 1103515245)) + (nI 12345)))) J1 S1 _) (((((((I1 19) 1) * (nI 1103515245)) + (nI 12345)).toUInt32 >>> ((nI 16).toUInt32 &&& Int32.toUInt32 31)).toInt32) &&& (nI 32767)) (fun w2 hw2 => ?_)
    replace h := h w2 hw2
    refine w_st (i' := 16) (ls' := [.ref 19, .int v1, .int w2]) (st' := [.int v1]) (E' := E1) (I' := (u_I I1 19 (upd (I1 19) 1 ((((I1 19) 1) * (nI 1103515245)) + (nI 12345))))) (J' := J1) (S' := S1) am_e31 rfl rfl rfl rfl ?_
    refine w_st (i' := 17) (ls' := [.ref 19, .int v1, .int w2]) (st' := [.int (nI 1), .int v1]) (E' := E1) (I' := (u_I I1 19 (upd (I1 19) 1 ((((I1 19) 1) * (nI 1103515245)) + (nI 12345))))) (J' := J1) (S' := S1) am_e31 rfl rfl rfl rfl ?_
    refine w_if2 am_e31 rfl rfl (fun c => ?_) (fun c => ?_)
    · replace h := h.1 (of_decide_eq_true c)
      refine w_st (i' := 21) (ls' := [.ref 19, .int v1, .int w2]) (st' := [.int w2]) (E' := E1) (I' := (u_I I1 19 (upd (I1 19) 1 ((((I1 19) 1) * (nI 1103515245)) + (nI 12345))))) (J' := J1) (S' := S1) am_e31 rfl rfl rfl rfl ?_
      refine w_st (i' := 22) (ls' := [.ref 19, .int v1, .int w2]) (st' := [.int v1, .int w2]) (E' := E1) (I' := (u_I I1 19 (upd (I1 19) 1 ((((I1 19) 1) * (nI 1103515245)) + (nI 12345))))) (J' := J1) (S' := S1) am_e31 rfl rfl rfl rfl ?_
      refine w_rm h.1 am_e31 rfl ?_
      replace h := h.2
      refine w_ri am_e31 rfl rfl (q_mkI ?_)
      show am_ww 30 35 [.ref 19, .ref 12, .ref 18, .int x3, .ref 28, .int v1] [.int (w2 - w2 / v1 * v1), .ref 28, .ref 12, .ref 19, .ref 19] E1 (u_I I1 19 (upd (I1 19) 1 ((((I1 19) 1) * (nI 1103515245)) + (nI 12345)))) J1 S1 _
      refine w_cI am_e30 rfl rfl (as := [.ref 19, .ref 12, .ref 28, .int (w2 - w2 / v1 * v1)]) (rest := [.ref 19]) rfl rfl (am_ww.mono h ?_)
      rintro _ E3 I3 J3 S3 ⟨v3, rfl, h⟩
      refine q_mkI ?_
      refine w_cV am_e30 rfl rfl (as := [.ref 19, .int v3]) (rest := []) rfl rfl (am_ww.mono h ?_)
      rintro _ E4 I4 J4 S4 ⟨rfl, h⟩
      refine q_mkV ?_
      refine w_st (i' := 38) (ls' := [.ref 19, .ref 12, .ref 18, .int x3, .ref 28, .int v1]) (st' := [.ref 19]) (E' := E4) (I' := I4) (J' := J4) (S' := S4) am_e30 rfl rfl rfl rfl ?_
      refine w_st (i' := 39) (ls' := [.ref 19, .ref 12, .ref 18, .int x3, .ref 28, .int v1]) (st' := [.ref 19, .ref 19]) (E' := E4) (I' := I4) (J' := J4) (S' := S4) am_e30 rfl rfl rfl rfl ?_
      refine w_st (i' := 40) (ls' := [.ref 19, .ref 12, .ref 18, .int x3, .ref 28, .int v1]) (st' := [.int x3, .ref 19, .ref 19]) (E' := E4) (I' := I4) (J' := J4) (S' := S4) am_e30 rfl rfl rfl rfl ?_
      refine w_cI am_e30 rfl rfl (as := [.ref 19, .int x3]) (rest := [.ref 19]) rfl rfl ?_
      show am_ww 31 0 [.ref 19, .int x3, am_U] [] E4 I4 J4 S4 _
      refine w_st (i' := 1) (ls' := [.ref 19, .int x3, am_U]) (st' := [.ref 19]) (E' := E4) (I' := I4) (J' := J4) (S' := S4) am_e31 rfl rfl rfl rfl ?_
      refine w_st (i' := 2) (ls' := [.ref 19, .int x3, am_U]) (st' := [.ref 19, .ref 19]) (E' := E4) (I' := I4) (J' := J4) (S' := S4) am_e31 rfl rfl rfl rfl ?_
      refine w_st (i' := 3) (ls' := [.ref 19, .int x3, am_U]) (st' := [.int ((I4 19) 1), .ref 19]) (E' := E4) (I' := I4) (J' := J4) (S' := S4) am_e31 rfl rfl rfl rfl ?_
      refine w_st (i' := 4) (ls' := [.ref 19, .int x3, am_U]) (st' := [.int (nI 1103515245), .int ((I4 19) 1), .ref 19]) (E' := E4) (I' := I4) (J' := J4) (S' := S4) am_e31 rfl rfl rfl rfl ?_
      refine w_st (i' := 5) (ls' := [.ref 19, .int x3, am_U]) (st' := [.int (((I4 19) 1) * (nI 1103515245)), .ref 19]) (E' := E4) (I' := I4) (J' := J4) (S' := S4) am_e31 rfl rfl rfl rfl ?_
      refine w_st (i' := 6) (ls' := [.ref 19, .int x3, am_U]) (st' := [.int (nI 12345), .int (((I4 19) 1) * (nI 1103515245)), .ref 19]) (E' := E4) (I' := I4) (J' := J4) (S' := S4) am_e31 rfl rfl rfl rfl ?_
      refine w_st (i' := 7) (ls' := [.ref 19, .int x3, am_U]) (st' := [.int ((((I4 19) 1) * (nI 1103515245)) + (nI 12345)), .ref 19]) (E' := E4) (I' := I4) (J' := J4) (S' := S4) am_e31 rfl rfl rfl rfl ?_
      refine w_st (i' := 8) (ls' := [.ref 19, .int x3, am_U]) (st' := []) (E' := E4) (I' := (u_I I4 19 (upd (I4 19) 1 ((((I4 19) 1) * (nI 1103515245)) + (nI 12345))))) (J' := J4) (S' := S4) am_e31 rfl rfl rfl rfl ?_
      refine w_st (i' := 9) (ls' := [.ref 19, .int x3, am_U]) (st' := [.ref 19]) (E' := E4) (I' := (u_I I4 19 (upd (I4 19) 1 ((((I4 19) 1) * (nI 1103515245)) + (nI 12345))))) (J' := J4) (S' := S4) am_e31 rfl rfl rfl rfl ?_
      refine w_st (i' := 10) (ls' := [.ref 19, .int x3, am_U]) (st' := [.int ((((I4 19) 1) * (nI 1103515245)) + (nI 12345))]) (E' := E4) (I' := (u_I I4 19 (upd (I4 19) 1 ((((I4 19) 1) * (nI 1103515245)) + (nI 12345))))) (J' := J4) (S' := S4) am_e31 rfl rfl rfl rfl ?_
      refine w_st (i' := 11) (ls' := [.ref 19, .int x3, am_U]) (st' := [.int (nI 16), .int ((((I4 19) 1) * (nI 1103515245)) + (nI 12345))]) (E' := E4) (I' := (u_I I4 19 (upd (I4 19) 1 ((((I4 19) 1) * (nI 1103515245)) + (nI 12345))))) (J' := J4) (S' := S4) am_e31 rfl rfl rfl rfl ?_
      refine w_st (i' := 12) (ls' := [.ref 19, .int x3, am_U]) (st' := [.int ((((((I4 19) 1) * (nI 1103515245)) + (nI 12345)).toUInt32 >>> ((nI 16).toUInt32 &&& Int32.toUInt32 31)).toInt32)]) (E' := E4) (I' := (u_I I4 19 (upd (I4 19) 1 ((((I4 19) 1) * (nI 1103515245)) + (nI 12345))))) (J' := J4) (S' := S4) am_e31 rfl rfl rfl rfl ?_
      refine w_st (i' := 13) (ls' := [.ref 19, .int x3, am_U]) (st' := [.int (nI 32767), .int ((((((I4 19) 1) * (nI 1103515245)) + (nI 12345)).toUInt32 >>> ((nI 16).toUInt32 &&& Int32.toUInt32 31)).toInt32)]) (E' := E4) (I' := (u_I I4 19 (upd (I4 19) 1 ((((I4 19) 1) * (nI 1103515245)) + (nI 12345))))) (J' := J4) (S' := S4) am_e31 rfl rfl rfl rfl ?_
      refine w_st (i' := 14) (ls' := [.ref 19, .int x3, am_U]) (st' := [.int (((((((I4 19) 1) * (nI 1103515245)) + (nI 12345)).toUInt32 >>> ((nI 16).toUInt32 &&& Int32.toUInt32 31)).toInt32) &&& (nI 32767))]) (E' := E4) (I' := (u_I I4 19 (upd (I4 19) 1 ((((I4 19) 1) * (nI 1103515245)) + (nI 12345))))) (J' := J4) (S' := S4) am_e31 rfl rfl rfl rfl ?_
      refine w_st (i' := 15) (ls' := [.ref 19, .int x3, .int (((((((I4 19) 1) * (nI 1103515245)) + (nI 12345)).toUInt32 >>> ((nI 16).toUInt32 &&& Int32.toUInt32 31)).toInt32) &&& (nI 32767))]) (st' := []) (E' := E4) (I' := (u_I I4 19 (upd (I4 19) 1 ((((I4 19) 1) * (nI 1103515245)) + (nI 12345))))) (J' := J4) (S' := S4) am_e31 rfl rfl rfl rfl ?_
      refine w_var (fun w5 => am_ww 31 15 [.ref 19, .int x3, .int w5] [] E4 (u_I I4 19 (upd (I4 19) 1 ((((I4 19) 1) * (nI 1103515245)) + (nI 12345)))) J4 S4 _) (((((((I4 19) 1) * (nI 1103515245)) + (nI 12345)).toUInt32 >>> ((nI 16).toUInt32 &&& Int32.toUInt32 31)).toInt32) &&& (nI 32767)) (fun w5 hw5 => ?_)
      replace h := h w5 hw5
      refine w_st (i' := 16) (ls' := [.ref 19, .int x3, .int w5]) (st' := [.int x3]) (E' := E4) (I' := (u_I I4 19 (upd (I4 19) 1 ((((I4 19) 1) * (nI 1103515245)) + (nI 12345))))) (J' := J4) (S' := S4) am_e31 rfl rfl rfl rfl ?_
      refine w_st (i' := 17) (ls' := [.ref 19, .int x3, .int w5]) (st' := [.int (nI 1), .int x3]) (E' := E4) (I' := (u_I I4 19 (upd (I4 19) 1 ((((I4 19) 1) * (nI 1103515245)) + (nI 12345))))) (J' := J4) (S' := S4) am_e31 rfl rfl rfl rfl ?_
      refine w_if2 am_e31 rfl rfl (fun c => ?_) (fun c => ?_)
      · replace h := h.1 (of_decide_eq_true c)
        refine w_st (i' := 21) (ls' := [.ref 19, .int x3, .int w5]) (st' := [.int w5]) (E' := E4) (I' := (u_I I4 19 (upd (I4 19) 1 ((((I4 19) 1) * (nI 1103515245)) + (nI 12345))))) (J' := J4) (S' := S4) am_e31 rfl rfl rfl rfl ?_
        refine w_st (i' := 22) (ls' := [.ref 19, .int x3, .int w5]) (st' := [.int x3, .int w5]) (E' := E4) (I' := (u_I I4 19 (upd (I4 19) 1 ((((I4 19) 1) * (nI 1103515245)) + (nI 12345))))) (J' := J4) (S' := S4) am_e31 rfl rfl rfl rfl ?_
        refine w_rm h.1 am_e31 rfl ?_
        replace h := h.2
        refine w_ri am_e31 rfl rfl (q_mkI ?_)
        show am_ww 30 41 [.ref 19, .ref 12, .ref 18, .int x3, .ref 28, .int v1] [.int (w5 - w5 / x3 * x3), .ref 19] E4 (u_I I4 19 (upd (I4 19) 1 ((((I4 19) 1) * (nI 1103515245)) + (nI 12345)))) J4 S4 _
        refine w_st (i' := 42) (ls' := [.ref 19, .ref 12, .ref 18, .int x3, .ref 28, .int v1]) (st' := [.int (nI 1), .int (w5 - w5 / x3 * x3), .ref 19]) (E' := E4) (I' := (u_I I4 19 (upd (I4 19) 1 ((((I4 19) 1) * (nI 1103515245)) + (nI 12345))))) (J' := J4) (S' := S4) am_e30 rfl rfl rfl rfl ?_
        refine w_st (i' := 43) (ls' := [.ref 19, .ref 12, .ref 18, .int x3, .ref 28, .int v1]) (st' := [.int ((w5 - w5 / x3 * x3) + (nI 1)), .ref 19]) (E' := E4) (I' := (u_I I4 19 (upd (I4 19) 1 ((((I4 19) 1) * (nI 1103515245)) + (nI 12345))))) (J' := J4) (S' := S4) am_e30 rfl rfl rfl rfl ?_
        refine w_st (i' := 44) (ls' := [.ref 19, .ref 12, .ref 18, .int x3, .ref 28, .int v1]) (st' := []) (E' := E4) (I' := (u_I (u_I I4 19 (upd (I4 19) 1 ((((I4 19) 1) * (nI 1103515245)) + (nI 12345)))) 19 (upd (upd (I4 19) 1 ((((I4 19) 1) * (nI 1103515245)) + (nI 12345))) 2 ((w5 - w5 / x3 * x3) + (nI 1))))) (J' := J4) (S' := S4) am_e30 rfl rfl rfl rfl ?_
        refine w_eI (uI_0 ..) ?_
        show am_ww 30 44 [.ref 19, .ref 12, .ref 18, .int x3, .ref 28, .int v1] [] E4 (u_I I4 19 (upd (upd (I4 19) 1 ((((I4 19) 1) * (nI 1103515245)) + (nI 12345))) 2 ((w5 - w5 / x3 * x3) + (nI 1)))) J4 S4 _
        exact h
      · replace h := h.2 (of_decide_eq_false c)
        refine w_st (i' := 19) (ls' := [.ref 19, .int x3, .int w5]) (st' := [.int (nI 0)]) (E' := E4) (I' := (u_I I4 19 (upd (I4 19) 1 ((((I4 19) 1) * (nI 1103515245)) + (nI 12345))))) (J' := J4) (S' := S4) am_e31 rfl rfl rfl rfl ?_
        refine w_st (i' := 23) (ls' := [.ref 19, .int x3, .int w5]) (st' := [.int (nI 0)]) (E' := E4) (I' := (u_I I4 19 (upd (I4 19) 1 ((((I4 19) 1) * (nI 1103515245)) + (nI 12345))))) (J' := J4) (S' := S4) am_e31 rfl rfl rfl rfl ?_
        refine w_end (E' := E4) (I' := (u_I I4 19 (upd (I4 19) 1 ((((I4 19) 1) * (nI 1103515245)) + (nI 12345))))) (J' := J4) (S' := S4) am_e31 rfl rfl rfl (q_mkI ?_)
        show am_ww 30 41 [.ref 19, .ref 12, .ref 18, .int x3, .ref 28, .int v1] [.int (nI 0), .ref 19] E4 (u_I I4 19 (upd (I4 19) 1 ((((I4 19) 1) * (nI 1103515245)) + (nI 12345)))) J4 S4 _
        refine w_st (i' := 42) (ls' := [.ref 19, .ref 12, .ref 18, .int x3, .ref 28, .int v1]) (st' := [.int (nI 1), .int (nI 0), .ref 19]) (E' := E4) (I' := (u_I I4 19 (upd (I4 19) 1 ((((I4 19) 1) * (nI 1103515245)) + (nI 12345))))) (J' := J4) (S' := S4) am_e30 rfl rfl rfl rfl ?_
        refine w_st (i' := 43) (ls' := [.ref 19, .ref 12, .ref 18, .int x3, .ref 28, .int v1]) (st' := [.int (nI 1), .ref 19]) (E' := E4) (I' := (u_I I4 19 (upd (I4 19) 1 ((((I4 19) 1) * (nI 1103515245)) + (nI 12345))))) (J' := J4) (S' := S4) am_e30 rfl rfl rfl rfl ?_
        refine w_st (i' := 44) (ls' := [.ref 19, .ref 12, .ref 18, .int x3, .ref 28, .int v1]) (st' := []) (E' := E4) (I' := (u_I (u_I I4 19 (upd (I4 19) 1 ((((I4 19) 1) * (nI 1103515245)) + (nI 12345)))) 19 (upd (upd (I4 19) 1 ((((I4 19) 1) * (nI 1103515245)) + (nI 12345))) 2 (nI 1)))) (J' := J4) (S' := S4) am_e30 rfl rfl rfl rfl ?_
        refine w_eI (uI_0 ..) ?_
        show am_ww 30 44 [.ref 19, .ref 12, .ref 18, .int x3, .ref 28, .int v1] [] E4 (u_I I4 19 (upd (upd (I4 19) 1 ((((I4 19) 1) * (nI 1103515245)) + (nI 12345))) 2 (nI 1))) J4 S4 _
        exact h
    · replace h := h.2 (of_decide_eq_false c)
      refine w_st (i' := 19) (ls' := [.ref 19, .int v1, .int w2]) (st' := [.int (nI 0)]) (E' := E1) (I' := (u_I I1 19 (upd (I1 19) 1 ((((I1 19) 1) * (nI 1103515245)) + (nI 12345))))) (J' := J1) (S' := S1) am_e31 rfl rfl rfl rfl ?_
      refine w_st (i' := 23) (ls' := [.ref 19, .int v1, .int w2]) (st' := [.int (nI 0)]) (E' := E1) (I' := (u_I I1 19 (upd (I1 19) 1 ((((I1 19) 1) * (nI 1103515245)) + (nI 12345))))) (J' := J1) (S' := S1) am_e31 rfl rfl rfl rfl ?_
      refine w_end (E' := E1) (I' := (u_I I1 19 (upd (I1 19) 1 ((((I1 19) 1) * (nI 1103515245)) + (nI 12345))))) (J' := J1) (S' := S1) am_e31 rfl rfl rfl (q_mkI ?_)
      show am_ww 30 35 [.ref 19, .ref 12, .ref 18, .int x3, .ref 28, .int v1] [.int (nI 0), .ref 28, .ref 12, .ref 19, .ref 19] E1 (u_I I1 19 (upd (I1 19) 1 ((((I1 19) 1) * (nI 1103515245)) + (nI 12345)))) J1 S1 _
      refine w_cI am_e30 rfl rfl (as := [.ref 19, .ref 12, .ref 28, .int (nI 0)]) (rest := [.ref 19]) rfl rfl (am_ww.mono h ?_)
      rintro _ E6 I6 J6 S6 ⟨v6, rfl, h⟩
      refine q_mkI ?_
      refine w_cV am_e30 rfl rfl (as := [.ref 19, .int v6]) (rest := []) rfl rfl (am_ww.mono h ?_)
      rintro _ E7 I7 J7 S7 ⟨rfl, h⟩
      refine q_mkV ?_
      refine w_st (i' := 38) (ls' := [.ref 19, .ref 12, .ref 18, .int x3, .ref 28, .int v1]) (st' := [.ref 19]) (E' := E7) (I' := I7) (J' := J7) (S' := S7) am_e30 rfl rfl rfl rfl ?_
      refine w_st (i' := 39) (ls' := [.ref 19, .ref 12, .ref 18, .int x3, .ref 28, .int v1]) (st' := [.ref 19, .ref 19]) (E' := E7) (I' := I7) (J' := J7) (S' := S7) am_e30 rfl rfl rfl rfl ?_
      refine w_st (i' := 40) (ls' := [.ref 19, .ref 12, .ref 18, .int x3, .ref 28, .int v1]) (st' := [.int x3, .ref 19, .ref 19]) (E' := E7) (I' := I7) (J' := J7) (S' := S7) am_e30 rfl rfl rfl rfl ?_
      refine w_cI am_e30 rfl rfl (as := [.ref 19, .int x3]) (rest := [.ref 19]) rfl rfl ?_
      show am_ww 31 0 [.ref 19, .int x3, am_U] [] E7 I7 J7 S7 _
      refine w_st (i' := 1) (ls' := [.ref 19, .int x3, am_U]) (st' := [.ref 19]) (E' := E7) (I' := I7) (J' := J7) (S' := S7) am_e31 rfl rfl rfl rfl ?_
      refine w_st (i' := 2) (ls' := [.ref 19, .int x3, am_U]) (st' := [.ref 19, .ref 19]) (E' := E7) (I' := I7) (J' := J7) (S' := S7) am_e31 rfl rfl rfl rfl ?_
      refine w_st (i' := 3) (ls' := [.ref 19, .int x3, am_U]) (st' := [.int ((I7 19) 1), .ref 19]) (E' := E7) (I' := I7) (J' := J7) (S' := S7) am_e31 rfl rfl rfl rfl ?_
      refine w_st (i' := 4) (ls' := [.ref 19, .int x3, am_U]) (st' := [.int (nI 1103515245), .int ((I7 19) 1), .ref 19]) (E' := E7) (I' := I7) (J' := J7) (S' := S7) am_e31 rfl rfl rfl rfl ?_
      refine w_st (i' := 5) (ls' := [.ref 19, .int x3, am_U]) (st' := [.int (((I7 19) 1) * (nI 1103515245)), .ref 19]) (E' := E7) (I' := I7) (J' := J7) (S' := S7) am_e31 rfl rfl rfl rfl ?_
      refine w_st (i' := 6) (ls' := [.ref 19, .int x3, am_U]) (st' := [.int (nI 12345), .int (((I7 19) 1) * (nI 1103515245)), .ref 19]) (E' := E7) (I' := I7) (J' := J7) (S' := S7) am_e31 rfl rfl rfl rfl ?_
      refine w_st (i' := 7) (ls' := [.ref 19, .int x3, am_U]) (st' := [.int ((((I7 19) 1) * (nI 1103515245)) + (nI 12345)), .ref 19]) (E' := E7) (I' := I7) (J' := J7) (S' := S7) am_e31 rfl rfl rfl rfl ?_
      refine w_st (i' := 8) (ls' := [.ref 19, .int x3, am_U]) (st' := []) (E' := E7) (I' := (u_I I7 19 (upd (I7 19) 1 ((((I7 19) 1) * (nI 1103515245)) + (nI 12345))))) (J' := J7) (S' := S7) am_e31 rfl rfl rfl rfl ?_
      refine w_st (i' := 9) (ls' := [.ref 19, .int x3, am_U]) (st' := [.ref 19]) (E' := E7) (I' := (u_I I7 19 (upd (I7 19) 1 ((((I7 19) 1) * (nI 1103515245)) + (nI 12345))))) (J' := J7) (S' := S7) am_e31 rfl rfl rfl rfl ?_
      refine w_st (i' := 10) (ls' := [.ref 19, .int x3, am_U]) (st' := [.int ((((I7 19) 1) * (nI 1103515245)) + (nI 12345))]) (E' := E7) (I' := (u_I I7 19 (upd (I7 19) 1 ((((I7 19) 1) * (nI 1103515245)) + (nI 12345))))) (J' := J7) (S' := S7) am_e31 rfl rfl rfl rfl ?_
      refine w_st (i' := 11) (ls' := [.ref 19, .int x3, am_U]) (st' := [.int (nI 16), .int ((((I7 19) 1) * (nI 1103515245)) + (nI 12345))]) (E' := E7) (I' := (u_I I7 19 (upd (I7 19) 1 ((((I7 19) 1) * (nI 1103515245)) + (nI 12345))))) (J' := J7) (S' := S7) am_e31 rfl rfl rfl rfl ?_
      refine w_st (i' := 12) (ls' := [.ref 19, .int x3, am_U]) (st' := [.int ((((((I7 19) 1) * (nI 1103515245)) + (nI 12345)).toUInt32 >>> ((nI 16).toUInt32 &&& Int32.toUInt32 31)).toInt32)]) (E' := E7) (I' := (u_I I7 19 (upd (I7 19) 1 ((((I7 19) 1) * (nI 1103515245)) + (nI 12345))))) (J' := J7) (S' := S7) am_e31 rfl rfl rfl rfl ?_
      refine w_st (i' := 13) (ls' := [.ref 19, .int x3, am_U]) (st' := [.int (nI 32767), .int ((((((I7 19) 1) * (nI 1103515245)) + (nI 12345)).toUInt32 >>> ((nI 16).toUInt32 &&& Int32.toUInt32 31)).toInt32)]) (E' := E7) (I' := (u_I I7 19 (upd (I7 19) 1 ((((I7 19) 1) * (nI 1103515245)) + (nI 12345))))) (J' := J7) (S' := S7) am_e31 rfl rfl rfl rfl ?_
      refine w_st (i' := 14) (ls' := [.ref 19, .int x3, am_U]) (st' := [.int (((((((I7 19) 1) * (nI 1103515245)) + (nI 12345)).toUInt32 >>> ((nI 16).toUInt32 &&& Int32.toUInt32 31)).toInt32) &&& (nI 32767))]) (E' := E7) (I' := (u_I I7 19 (upd (I7 19) 1 ((((I7 19) 1) * (nI 1103515245)) + (nI 12345))))) (J' := J7) (S' := S7) am_e31 rfl rfl rfl rfl ?_
      refine w_st (i' := 15) (ls' := [.ref 19, .int x3, .int (((((((I7 19) 1) * (nI 1103515245)) + (nI 12345)).toUInt32 >>> ((nI 16).toUInt32 &&& Int32.toUInt32 31)).toInt32) &&& (nI 32767))]) (st' := []) (E' := E7) (I' := (u_I I7 19 (upd (I7 19) 1 ((((I7 19) 1) * (nI 1103515245)) + (nI 12345))))) (J' := J7) (S' := S7) am_e31 rfl rfl rfl rfl ?_
      refine w_var (fun w8 => am_ww 31 15 [.ref 19, .int x3, .int w8] [] E7 (u_I I7 19 (upd (I7 19) 1 ((((I7 19) 1) * (nI 1103515245)) + (nI 12345)))) J7 S7 _) (((((((I7 19) 1) * (nI 1103515245)) + (nI 12345)).toUInt32 >>> ((nI 16).toUInt32 &&& Int32.toUInt32 31)).toInt32) &&& (nI 32767)) (fun w8 hw8 => ?_)
      replace h := h w8 hw8
      refine w_st (i' := 16) (ls' := [.ref 19, .int x3, .int w8]) (st' := [.int x3]) (E' := E7) (I' := (u_I I7 19 (upd (I7 19) 1 ((((I7 19) 1) * (nI 1103515245)) + (nI 12345))))) (J' := J7) (S' := S7) am_e31 rfl rfl rfl rfl ?_
      refine w_st (i' := 17) (ls' := [.ref 19, .int x3, .int w8]) (st' := [.int (nI 1), .int x3]) (E' := E7) (I' := (u_I I7 19 (upd (I7 19) 1 ((((I7 19) 1) * (nI 1103515245)) + (nI 12345))))) (J' := J7) (S' := S7) am_e31 rfl rfl rfl rfl ?_
      refine w_if2 am_e31 rfl rfl (fun c => ?_) (fun c => ?_)
      · replace h := h.1 (of_decide_eq_true c)
        refine w_st (i' := 21) (ls' := [.ref 19, .int x3, .int w8]) (st' := [.int w8]) (E' := E7) (I' := (u_I I7 19 (upd (I7 19) 1 ((((I7 19) 1) * (nI 1103515245)) + (nI 12345))))) (J' := J7) (S' := S7) am_e31 rfl rfl rfl rfl ?_
        refine w_st (i' := 22) (ls' := [.ref 19, .int x3, .int w8]) (st' := [.int x3, .int w8]) (E' := E7) (I' := (u_I I7 19 (upd (I7 19) 1 ((((I7 19) 1) * (nI 1103515245)) + (nI 12345))))) (J' := J7) (S' := S7) am_e31 rfl rfl rfl rfl ?_
        refine w_rm h.1 am_e31 rfl ?_
        replace h := h.2
        refine w_ri am_e31 rfl rfl (q_mkI ?_)
        show am_ww 30 41 [.ref 19, .ref 12, .ref 18, .int x3, .ref 28, .int v1] [.int (w8 - w8 / x3 * x3), .ref 19] E7 (u_I I7 19 (upd (I7 19) 1 ((((I7 19) 1) * (nI 1103515245)) + (nI 12345)))) J7 S7 _
        refine w_st (i' := 42) (ls' := [.ref 19, .ref 12, .ref 18, .int x3, .ref 28, .int v1]) (st' := [.int (nI 1), .int (w8 - w8 / x3 * x3), .ref 19]) (E' := E7) (I' := (u_I I7 19 (upd (I7 19) 1 ((((I7 19) 1) * (nI 1103515245)) + (nI 12345))))) (J' := J7) (S' := S7) am_e30 rfl rfl rfl rfl ?_
        refine w_st (i' := 43) (ls' := [.ref 19, .ref 12, .ref 18, .int x3, .ref 28, .int v1]) (st' := [.int ((w8 - w8 / x3 * x3) + (nI 1)), .ref 19]) (E' := E7) (I' := (u_I I7 19 (upd (I7 19) 1 ((((I7 19) 1) * (nI 1103515245)) + (nI 12345))))) (J' := J7) (S' := S7) am_e30 rfl rfl rfl rfl ?_
        refine w_st (i' := 44) (ls' := [.ref 19, .ref 12, .ref 18, .int x3, .ref 28, .int v1]) (st' := []) (E' := E7) (I' := (u_I (u_I I7 19 (upd (I7 19) 1 ((((I7 19) 1) * (nI 1103515245)) + (nI 12345)))) 19 (upd (upd (I7 19) 1 ((((I7 19) 1) * (nI 1103515245)) + (nI 12345))) 2 ((w8 - w8 / x3 * x3) + (nI 1))))) (J' := J7) (S' := S7) am_e30 rfl rfl rfl rfl ?_
        refine w_eI (uI_0 ..) ?_
        show am_ww 30 44 [.ref 19, .ref 12, .ref 18, .int x3, .ref 28, .int v1] [] E7 (u_I I7 19 (upd (upd (I7 19) 1 ((((I7 19) 1) * (nI 1103515245)) + (nI 12345))) 2 ((w8 - w8 / x3 * x3) + (nI 1)))) J7 S7 _
        exact h
      · replace h := h.2 (of_decide_eq_false c)
        refine w_st (i' := 19) (ls' := [.ref 19, .int x3, .int w8]) (st' := [.int (nI 0)]) (E' := E7) (I' := (u_I I7 19 (upd (I7 19) 1 ((((I7 19) 1) * (nI 1103515245)) + (nI 12345))))) (J' := J7) (S' := S7) am_e31 rfl rfl rfl rfl ?_
        refine w_st (i' := 23) (ls' := [.ref 19, .int x3, .int w8]) (st' := [.int (nI 0)]) (E' := E7) (I' := (u_I I7 19 (upd (I7 19) 1 ((((I7 19) 1) * (nI 1103515245)) + (nI 12345))))) (J' := J7) (S' := S7) am_e31 rfl rfl rfl rfl ?_
        refine w_end (E' := E7) (I' := (u_I I7 19 (upd (I7 19) 1 ((((I7 19) 1) * (nI 1103515245)) + (nI 12345))))) (J' := J7) (S' := S7) am_e31 rfl rfl rfl (q_mkI ?_)
        show am_ww 30 41 [.ref 19, .ref 12, .ref 18, .int x3, .ref 28, .int v1] [.int (nI 0), .ref 19] E7 (u_I I7 19 (upd (I7 19) 1 ((((I7 19) 1) * (nI 1103515245)) + (nI 12345)))) J7 S7 _
        refine w_st (i' := 42) (ls' := [.ref 19, .ref 12, .ref 18, .int x3, .ref 28, .int v1]) (st' := [.int (nI 1), .int (nI 0), .ref 19]) (E' := E7) (I' := (u_I I7 19 (upd (I7 19) 1 ((((I7 19) 1) * (nI 1103515245)) + (nI 12345))))) (J' := J7) (S' := S7) am_e30 rfl rfl rfl rfl ?_
        refine w_st (i' := 43) (ls' := [.ref 19, .ref 12, .ref 18, .int x3, .ref 28, .int v1]) (st' := [.int (nI 1), .ref 19]) (E' := E7) (I' := (u_I I7 19 (upd (I7 19) 1 ((((I7 19) 1) * (nI 1103515245)) + (nI 12345))))) (J' := J7) (S' := S7) am_e30 rfl rfl rfl rfl ?_
        refine w_st (i' := 44) (ls' := [.ref 19, .ref 12, .ref 18, .int x3, .ref 28, .int v1]) (st' := []) (E' := E7) (I' := (u_I (u_I I7 19 (upd (I7 19) 1 ((((I7 19) 1) * (nI 1103515245)) + (nI 12345)))) 19 (upd (upd (I7 19) 1 ((((I7 19) 1) * (nI 1103515245)) + (nI 12345))) 2 (nI 1)))) (J' := J7) (S' := S7) am_e30 rfl rfl rfl rfl ?_
        refine w_eI (uI_0 ..) ?_
        show am_ww 30 44 [.ref 19, .ref 12, .ref 18, .int x3, .ref 28, .int v1] [] E7 (u_I I7 19 (upd (upd (I7 19) 1 ((((I7 19) 1) * (nI 1103515245)) + (nI 12345))) 2 (nI 1))) J7 S7 _
        exact h
  · replace h := h.1 (Decidable.not_not.mp (of_decide_eq_false c))
    refine w_st (i' := 27) (ls' := [.ref 19, .ref 12, .ref 18, .int x3, .ref 28, .int v1]) (st' := [.int (nI 0)]) (E' := E1) (I' := I1) (J' := J1) (S' := S1) am_e30 rfl rfl rfl rfl ?_
    exact w_end am_e30 rfl rfl rfl h
theorem g30_44_19 {d3 : Value} {d4 : Value} {d5 : Value} {E : am_Ev} {I : Nat → Nat → Int32} {J : Nat → Nat → Int64} {S : Nat → Nat → Option Nat} {Q : am_Qt} (hd3 : am_isL d3 = false) (hd4 : am_isL d4 = false) (hd5 : am_isL d5 = false) (h : am_cl 24 [.ref 20, .ref 12, .int ((I 20) 6)] E I J S (q_I fun v1 E1 I1 J1 S1 => am_cl 34 [.ref 20, .ref 12] E1 (u_I I1 19 (upd (I1 19) 3 v1)) J1 S1 (q_I fun v2 E2 I2 J2 S2 => (v2 = (-1) → (am_cl 36 [.ref 20, .ref 12, .int (nI 0)] E2 I2 J2 S2 (q_V fun E8 I8 J8 S8 => Q (.inl (some (.int (nI 1)))) E8 (u_I I8 19 (upd (I8 19) 2 (((I8 19) 2) - (nI 1)))) J8 S8))) ∧ (¬ v2 = (-1) → (vp_in v2 3 ∧ (((((I2 26) v2.toNatClampNeg) < 0 → (True)) ∧ (¬ ((I2 26) v2.toNatClampNeg) < 0 → (((nI 30) ≤ ((I2 26) v2.toNatClampNeg) → (True)) ∧ (¬ (nI 30) ≤ ((I2 26) v2.toNatClampNeg) → (vp_in ((v2 * (nI 30)) + ((I2 26) v2.toNatClampNeg)) 90 ∧ True))))) ∧ (∀ w6 : Int32, w6 = (if ((I2 26) v2.toNatClampNeg) < 0 then nI 0 else (if (nI 30) ≤ ((I2 26) v2.toNatClampNeg) then nI 0 else ((I2 27) (((v2 * (nI 30)) + ((I2 26) v2.toNatClampNeg)).toNatClampNeg)))) → (am_cl 36 [.ref 20, .ref 12, .int w6] E2 I2 J2 S2 (q_V fun E7 I7 J7 S7 => Q (.inl (some (.int (nI 1)))) E7 (u_I I7 19 (upd (I7 19) 2 (((I7 19) 2) - (nI 1)))) J7 S7))))))))) : am_ww 30 44 [.ref 19, .ref 12, .ref 18, d3, d4, d5] [] E I J S Q := by
  refine w_st (i' := 45) (ls' := [.ref 19, .ref 12, .ref 18, d3, d4, d5]) (st' := [.ref 19]) (E' := E) (I' := I) (J' := J) (S' := S) am_e30 rfl rfl rfl rfl ?_
  refine w_st (i' := 46) (ls' := [.ref 19, .ref 12, .ref 18, d3, d4, d5]) (st' := [.ref 19, .ref 19]) (E' := E) (I' := I) (J' := J) (S' := S) am_e30 rfl rfl rfl rfl ?_
  refine w_st (i' := 47) (ls' := [.ref 19, .ref 12, .ref 18, d3, d4, d5]) (st' := [.ref 20, .ref 19]) (E' := E) (I' := I) (J' := J) (S' := S) am_e30 rfl rfl rfl rfl ?_
  refine w_st (i' := 48) (ls' := [.ref 19, .ref 12, .ref 18, d3, d4, d5]) (st' := [.ref 12, .ref 20, .ref 19]) (E' := E) (I' := I) (J' := J) (S' := S) am_e30 rfl rfl rfl rfl ?_
  refine w_st (i' := 49) (ls' := [.ref 19, .ref 12, .ref 18, d3, d4, d5]) (st' := [.ref 19, .ref 12, .ref 20, .ref 19]) (E' := E) (I' := I) (J' := J) (S' := S) am_e30 rfl rfl rfl rfl ?_
  refine w_st (i' := 50) (ls' := [.ref 19, .ref 12, .ref 18, d3, d4, d5]) (st' := [.ref 20, .ref 12, .ref 20, .ref 19]) (E' := E) (I' := I) (J' := J) (S' := S) am_e30 rfl rfl rfl rfl ?_
  refine w_st (i' := 51) (ls' := [.ref 19, .ref 12, .ref 18, d3, d4, d5]) (st' := [.int ((I 20) 6), .ref 12, .ref 20, .ref 19]) (E' := E) (I' := I) (J' := J) (S' := S) am_e30 rfl rfl rfl rfl ?_
  refine w_cI am_e30 rfl rfl (as := [.ref 20, .ref 12, .int ((I 20) 6)]) (rest := [.ref 19]) rfl rfl (am_ww.mono h ?_)
  rintro _ E1 I1 J1 S1 ⟨v1, rfl, h⟩
  refine q_mkI ?_
  refine w_st (i' := 53) (ls' := [.ref 19, .ref 12, .ref 18, d3, d4, d5]) (st' := []) (E' := E1) (I' := (u_I I1 19 (upd (I1 19) 3 v1))) (J' := J1) (S' := S1) am_e30 rfl rfl rfl rfl ?_
  refine w_st (i' := 54) (ls' := [.ref 19, .ref 12, .ref 18, d3, d4, d5]) (st' := [.ref 19]) (E' := E1) (I' := (u_I I1 19 (upd (I1 19) 3 v1))) (J' := J1) (S' := S1) am_e30 rfl rfl rfl rfl ?_
  refine w_st (i' := 55) (ls' := [.ref 19, .ref 12, .ref 18, d3, d4, d5]) (st' := [.ref 20]) (E' := E1) (I' := (u_I I1 19 (upd (I1 19) 3 v1))) (J' := J1) (S' := S1) am_e30 rfl rfl rfl rfl ?_
  refine w_st (i' := 56) (ls' := [.ref 19, .ref 12, .ref 18, d3, d4, d5]) (st' := [.ref 12, .ref 20]) (E' := E1) (I' := (u_I I1 19 (upd (I1 19) 3 v1))) (J' := J1) (S' := S1) am_e30 rfl rfl rfl rfl ?_
  refine w_cI am_e30 rfl rfl (as := [.ref 20, .ref 12]) (rest := []) rfl rfl (am_ww.mono h ?_)
  rintro _ E2 I2 J2 S2 ⟨v2, rfl, h⟩
  refine q_mkI ?_
  refine w_st (i' := 58) (ls' := [.ref 19, .ref 12, .ref 18, d3, d4, .int v2]) (st' := []) (E' := E2) (I' := I2) (J' := J2) (S' := S2) am_e30 rfl rfl rfl (by simp [am_step, am_sto, hd4]) ?_
  refine w_st (i' := 59) (ls' := [.ref 19, .ref 12, .ref 18, d3, d4, .int v2]) (st' := [.ref 19]) (E' := E2) (I' := I2) (J' := J2) (S' := S2) am_e30 rfl rfl rfl rfl ?_
  refine w_st (i' := 60) (ls' := [.ref 19, .ref 12, .ref 18, d3, d4, .int v2]) (st' := [.ref 20]) (E' := E2) (I' := I2) (J' := J2) (S' := S2) am_e30 rfl rfl rfl rfl ?_
  refine w_st (i' := 61) (ls' := [.ref 19, .ref 12, .ref 18, d3, d4, .int v2]) (st' := [.ref 12, .ref 20]) (E' := E2) (I' := I2) (J' := J2) (S' := S2) am_e30 rfl rfl rfl rfl ?_
  refine w_st (i' := 62) (ls' := [.ref 19, .ref 12, .ref 18, d3, d4, .int v2]) (st' := [.int v2, .ref 12, .ref 20]) (E' := E2) (I' := I2) (J' := J2) (S' := S2) am_e30 rfl rfl rfl rfl ?_
  refine w_st (i' := 63) (ls' := [.ref 19, .ref 12, .ref 18, d3, d4, .int v2]) (st' := [.int (-1), .int v2, .ref 12, .ref 20]) (E' := E2) (I' := I2) (J' := J2) (S' := S2) am_e30 rfl rfl rfl rfl ?_
  refine w_if2 am_e30 rfl rfl (fun c => ?_) (fun c => ?_)
  · replace h := h.2 (of_decide_eq_true c)
    refine w_st (i' := 67) (ls' := [.ref 19, .ref 12, .ref 18, d3, d4, .int v2]) (st' := [.ref 18, .ref 12, .ref 20]) (E' := E2) (I' := I2) (J' := J2) (S' := S2) am_e30 rfl rfl rfl rfl ?_
    refine w_st (i' := 68) (ls' := [.ref 19, .ref 12, .ref 18, d3, d4, .int v2]) (st' := [.int v2, .ref 18, .ref 12, .ref 20]) (E' := E2) (I' := I2) (J' := J2) (S' := S2) am_e30 rfl rfl rfl rfl ?_
    refine w_st (i' := 69) (ls' := [.ref 19, .ref 12, .ref 18, d3, d4, .int v2]) (st' := [.ref 19, .int v2, .ref 18, .ref 12, .ref 20]) (E' := E2) (I' := I2) (J' := J2) (S' := S2) am_e30 rfl rfl rfl rfl ?_
    refine w_st (i' := 70) (ls' := [.ref 19, .ref 12, .ref 18, d3, d4, .int v2]) (st' := [.ref 20, .int v2, .ref 18, .ref 12, .ref 20]) (E' := E2) (I' := I2) (J' := J2) (S' := S2) am_e30 rfl rfl rfl rfl ?_
    refine w_st (i' := 71) (ls' := [.ref 19, .ref 12, .ref 18, d3, d4, .int v2]) (st' := [.ref 26, .int v2, .ref 18, .ref 12, .ref 20]) (E' := E2) (I' := I2) (J' := J2) (S' := S2) am_e30 rfl rfl rfl rfl ?_
    refine w_st (i' := 72) (ls' := [.ref 19, .ref 12, .ref 18, d3, d4, .int v2]) (st' := [.int v2, .ref 26, .int v2, .ref 18, .ref 12, .ref 20]) (E' := E2) (I' := I2) (J' := J2) (S' := S2) am_e30 rfl rfl rfl rfl ?_
    have hf3 := h.1
    replace h := h.2
    refine w_ia (k := 26) (n := 3) (jn := v2.toNatClampNeg) am_e30 rfl rfl (by decide) hf3 rfl ?_
    refine w_cI am_e30 rfl rfl (as := [.ref 18, .int v2, .int ((I2 26) v2.toNatClampNeg)]) (rest := [.ref 12, .ref 20]) rfl rfl ?_
    show am_ww 35 0 [.ref 18, .int v2, .int ((I2 26) v2.toNatClampNeg)] [] E2 I2 J2 S2 _
    refine w_st (i' := 1) (ls' := [.ref 18, .int v2, .int ((I2 26) v2.toNatClampNeg)]) (st' := [.int ((I2 26) v2.toNatClampNeg)]) (E' := E2) (I' := I2) (J' := J2) (S' := S2) am_e35 rfl rfl rfl rfl ?_
    refine w_mg (i := 15) (ls' := [.ref 18, .int v2, .int ((I2 26) v2.toNatClampNeg)]) (st' := [.int (if ((I2 26) v2.toNatClampNeg) < 0 then nI 0 else (if (nI 30) ≤ ((I2 26) v2.toNatClampNeg) then nI 0 else ((I2 27) (((v2 * (nI 30)) + ((I2 26) v2.toNatClampNeg)).toNatClampNeg))))]) (fun hm => ?_) ?_
    · replace h := h.1
      refine w_if1 am_e35 rfl rfl (fun c => ?_) (fun c => ?_)
      · have m4 : ((I2 26) v2.toNatClampNeg) < 0 := (of_decide_eq_true c)
        replace h := h.1 m4
        refine w_st (i' := 15) (ls' := [.ref 18, .int v2, .int ((I2 26) v2.toNatClampNeg)]) (st' := [.int (nI 0)]) (E' := E2) (I' := I2) (J' := J2) (S' := S2) am_e35 rfl rfl rfl rfl ?_
        first | exact hm | (simp only [if_pos m4] at hm; exact hm)
      · have m4 : ¬ (((I2 26) v2.toNatClampNeg) < 0) := (of_decide_eq_false c)
        replace h := h.2 m4
        refine w_st (i' := 3) (ls' := [.ref 18, .int v2, .int ((I2 26) v2.toNatClampNeg)]) (st' := [.int ((I2 26) v2.toNatClampNeg)]) (E' := E2) (I' := I2) (J' := J2) (S' := S2) am_e35 rfl rfl rfl rfl ?_
        refine w_st (i' := 4) (ls' := [.ref 18, .int v2, .int ((I2 26) v2.toNatClampNeg)]) (st' := [.int (nI 30), .int ((I2 26) v2.toNatClampNeg)]) (E' := E2) (I' := I2) (J' := J2) (S' := S2) am_e35 rfl rfl rfl rfl ?_
        refine w_if2 am_e35 rfl rfl (fun c => ?_) (fun c => ?_)
        · have m5 : (nI 30) ≤ ((I2 26) v2.toNatClampNeg) := (of_decide_eq_true c)
          replace h := h.1 m5
          refine w_st (i' := 15) (ls' := [.ref 18, .int v2, .int ((I2 26) v2.toNatClampNeg)]) (st' := [.int (nI 0)]) (E' := E2) (I' := I2) (J' := J2) (S' := S2) am_e35 rfl rfl rfl rfl ?_
          first | exact hm | (simp only [if_neg m4, if_pos m5] at hm; exact hm)
        · have m5 : ¬ ((nI 30) ≤ ((I2 26) v2.toNatClampNeg)) := (of_decide_eq_false c)
          replace h := h.2 m5
          refine w_st (i' := 6) (ls' := [.ref 18, .int v2, .int ((I2 26) v2.toNatClampNeg)]) (st' := [.ref 18]) (E' := E2) (I' := I2) (J' := J2) (S' := S2) am_e35 rfl rfl rfl rfl ?_
          refine w_st (i' := 7) (ls' := [.ref 18, .int v2, .int ((I2 26) v2.toNatClampNeg)]) (st' := [.ref 27]) (E' := E2) (I' := I2) (J' := J2) (S' := S2) am_e35 rfl rfl rfl rfl ?_
          refine w_st (i' := 8) (ls' := [.ref 18, .int v2, .int ((I2 26) v2.toNatClampNeg)]) (st' := [.int v2, .ref 27]) (E' := E2) (I' := I2) (J' := J2) (S' := S2) am_e35 rfl rfl rfl rfl ?_
          refine w_st (i' := 9) (ls' := [.ref 18, .int v2, .int ((I2 26) v2.toNatClampNeg)]) (st' := [.int (nI 30), .int v2, .ref 27]) (E' := E2) (I' := I2) (J' := J2) (S' := S2) am_e35 rfl rfl rfl rfl ?_
          refine w_st (i' := 10) (ls' := [.ref 18, .int v2, .int ((I2 26) v2.toNatClampNeg)]) (st' := [.int (v2 * (nI 30)), .ref 27]) (E' := E2) (I' := I2) (J' := J2) (S' := S2) am_e35 rfl rfl rfl rfl ?_
          refine w_st (i' := 11) (ls' := [.ref 18, .int v2, .int ((I2 26) v2.toNatClampNeg)]) (st' := [.int ((I2 26) v2.toNatClampNeg), .int (v2 * (nI 30)), .ref 27]) (E' := E2) (I' := I2) (J' := J2) (S' := S2) am_e35 rfl rfl rfl rfl ?_
          refine w_st (i' := 12) (ls' := [.ref 18, .int v2, .int ((I2 26) v2.toNatClampNeg)]) (st' := [.int ((v2 * (nI 30)) + ((I2 26) v2.toNatClampNeg)), .ref 27]) (E' := E2) (I' := I2) (J' := J2) (S' := S2) am_e35 rfl rfl rfl rfl ?_
          refine w_ia (k := 27) (n := 90) (jn := ((v2 * (nI 30)) + ((I2 26) v2.toNatClampNeg)).toNatClampNeg) am_e35 rfl rfl (by decide) h.1 rfl ?_
          replace h := h.2
          show am_ww 35 13 [.ref 18, .int v2, .int ((I2 26) v2.toNatClampNeg)] [.int ((I2 27) (((v2 * (nI 30)) + ((I2 26) v2.toNatClampNeg)).toNatClampNeg))] E2 I2 J2 S2 _
          refine w_st (i' := 15) (ls' := [.ref 18, .int v2, .int ((I2 26) v2.toNatClampNeg)]) (st' := [.int ((I2 27) (((v2 * (nI 30)) + ((I2 26) v2.toNatClampNeg)).toNatClampNeg))]) (E' := E2) (I' := I2) (J' := J2) (S' := S2) am_e35 rfl rfl rfl rfl ?_
          first | exact hm | (simp only [if_neg m4, if_neg m5] at hm; exact hm)
    replace h := h.2
    refine w_var (fun w6 => am_ww 35 15 [.ref 18, .int v2, .int ((I2 26) v2.toNatClampNeg)] [.int w6] E2 I2 J2 S2 _) (if ((I2 26) v2.toNatClampNeg) < 0 then nI 0 else (if (nI 30) ≤ ((I2 26) v2.toNatClampNeg) then nI 0 else ((I2 27) (((v2 * (nI 30)) + ((I2 26) v2.toNatClampNeg)).toNatClampNeg)))) (fun w6 hw6 => ?_)
    replace h := h w6 hw6
    refine w_ri am_e35 rfl rfl (q_mkI ?_)
    show am_ww 30 74 [.ref 19, .ref 12, .ref 18, d3, d4, .int v2] [.int w6, .ref 12, .ref 20] E2 I2 J2 S2 _
    refine w_cV am_e30 rfl rfl (as := [.ref 20, .ref 12, .int w6]) (rest := []) rfl rfl (am_ww.mono h ?_)
    rintro _ E7 I7 J7 S7 ⟨rfl, h⟩
    refine q_mkV ?_
    refine w_st (i' := 76) (ls' := [.ref 19, .ref 12, .ref 18, d3, d4, .int v2]) (st' := [.ref 19]) (E' := E7) (I' := I7) (J' := J7) (S' := S7) am_e30 rfl rfl rfl rfl ?_
    refine w_st (i' := 77) (ls' := [.ref 19, .ref 12, .ref 18, d3, d4, .int v2]) (st' := [.ref 19, .ref 19]) (E' := E7) (I' := I7) (J' := J7) (S' := S7) am_e30 rfl rfl rfl rfl ?_
    refine w_st (i' := 78) (ls' := [.ref 19, .ref 12, .ref 18, d3, d4, .int v2]) (st' := [.int ((I7 19) 2), .ref 19]) (E' := E7) (I' := I7) (J' := J7) (S' := S7) am_e30 rfl rfl rfl rfl ?_
    refine w_st (i' := 79) (ls' := [.ref 19, .ref 12, .ref 18, d3, d4, .int v2]) (st' := [.int (nI 1), .int ((I7 19) 2), .ref 19]) (E' := E7) (I' := I7) (J' := J7) (S' := S7) am_e30 rfl rfl rfl rfl ?_
    refine w_st (i' := 80) (ls' := [.ref 19, .ref 12, .ref 18, d3, d4, .int v2]) (st' := [.int (((I7 19) 2) - (nI 1)), .ref 19]) (E' := E7) (I' := I7) (J' := J7) (S' := S7) am_e30 rfl rfl rfl rfl ?_
    refine w_st (i' := 81) (ls' := [.ref 19, .ref 12, .ref 18, d3, d4, .int v2]) (st' := []) (E' := E7) (I' := (u_I I7 19 (upd (I7 19) 2 (((I7 19) 2) - (nI 1))))) (J' := J7) (S' := S7) am_e30 rfl rfl rfl rfl ?_
    refine w_st (i' := 82) (ls' := [.ref 19, .ref 12, .ref 18, d3, d4, .int v2]) (st' := [.int (nI 1)]) (E' := E7) (I' := (u_I I7 19 (upd (I7 19) 2 (((I7 19) 2) - (nI 1))))) (J' := J7) (S' := S7) am_e30 rfl rfl rfl rfl ?_
    exact w_end am_e30 rfl rfl rfl h
  · replace h := h.1 (Decidable.not_not.mp (of_decide_eq_false c))
    refine w_st (i' := 65) (ls' := [.ref 19, .ref 12, .ref 18, d3, d4, .int v2]) (st' := [.int (nI 0), .ref 12, .ref 20]) (E' := E2) (I' := I2) (J' := J2) (S' := S2) am_e30 rfl rfl rfl rfl ?_
    refine w_st (i' := 74) (ls' := [.ref 19, .ref 12, .ref 18, d3, d4, .int v2]) (st' := [.int (nI 0), .ref 12, .ref 20]) (E' := E2) (I' := I2) (J' := J2) (S' := S2) am_e30 rfl rfl rfl rfl ?_
    refine w_cV am_e30 rfl rfl (as := [.ref 20, .ref 12, .int (nI 0)]) (rest := []) rfl rfl (am_ww.mono h ?_)
    rintro _ E8 I8 J8 S8 ⟨rfl, h⟩
    refine q_mkV ?_
    refine w_st (i' := 76) (ls' := [.ref 19, .ref 12, .ref 18, d3, d4, .int v2]) (st' := [.ref 19]) (E' := E8) (I' := I8) (J' := J8) (S' := S8) am_e30 rfl rfl rfl rfl ?_
    refine w_st (i' := 77) (ls' := [.ref 19, .ref 12, .ref 18, d3, d4, .int v2]) (st' := [.ref 19, .ref 19]) (E' := E8) (I' := I8) (J' := J8) (S' := S8) am_e30 rfl rfl rfl rfl ?_
    refine w_st (i' := 78) (ls' := [.ref 19, .ref 12, .ref 18, d3, d4, .int v2]) (st' := [.int ((I8 19) 2), .ref 19]) (E' := E8) (I' := I8) (J' := J8) (S' := S8) am_e30 rfl rfl rfl rfl ?_
    refine w_st (i' := 79) (ls' := [.ref 19, .ref 12, .ref 18, d3, d4, .int v2]) (st' := [.int (nI 1), .int ((I8 19) 2), .ref 19]) (E' := E8) (I' := I8) (J' := J8) (S' := S8) am_e30 rfl rfl rfl rfl ?_
    refine w_st (i' := 80) (ls' := [.ref 19, .ref 12, .ref 18, d3, d4, .int v2]) (st' := [.int (((I8 19) 2) - (nI 1)), .ref 19]) (E' := E8) (I' := I8) (J' := J8) (S' := S8) am_e30 rfl rfl rfl rfl ?_
    refine w_st (i' := 81) (ls' := [.ref 19, .ref 12, .ref 18, d3, d4, .int v2]) (st' := []) (E' := E8) (I' := (u_I I8 19 (upd (I8 19) 2 (((I8 19) 2) - (nI 1))))) (J' := J8) (S' := S8) am_e30 rfl rfl rfl rfl ?_
    refine w_st (i' := 82) (ls' := [.ref 19, .ref 12, .ref 18, d3, d4, .int v2]) (st' := [.int (nI 1)]) (E' := E8) (I' := (u_I I8 19 (upd (I8 19) 2 (((I8 19) 2) - (nI 1))))) (J' := J8) (S' := S8) am_e30 rfl rfl rfl rfl ?_
    exact w_end am_e30 rfl rfl rfl h
-- 30 advance
theorem g30_0_76 {p3 : Int32} {E : am_Ev} {I : Nat → Nat → Int32} {J : Nat → Nat → Int64} {S : Nat → Nat → Option Nat} {Q : am_Qt}  (h : (((I 76) 2) = 0 → (am_ww 30 18 [.ref 76, .ref 12, .ref 18, .int p3, .ref 28, am_U] [] E (u_I I 76 (upd (I 76) 4 (nI 0))) J S Q)) ∧ (¬ ((I 76) 2) = 0 → (am_cl 23 [.ref 77, .ref 12, .int ((I 77) 6), .ref 28] E (u_I I 76 (upd (I 76) 4 (nI 0))) J S (q_I fun v1 E1 I1 J1 S1 => (v1 = 0 → (am_ww 30 18 [.ref 76, .ref 12, .ref 18, .int p3, .ref 28, am_U] [] E1 I1 J1 S1 Q)) ∧ (¬ v1 = 0 → (am_ww 30 44 [.ref 76, .ref 12, .ref 18, .int p3, .ref 28, am_U] [] E1 I1 J1 S1 Q)))))) : am_ww 30 0 [.ref 76, .ref 12, .ref 18, .int p3, am_U, am_U] [] E I J S Q := by
  refine w_st (i' := 1) (ls' := [.ref 76, .ref 12, .ref 18, .int p3, am_U, am_U]) (st' := [.ref 76]) (E' := E) (I' := I) (J' := J) (S' := S) am_e30 rfl rfl rfl rfl ?_
  refine w_st (i' := 2) (ls' := [.ref 76, .ref 12, .ref 18, .int p3, am_U, am_U]) (st' := [.int (nI 0), .ref 76]) (E' := E) (I' := I) (J' := J) (S' := S) am_e30 rfl rfl rfl rfl ?_
  refine w_st (i' := 3) (ls' := [.ref 76, .ref 12, .ref 18, .int p3, am_U, am_U]) (st' := []) (E' := E) (I' := (u_I I 76 (upd (I 76) 4 (nI 0)))) (J' := J) (S' := S) am_e30 rfl rfl rfl rfl ?_
  refine w_st (i' := 4) (ls' := [.ref 76, .ref 12, .ref 18, .int p3, am_U, am_U]) (st' := [.ref 18]) (E' := E) (I' := (u_I I 76 (upd (I 76) 4 (nI 0)))) (J' := J) (S' := S) am_e30 rfl rfl rfl rfl ?_
  refine w_st (i' := 5) (ls' := [.ref 76, .ref 12, .ref 18, .int p3, am_U, am_U]) (st' := [.ref 28]) (E' := E) (I' := (u_I I 76 (upd (I 76) 4 (nI 0)))) (J' := J) (S' := S) am_e30 rfl rfl rfl rfl ?_
  refine w_st (i' := 6) (ls' := [.ref 76, .ref 12, .ref 18, .int p3, .ref 28, am_U]) (st' := []) (E' := E) (I' := (u_I I 76 (upd (I 76) 4 (nI 0)))) (J' := J) (S' := S) am_e30 rfl rfl rfl rfl ?_
  refine w_st (i' := 7) (ls' := [.ref 76, .ref 12, .ref 18, .int p3, .ref 28, am_U]) (st' := [.ref 76]) (E' := E) (I' := (u_I I 76 (upd (I 76) 4 (nI 0)))) (J' := J) (S' := S) am_e30 rfl rfl rfl rfl ?_
  refine w_st (i' := 8) (ls' := [.ref 76, .ref 12, .ref 18, .int p3, .ref 28, am_U]) (st' := [.int ((I 76) 2)]) (E' := E) (I' := (u_I I 76 (upd (I 76) 4 (nI 0)))) (J' := J) (S' := S) am_e30 rfl rfl rfl rfl ?_
  refine w_if1 am_e30 rfl rfl (fun c => ?_) (fun c => ?_)
  · replace h := h.1 (of_decide_eq_true c)
    exact h
  · replace h := h.2 (of_decide_eq_false c)
    refine w_st (i' := 10) (ls' := [.ref 76, .ref 12, .ref 18, .int p3, .ref 28, am_U]) (st' := [.ref 76]) (E' := E) (I' := (u_I I 76 (upd (I 76) 4 (nI 0)))) (J' := J) (S' := S) am_e30 rfl rfl rfl rfl ?_
    refine w_st (i' := 11) (ls' := [.ref 76, .ref 12, .ref 18, .int p3, .ref 28, am_U]) (st' := [.ref 77]) (E' := E) (I' := (u_I I 76 (upd (I 76) 4 (nI 0)))) (J' := J) (S' := S) am_e30 rfl rfl rfl rfl ?_
    refine w_st (i' := 12) (ls' := [.ref 76, .ref 12, .ref 18, .int p3, .ref 28, am_U]) (st' := [.ref 12, .ref 77]) (E' := E) (I' := (u_I I 76 (upd (I 76) 4 (nI 0)))) (J' := J) (S' := S) am_e30 rfl rfl rfl rfl ?_
    refine w_st (i' := 13) (ls' := [.ref 76, .ref 12, .ref 18, .int p3, .ref 28, am_U]) (st' := [.ref 76, .ref 12, .ref 77]) (E' := E) (I' := (u_I I 76 (upd (I 76) 4 (nI 0)))) (J' := J) (S' := S) am_e30 rfl rfl rfl rfl ?_
    refine w_st (i' := 14) (ls' := [.ref 76, .ref 12, .ref 18, .int p3, .ref 28, am_U]) (st' := [.ref 77, .ref 12, .ref 77]) (E' := E) (I' := (u_I I 76 (upd (I 76) 4 (nI 0)))) (J' := J) (S' := S) am_e30 rfl rfl rfl rfl ?_
    refine w_st (i' := 15) (ls' := [.ref 76, .ref 12, .ref 18, .int p3, .ref 28, am_U]) (st' := [.int ((I 77) 6), .ref 12, .ref 77]) (E' := E) (I' := (u_I I 76 (upd (I 76) 4 (nI 0)))) (J' := J) (S' := S) am_e30 rfl rfl rfl rfl ?_
    refine w_st (i' := 16) (ls' := [.ref 76, .ref 12, .ref 18, .int p3, .ref 28, am_U]) (st' := [.ref 28, .int ((I 77) 6), .ref 12, .ref 77]) (E' := E) (I' := (u_I I 76 (upd (I 76) 4 (nI 0)))) (J' := J) (S' := S) am_e30 rfl rfl rfl rfl ?_
    refine w_cI am_e30 rfl rfl (as := [.ref 77, .ref 12, .int ((I 77) 6), .ref 28]) (rest := []) rfl rfl (am_ww.mono h ?_)
    rintro _ E1 I1 J1 S1 ⟨v1, rfl, h⟩
    refine q_mkI ?_
    refine w_if1 am_e30 rfl rfl (fun c => ?_) (fun c => ?_)
    · replace h := h.2 (of_decide_eq_true c)
      exact h
    · replace h := h.1 (Decidable.not_not.mp (of_decide_eq_false c))
      exact h
theorem g30_18_76 {x3 : Int32} {d5 : Value} {E : am_Ev} {I : Nat → Nat → Int32} {J : Nat → Nat → Int64} {S : Nat → Nat → Option Nat} {Q : am_Qt} (hd5 : am_isL d5 = false) (h : am_cl 22 [.ref 77, .ref 12, .ref 28] E I J S (q_I fun v1 E1 I1 J1 S1 => (v1 = 0 → (Q (.inl (some (.int (nI 0)))) E1 I1 J1 S1)) ∧ (¬ v1 = 0 → (∀ w2 : Int32, w2 = (((((((I1 76) 1) * (nI 1103515245)) + (nI 12345)).toUInt32 >>> ((nI 16).toUInt32 &&& Int32.toUInt32 31)).toInt32) &&& (nI 32767)) → (((nI 1) ≤ v1 → ((¬ v1 = 0) ∧ (am_cl 32 [.ref 76, .ref 12, .ref 28, .int (w2 - w2 / v1 * v1)] E1 (u_I I1 76 (upd (I1 76) 1 ((((I1 76) 1) * (nI 1103515245)) + (nI 12345)))) J1 S1 (q_I fun v3 E3 I3 J3 S3 => am_cl 33 [.ref 76, .int v3] E3 I3 J3 S3 (q_V fun E4 I4 J4 S4 => ∀ w5 : Int32, w5 = (((((((I4 76) 1) * (nI 1103515245)) + (nI 12345)).toUInt32 >>> ((nI 16).toUInt32 &&& Int32.toUInt32 31)).toInt32) &&& (nI 32767)) → (((nI 1) ≤ x3 → ((¬ x3 = 0) ∧ (am_ww 30 44 [.ref 76, .ref 12, .ref 18, .int x3, .ref 28, .int v1] [] E4 (u_I I4 76 (upd (upd (I4 76) 1 ((((I4 76) 1) * (nI 1103515245)) + (nI 12345))) 2 ((w5 - w5 / x3 * x3) + (nI 1)))) J4 S4 Q))) ∧ (¬ (nI 1) ≤ x3 → (am_ww 30 44 [.ref 76, .ref 12, .ref 18, .int x3, .ref 28, .int v1] [] E4 (u_I I4 76 (upd (upd (I4 76) 1 ((((I4 76) 1) * (nI 1103515245)) + (nI 12345))) 2 (nI 1))) J4 S4 Q)))))))) ∧ (¬ (nI 1) ≤ v1 → (am_cl 32 [.ref 76, .ref 12, .ref 28, .int (nI 0)] E1 (u_I I1 76 (upd (I1 76) 1 ((((I1 76) 1) * (nI 1103515245)) + (nI 12345)))) J1 S1 (q_I fun v6 E6 I6 J6 S6 => am_cl 33 [.ref 76, .int v6] E6 I6 J6 S6 (q_V fun E7 I7 J7 S7 => ∀ w8 : Int32, w8 = (((((((I7 76) 1) * (nI 1103515245)) + (nI 12345)).toUInt32 >>> ((nI 16).toUInt32 &&& Int32.toUInt32 31)).toInt32) &&& (nI 32767)) → (((nI 1) ≤ x3 → ((¬ x3 = 0) ∧ (am_ww 30 44 [.ref 76, .ref 12, .ref 18, .int x3, .ref 28, .int v1] [] E7 (u_I I7 76 (upd (upd (I7 76) 1 ((((I7 76) 1) * (nI 1103515245)) + (nI 12345))) 2 ((w8 - w8 / x3 * x3) + (nI 1)))) J7 S7 Q))) ∧ (¬ (nI 1) ≤ x3 → (am_ww 30 44 [.ref 76, .ref 12, .ref 18, .int x3, .ref 28, .int v1] [] E7 (u_I I7 76 (upd (upd (I7 76) 1 ((((I7 76) 1) * (nI 1103515245)) + (nI 12345))) 2 (nI 1))) J7 S7 Q)))))))))))) : am_ww 30 18 [.ref 76, .ref 12, .ref 18, .int x3, .ref 28, d5] [] E I J S Q := by
  refine w_st (i' := 19) (ls' := [.ref 76, .ref 12, .ref 18, .int x3, .ref 28, d5]) (st' := [.ref 76]) (E' := E) (I' := I) (J' := J) (S' := S) am_e30 rfl rfl rfl rfl ?_
  refine w_st (i' := 20) (ls' := [.ref 76, .ref 12, .ref 18, .int x3, .ref 28, d5]) (st' := [.ref 77]) (E' := E) (I' := I) (J' := J) (S' := S) am_e30 rfl rfl rfl rfl ?_
  refine w_st (i' := 21) (ls' := [.ref 76, .ref 12, .ref 18, .int x3, .ref 28, d5]) (st' := [.ref 12, .ref 77]) (E' := E) (I' := I) (J' := J) (S' := S) am_e30 rfl rfl rfl rfl ?_
  refine w_st (i' := 22) (ls' := [.ref 76, .ref 12, .ref 18, .int x3, .ref 28, d5]) (st' := [.ref 28, .ref 12, .ref 77]) (E' := E) (I' := I) (J' := J) (S' := S) am_e30 rfl rfl rfl rfl ?_
  refine w_cI am_e30 rfl rfl (as := [.ref 77, .ref 12, .ref 28]) (rest := []) rfl rfl (am_ww.mono h ?_)
  rintro _ E1 I1 J1 S1 ⟨v1, rfl, h⟩
  refine q_mkI ?_
  refine w_st (i' := 24) (ls' := [.ref 76, .ref 12, .ref 18, .int x3, .ref 28, .int v1]) (st' := []) (E' := E1) (I' := I1) (J' := J1) (S' := S1) am_e30 rfl rfl rfl rfl ?_
  refine w_st (i' := 25) (ls' := [.ref 76, .ref 12, .ref 18, .int x3, .ref 28, .int v1]) (st' := [.int v1]) (E' := E1) (I' := I1) (J' := J1) (S' := S1) am_e30 rfl rfl rfl rfl ?_
  refine w_if1 am_e30 rfl rfl (fun c => ?_) (fun c => ?_)
  · replace h := h.2 (of_decide_eq_true c)
    refine w_st (i' := 29) (ls' := [.ref 76, .ref 12, .ref 18, .int x3, .ref 28, .int v1]) (st' := [.ref 76]) (E' := E1) (I' := I1) (J' := J1) (S' := S1) am_e30 rfl rfl rfl rfl ?_
    refine w_st (i' := 30) (ls' := [.ref 76, .ref 12, .ref 18, .int x3, .ref 28, .int v1]) (st' := [.ref 76, .ref 76]) (E' := E1) (I' := I1) (J' := J1) (S' := S1) am_e30 rfl rfl rfl rfl ?_
    refine w_st (i' := 31) (ls' := [.ref 76, .ref 12, .ref 18, .int x3, .ref 28, .int v1]) (st' := [.ref 12, .ref 76, .ref 76]) (E' := E1) (I' := I1) (J' := J1) (S' := S1) am_e30 rfl rfl rfl rfl ?_
    refine w_st (i' := 32) (ls' := [.ref 76, .ref 12, .ref 18, .int x3, .ref 28, .int v1]) (st' := [.ref 28, .ref 12, .ref 76, .ref 76]) (E' := E1) (I' := I1) (J' := J1) (S' := S1) am_e30 rfl rfl rfl rfl ?_
    refine w_st (i' := 33) (ls' := [.ref 76, .ref 12, .ref 18, .int x3, .ref 28, .int v1]) (st' := [.ref 76, .ref 28, .ref 12, .ref 76, .ref 76]) (E' := E1) (I' := I1) (J' := J1) (S' := S1) am_e30 rfl rfl rfl rfl ?_
    refine w_st (i' := 34) (ls' := [.ref 76, .ref 12, .ref 18, .int x3, .ref 28, .int v1]) (st' := [.int v1, .ref 76, .ref 28, .ref 12, .ref 76, .ref 76]) (E' := E1) (I' := I1) (J' := J1) (S' := S1) am_e30 rfl rfl rfl rfl ?_
    refine w_cI am_e30 rfl rfl (as := [.ref 76, .int v1]) (rest := [.ref 28, .ref 12, .ref 76, .ref 76]) rfl rfl ?_
    show am_ww 31 0 [.ref 76, .int v1, am_U] [] E1 I1 J1 S1 _
    refine w_st (i' := 1) (ls' := [.ref 76, .int v1, am_U]) (st' := [.ref 76]) (E' := E1) (I' := I1) (J' := J1) (S' := S1) am_e31 rfl rfl rfl rfl ?_
    refine w_st (i' := 2) (ls' := [.ref 76, .int v1, am_U]) (st' := [.ref 76, .ref 76]) (E' := E1) (I' := I1) (J' := J1) (S' := S1) am_e31 rfl rfl rfl rfl ?_
    refine w_st (i' := 3) (ls' := [.ref 76, .int v1, am_U]) (st' := [.int ((I1 76) 1), .ref 76]) (E' := E1) (I' := I1) (J' := J1) (S' := S1) am_e31 rfl rfl rfl rfl ?_
    refine w_st (i' := 4) (ls' := [.ref 76, .int v1, am_U]) (st' := [.int (nI 1103515245), .int ((I1 76) 1), .ref 76]) (E' := E1) (I' := I1) (J' := J1) (S' := S1) am_e31 rfl rfl rfl rfl ?_
    refine w_st (i' := 5) (ls' := [.ref 76, .int v1, am_U]) (st' := [.int (((I1 76) 1) * (nI 1103515245)), .ref 76]) (E' := E1) (I' := I1) (J' := J1) (S' := S1) am_e31 rfl rfl rfl rfl ?_
    refine w_st (i' := 6) (ls' := [.ref 76, .int v1, am_U]) (st' := [.int (nI 12345), .int (((I1 76) 1) * (nI 1103515245)), .ref 76]) (E' := E1) (I' := I1) (J' := J1) (S' := S1) am_e31 rfl rfl rfl rfl ?_
    refine w_st (i' := 7) (ls' := [.ref 76, .int v1, am_U]) (st' := [.int ((((I1 76) 1) * (nI 1103515245)) + (nI 12345)), .ref 76]) (E' := E1) (I' := I1) (J' := J1) (S' := S1) am_e31 rfl rfl rfl rfl ?_
    refine w_st (i' := 8) (ls' := [.ref 76, .int v1, am_U]) (st' := []) (E' := E1) (I' := (u_I I1 76 (upd (I1 76) 1 ((((I1 76) 1) * (nI 1103515245)) + (nI 12345))))) (J' := J1) (S' := S1) am_e31 rfl rfl rfl rfl ?_
    refine w_st (i' := 9) (ls' := [.ref 76, .int v1, am_U]) (st' := [.ref 76]) (E' := E1) (I' := (u_I I1 76 (upd (I1 76) 1 ((((I1 76) 1) * (nI 1103515245)) + (nI 12345))))) (J' := J1) (S' := S1) am_e31 rfl rfl rfl rfl ?_
    refine w_st (i' := 10) (ls' := [.ref 76, .int v1, am_U]) (st' := [.int ((((I1 76) 1) * (nI 1103515245)) + (nI 12345))]) (E' := E1) (I' := (u_I I1 76 (upd (I1 76) 1 ((((I1 76) 1) * (nI 1103515245)) + (nI 12345))))) (J' := J1) (S' := S1) am_e31 rfl rfl rfl rfl ?_
    refine w_st (i' := 11) (ls' := [.ref 76, .int v1, am_U]) (st' := [.int (nI 16), .int ((((I1 76) 1) * (nI 1103515245)) + (nI 12345))]) (E' := E1) (I' := (u_I I1 76 (upd (I1 76) 1 ((((I1 76) 1) * (nI 1103515245)) + (nI 12345))))) (J' := J1) (S' := S1) am_e31 rfl rfl rfl rfl ?_
    refine w_st (i' := 12) (ls' := [.ref 76, .int v1, am_U]) (st' := [.int ((((((I1 76) 1) * (nI 1103515245)) + (nI 12345)).toUInt32 >>> ((nI 16).toUInt32 &&& Int32.toUInt32 31)).toInt32)]) (E' := E1) (I' := (u_I I1 76 (upd (I1 76) 1 ((((I1 76) 1) * (nI 1103515245)) + (nI 12345))))) (J' := J1) (S' := S1) am_e31 rfl rfl rfl rfl ?_
    refine w_st (i' := 13) (ls' := [.ref 76, .int v1, am_U]) (st' := [.int (nI 32767), .int ((((((I1 76) 1) * (nI 1103515245)) + (nI 12345)).toUInt32 >>> ((nI 16).toUInt32 &&& Int32.toUInt32 31)).toInt32)]) (E' := E1) (I' := (u_I I1 76 (upd (I1 76) 1 ((((I1 76) 1) * (nI 1103515245)) + (nI 12345))))) (J' := J1) (S' := S1) am_e31 rfl rfl rfl rfl ?_
    refine w_st (i' := 14) (ls' := [.ref 76, .int v1, am_U]) (st' := [.int (((((((I1 76) 1) * (nI 1103515245)) + (nI 12345)).toUInt32 >>> ((nI 16).toUInt32 &&& Int32.toUInt32 31)).toInt32) &&& (nI 32767))]) (E' := E1) (I' := (u_I I1 76 (upd (I1 76) 1 ((((I1 76) 1) * (nI 1103515245)) + (nI 12345))))) (J' := J1) (S' := S1) am_e31 rfl rfl rfl rfl ?_
    refine w_st (i' := 15) (ls' := [.ref 76, .int v1, .int (((((((I1 76) 1) * (nI 1103515245)) + (nI 12345)).toUInt32 >>> ((nI 16).toUInt32 &&& Int32.toUInt32 31)).toInt32) &&& (nI 32767))]) (st' := []) (E' := E1) (I' := (u_I I1 76 (upd (I1 76) 1 ((((I1 76) 1) * (nI 1103515245)) + (nI 12345))))) (J' := J1) (S' := S1) am_e31 rfl rfl rfl rfl ?_
    refine w_var (fun w2 => am_ww 31 15 [.ref 76, .int v1, .int w2] [] E1 (u_I I1 76 (upd (I1 76) 1 ((((I1 76) 1) * (nI 1103515245)) + (nI 12345)))) J1 S1 _) (((((((I1 76) 1) * (nI 1103515245)) + (nI 12345)).toUInt32 >>> ((nI 16).toUInt32 &&& Int32.toUInt32 31)).toInt32) &&& (nI 32767)) (fun w2 hw2 => ?_)
    replace h := h w2 hw2
    refine w_st (i' := 16) (ls' := [.ref 76, .int v1, .int w2]) (st' := [.int v1]) (E' := E1) (I' := (u_I I1 76 (upd (I1 76) 1 ((((I1 76) 1) * (nI 1103515245)) + (nI 12345))))) (J' := J1) (S' := S1) am_e31 rfl rfl rfl rfl ?_
    refine w_st (i' := 17) (ls' := [.ref 76, .int v1, .int w2]) (st' := [.int (nI 1), .int v1]) (E' := E1) (I' := (u_I I1 76 (upd (I1 76) 1 ((((I1 76) 1) * (nI 1103515245)) + (nI 12345))))) (J' := J1) (S' := S1) am_e31 rfl rfl rfl rfl ?_
    refine w_if2 am_e31 rfl rfl (fun c => ?_) (fun c => ?_)
    · replace h := h.1 (of_decide_eq_true c)
      refine w_st (i' := 21) (ls' := [.ref 76, .int v1, .int w2]) (st' := [.int w2]) (E' := E1) (I' := (u_I I1 76 (upd (I1 76) 1 ((((I1 76) 1) * (nI 1103515245)) + (nI 12345))))) (J' := J1) (S' := S1) am_e31 rfl rfl rfl rfl ?_
      refine w_st (i' := 22) (ls' := [.ref 76, .int v1, .int w2]) (st' := [.int v1, .int w2]) (E' := E1) (I' := (u_I I1 76 (upd (I1 76) 1 ((((I1 76) 1) * (nI 1103515245)) + (nI 12345))))) (J' := J1) (S' := S1) am_e31 rfl rfl rfl rfl ?_
      refine w_rm h.1 am_e31 rfl ?_
      replace h := h.2
      refine w_ri am_e31 rfl rfl (q_mkI ?_)
      show am_ww 30 35 [.ref 76, .ref 12, .ref 18, .int x3, .ref 28, .int v1] [.int (w2 - w2 / v1 * v1), .ref 28, .ref 12, .ref 76, .ref 76] E1 (u_I I1 76 (upd (I1 76) 1 ((((I1 76) 1) * (nI 1103515245)) + (nI 12345)))) J1 S1 _
      refine w_cI am_e30 rfl rfl (as := [.ref 76, .ref 12, .ref 28, .int (w2 - w2 / v1 * v1)]) (rest := [.ref 76]) rfl rfl (am_ww.mono h ?_)
      rintro _ E3 I3 J3 S3 ⟨v3, rfl, h⟩
      refine q_mkI ?_
      refine w_cV am_e30 rfl rfl (as := [.ref 76, .int v3]) (rest := []) rfl rfl (am_ww.mono h ?_)
      rintro _ E4 I4 J4 S4 ⟨rfl, h⟩
      refine q_mkV ?_
      refine w_st (i' := 38) (ls' := [.ref 76, .ref 12, .ref 18, .int x3, .ref 28, .int v1]) (st' := [.ref 76]) (E' := E4) (I' := I4) (J' := J4) (S' := S4) am_e30 rfl rfl rfl rfl ?_
      refine w_st (i' := 39) (ls' := [.ref 76, .ref 12, .ref 18, .int x3, .ref 28, .int v1]) (st' := [.ref 76, .ref 76]) (E' := E4) (I' := I4) (J' := J4) (S' := S4) am_e30 rfl rfl rfl rfl ?_
      refine w_st (i' := 40) (ls' := [.ref 76, .ref 12, .ref 18, .int x3, .ref 28, .int v1]) (st' := [.int x3, .ref 76, .ref 76]) (E' := E4) (I' := I4) (J' := J4) (S' := S4) am_e30 rfl rfl rfl rfl ?_
      refine w_cI am_e30 rfl rfl (as := [.ref 76, .int x3]) (rest := [.ref 76]) rfl rfl ?_
      show am_ww 31 0 [.ref 76, .int x3, am_U] [] E4 I4 J4 S4 _
      refine w_st (i' := 1) (ls' := [.ref 76, .int x3, am_U]) (st' := [.ref 76]) (E' := E4) (I' := I4) (J' := J4) (S' := S4) am_e31 rfl rfl rfl rfl ?_
      refine w_st (i' := 2) (ls' := [.ref 76, .int x3, am_U]) (st' := [.ref 76, .ref 76]) (E' := E4) (I' := I4) (J' := J4) (S' := S4) am_e31 rfl rfl rfl rfl ?_
      refine w_st (i' := 3) (ls' := [.ref 76, .int x3, am_U]) (st' := [.int ((I4 76) 1), .ref 76]) (E' := E4) (I' := I4) (J' := J4) (S' := S4) am_e31 rfl rfl rfl rfl ?_
      refine w_st (i' := 4) (ls' := [.ref 76, .int x3, am_U]) (st' := [.int (nI 1103515245), .int ((I4 76) 1), .ref 76]) (E' := E4) (I' := I4) (J' := J4) (S' := S4) am_e31 rfl rfl rfl rfl ?_
      refine w_st (i' := 5) (ls' := [.ref 76, .int x3, am_U]) (st' := [.int (((I4 76) 1) * (nI 1103515245)), .ref 76]) (E' := E4) (I' := I4) (J' := J4) (S' := S4) am_e31 rfl rfl rfl rfl ?_
      refine w_st (i' := 6) (ls' := [.ref 76, .int x3, am_U]) (st' := [.int (nI 12345), .int (((I4 76) 1) * (nI 1103515245)), .ref 76]) (E' := E4) (I' := I4) (J' := J4) (S' := S4) am_e31 rfl rfl rfl rfl ?_
      refine w_st (i' := 7) (ls' := [.ref 76, .int x3, am_U]) (st' := [.int ((((I4 76) 1) * (nI 1103515245)) + (nI 12345)), .ref 76]) (E' := E4) (I' := I4) (J' := J4) (S' := S4) am_e31 rfl rfl rfl rfl ?_
      refine w_st (i' := 8) (ls' := [.ref 76, .int x3, am_U]) (st' := []) (E' := E4) (I' := (u_I I4 76 (upd (I4 76) 1 ((((I4 76) 1) * (nI 1103515245)) + (nI 12345))))) (J' := J4) (S' := S4) am_e31 rfl rfl rfl rfl ?_
      refine w_st (i' := 9) (ls' := [.ref 76, .int x3, am_U]) (st' := [.ref 76]) (E' := E4) (I' := (u_I I4 76 (upd (I4 76) 1 ((((I4 76) 1) * (nI 1103515245)) + (nI 12345))))) (J' := J4) (S' := S4) am_e31 rfl rfl rfl rfl ?_
      refine w_st (i' := 10) (ls' := [.ref 76, .int x3, am_U]) (st' := [.int ((((I4 76) 1) * (nI 1103515245)) + (nI 12345))]) (E' := E4) (I' := (u_I I4 76 (upd (I4 76) 1 ((((I4 76) 1) * (nI 1103515245)) + (nI 12345))))) (J' := J4) (S' := S4) am_e31 rfl rfl rfl rfl ?_
      refine w_st (i' := 11) (ls' := [.ref 76, .int x3, am_U]) (st' := [.int (nI 16), .int ((((I4 76) 1) * (nI 1103515245)) + (nI 12345))]) (E' := E4) (I' := (u_I I4 76 (upd (I4 76) 1 ((((I4 76) 1) * (nI 1103515245)) + (nI 12345))))) (J' := J4) (S' := S4) am_e31 rfl rfl rfl rfl ?_
      refine w_st (i' := 12) (ls' := [.ref 76, .int x3, am_U]) (st' := [.int ((((((I4 76) 1) * (nI 1103515245)) + (nI 12345)).toUInt32 >>> ((nI 16).toUInt32 &&& Int32.toUInt32 31)).toInt32)]) (E' := E4) (I' := (u_I I4 76 (upd (I4 76) 1 ((((I4 76) 1) * (nI 1103515245)) + (nI 12345))))) (J' := J4) (S' := S4) am_e31 rfl rfl rfl rfl ?_
      refine w_st (i' := 13) (ls' := [.ref 76, .int x3, am_U]) (st' := [.int (nI 32767), .int ((((((I4 76) 1) * (nI 1103515245)) + (nI 12345)).toUInt32 >>> ((nI 16).toUInt32 &&& Int32.toUInt32 31)).toInt32)]) (E' := E4) (I' := (u_I I4 76 (upd (I4 76) 1 ((((I4 76) 1) * (nI 1103515245)) + (nI 12345))))) (J' := J4) (S' := S4) am_e31 rfl rfl rfl rfl ?_
      refine w_st (i' := 14) (ls' := [.ref 76, .int x3, am_U]) (st' := [.int (((((((I4 76) 1) * (nI 1103515245)) + (nI 12345)).toUInt32 >>> ((nI 16).toUInt32 &&& Int32.toUInt32 31)).toInt32) &&& (nI 32767))]) (E' := E4) (I' := (u_I I4 76 (upd (I4 76) 1 ((((I4 76) 1) * (nI 1103515245)) + (nI 12345))))) (J' := J4) (S' := S4) am_e31 rfl rfl rfl rfl ?_
      refine w_st (i' := 15) (ls' := [.ref 76, .int x3, .int (((((((I4 76) 1) * (nI 1103515245)) + (nI 12345)).toUInt32 >>> ((nI 16).toUInt32 &&& Int32.toUInt32 31)).toInt32) &&& (nI 32767))]) (st' := []) (E' := E4) (I' := (u_I I4 76 (upd (I4 76) 1 ((((I4 76) 1) * (nI 1103515245)) + (nI 12345))))) (J' := J4) (S' := S4) am_e31 rfl rfl rfl rfl ?_
      refine w_var (fun w5 => am_ww 31 15 [.ref 76, .int x3, .int w5] [] E4 (u_I I4 76 (upd (I4 76) 1 ((((I4 76) 1) * (nI 1103515245)) + (nI 12345)))) J4 S4 _) (((((((I4 76) 1) * (nI 1103515245)) + (nI 12345)).toUInt32 >>> ((nI 16).toUInt32 &&& Int32.toUInt32 31)).toInt32) &&& (nI 32767)) (fun w5 hw5 => ?_)
      replace h := h w5 hw5
      refine w_st (i' := 16) (ls' := [.ref 76, .int x3, .int w5]) (st' := [.int x3]) (E' := E4) (I' := (u_I I4 76 (upd (I4 76) 1 ((((I4 76) 1) * (nI 1103515245)) + (nI 12345))))) (J' := J4) (S' := S4) am_e31 rfl rfl rfl rfl ?_
      refine w_st (i' := 17) (ls' := [.ref 76, .int x3, .int w5]) (st' := [.int (nI 1), .int x3]) (E' := E4) (I' := (u_I I4 76 (upd (I4 76) 1 ((((I4 76) 1) * (nI 1103515245)) + (nI 12345))))) (J' := J4) (S' := S4) am_e31 rfl rfl rfl rfl ?_
      refine w_if2 am_e31 rfl rfl (fun c => ?_) (fun c => ?_)
      · replace h := h.1 (of_decide_eq_true c)
        refine w_st (i' := 21) (ls' := [.ref 76, .int x3, .int w5]) (st' := [.int w5]) (E' := E4) (I' := (u_I I4 76 (upd (I4 76) 1 ((((I4 76) 1) * (nI 1103515245)) + (nI 12345))))) (J' := J4) (S' := S4) am_e31 rfl rfl rfl rfl ?_
        refine w_st (i' := 22) (ls' := [.ref 76, .int x3, .int w5]) (st' := [.int x3, .int w5]) (E' := E4) (I' := (u_I I4 76 (upd (I4 76) 1 ((((I4 76) 1) * (nI 1103515245)) + (nI 12345))))) (J' := J4) (S' := S4) am_e31 rfl rfl rfl rfl ?_
        refine w_rm h.1 am_e31 rfl ?_
        replace h := h.2
        refine w_ri am_e31 rfl rfl (q_mkI ?_)
        show am_ww 30 41 [.ref 76, .ref 12, .ref 18, .int x3, .ref 28, .int v1] [.int (w5 - w5 / x3 * x3), .ref 76] E4 (u_I I4 76 (upd (I4 76) 1 ((((I4 76) 1) * (nI 1103515245)) + (nI 12345)))) J4 S4 _
        refine w_st (i' := 42) (ls' := [.ref 76, .ref 12, .ref 18, .int x3, .ref 28, .int v1]) (st' := [.int (nI 1), .int (w5 - w5 / x3 * x3), .ref 76]) (E' := E4) (I' := (u_I I4 76 (upd (I4 76) 1 ((((I4 76) 1) * (nI 1103515245)) + (nI 12345))))) (J' := J4) (S' := S4) am_e30 rfl rfl rfl rfl ?_
        refine w_st (i' := 43) (ls' := [.ref 76, .ref 12, .ref 18, .int x3, .ref 28, .int v1]) (st' := [.int ((w5 - w5 / x3 * x3) + (nI 1)), .ref 76]) (E' := E4) (I' := (u_I I4 76 (upd (I4 76) 1 ((((I4 76) 1) * (nI 1103515245)) + (nI 12345))))) (J' := J4) (S' := S4) am_e30 rfl rfl rfl rfl ?_
        refine w_st (i' := 44) (ls' := [.ref 76, .ref 12, .ref 18, .int x3, .ref 28, .int v1]) (st' := []) (E' := E4) (I' := (u_I (u_I I4 76 (upd (I4 76) 1 ((((I4 76) 1) * (nI 1103515245)) + (nI 12345)))) 76 (upd (upd (I4 76) 1 ((((I4 76) 1) * (nI 1103515245)) + (nI 12345))) 2 ((w5 - w5 / x3 * x3) + (nI 1))))) (J' := J4) (S' := S4) am_e30 rfl rfl rfl rfl ?_
        refine w_eI (uI_0 ..) ?_
        show am_ww 30 44 [.ref 76, .ref 12, .ref 18, .int x3, .ref 28, .int v1] [] E4 (u_I I4 76 (upd (upd (I4 76) 1 ((((I4 76) 1) * (nI 1103515245)) + (nI 12345))) 2 ((w5 - w5 / x3 * x3) + (nI 1)))) J4 S4 _
        exact h
      · replace h := h.2 (of_decide_eq_false c)
        refine w_st (i' := 19) (ls' := [.ref 76, .int x3, .int w5]) (st' := [.int (nI 0)]) (E' := E4) (I' := (u_I I4 76 (upd (I4 76) 1 ((((I4 76) 1) * (nI 1103515245)) + (nI 12345))))) (J' := J4) (S' := S4) am_e31 rfl rfl rfl rfl ?_
        refine w_st (i' := 23) (ls' := [.ref 76, .int x3, .int w5]) (st' := [.int (nI 0)]) (E' := E4) (I' := (u_I I4 76 (upd (I4 76) 1 ((((I4 76) 1) * (nI 1103515245)) + (nI 12345))))) (J' := J4) (S' := S4) am_e31 rfl rfl rfl rfl ?_
        refine w_end (E' := E4) (I' := (u_I I4 76 (upd (I4 76) 1 ((((I4 76) 1) * (nI 1103515245)) + (nI 12345))))) (J' := J4) (S' := S4) am_e31 rfl rfl rfl (q_mkI ?_)
        show am_ww 30 41 [.ref 76, .ref 12, .ref 18, .int x3, .ref 28, .int v1] [.int (nI 0), .ref 76] E4 (u_I I4 76 (upd (I4 76) 1 ((((I4 76) 1) * (nI 1103515245)) + (nI 12345)))) J4 S4 _
        refine w_st (i' := 42) (ls' := [.ref 76, .ref 12, .ref 18, .int x3, .ref 28, .int v1]) (st' := [.int (nI 1), .int (nI 0), .ref 76]) (E' := E4) (I' := (u_I I4 76 (upd (I4 76) 1 ((((I4 76) 1) * (nI 1103515245)) + (nI 12345))))) (J' := J4) (S' := S4) am_e30 rfl rfl rfl rfl ?_
        refine w_st (i' := 43) (ls' := [.ref 76, .ref 12, .ref 18, .int x3, .ref 28, .int v1]) (st' := [.int (nI 1), .ref 76]) (E' := E4) (I' := (u_I I4 76 (upd (I4 76) 1 ((((I4 76) 1) * (nI 1103515245)) + (nI 12345))))) (J' := J4) (S' := S4) am_e30 rfl rfl rfl rfl ?_
        refine w_st (i' := 44) (ls' := [.ref 76, .ref 12, .ref 18, .int x3, .ref 28, .int v1]) (st' := []) (E' := E4) (I' := (u_I (u_I I4 76 (upd (I4 76) 1 ((((I4 76) 1) * (nI 1103515245)) + (nI 12345)))) 76 (upd (upd (I4 76) 1 ((((I4 76) 1) * (nI 1103515245)) + (nI 12345))) 2 (nI 1)))) (J' := J4) (S' := S4) am_e30 rfl rfl rfl rfl ?_
        refine w_eI (uI_0 ..) ?_
        show am_ww 30 44 [.ref 76, .ref 12, .ref 18, .int x3, .ref 28, .int v1] [] E4 (u_I I4 76 (upd (upd (I4 76) 1 ((((I4 76) 1) * (nI 1103515245)) + (nI 12345))) 2 (nI 1))) J4 S4 _
        exact h
    · replace h := h.2 (of_decide_eq_false c)
      refine w_st (i' := 19) (ls' := [.ref 76, .int v1, .int w2]) (st' := [.int (nI 0)]) (E' := E1) (I' := (u_I I1 76 (upd (I1 76) 1 ((((I1 76) 1) * (nI 1103515245)) + (nI 12345))))) (J' := J1) (S' := S1) am_e31 rfl rfl rfl rfl ?_
      refine w_st (i' := 23) (ls' := [.ref 76, .int v1, .int w2]) (st' := [.int (nI 0)]) (E' := E1) (I' := (u_I I1 76 (upd (I1 76) 1 ((((I1 76) 1) * (nI 1103515245)) + (nI 12345))))) (J' := J1) (S' := S1) am_e31 rfl rfl rfl rfl ?_
      refine w_end (E' := E1) (I' := (u_I I1 76 (upd (I1 76) 1 ((((I1 76) 1) * (nI 1103515245)) + (nI 12345))))) (J' := J1) (S' := S1) am_e31 rfl rfl rfl (q_mkI ?_)
      show am_ww 30 35 [.ref 76, .ref 12, .ref 18, .int x3, .ref 28, .int v1] [.int (nI 0), .ref 28, .ref 12, .ref 76, .ref 76] E1 (u_I I1 76 (upd (I1 76) 1 ((((I1 76) 1) * (nI 1103515245)) + (nI 12345)))) J1 S1 _
      refine w_cI am_e30 rfl rfl (as := [.ref 76, .ref 12, .ref 28, .int (nI 0)]) (rest := [.ref 76]) rfl rfl (am_ww.mono h ?_)
      rintro _ E6 I6 J6 S6 ⟨v6, rfl, h⟩
      refine q_mkI ?_
      refine w_cV am_e30 rfl rfl (as := [.ref 76, .int v6]) (rest := []) rfl rfl (am_ww.mono h ?_)
      rintro _ E7 I7 J7 S7 ⟨rfl, h⟩
      refine q_mkV ?_
      refine w_st (i' := 38) (ls' := [.ref 76, .ref 12, .ref 18, .int x3, .ref 28, .int v1]) (st' := [.ref 76]) (E' := E7) (I' := I7) (J' := J7) (S' := S7) am_e30 rfl rfl rfl rfl ?_
      refine w_st (i' := 39) (ls' := [.ref 76, .ref 12, .ref 18, .int x3, .ref 28, .int v1]) (st' := [.ref 76, .ref 76]) (E' := E7) (I' := I7) (J' := J7) (S' := S7) am_e30 rfl rfl rfl rfl ?_
      refine w_st (i' := 40) (ls' := [.ref 76, .ref 12, .ref 18, .int x3, .ref 28, .int v1]) (st' := [.int x3, .ref 76, .ref 76]) (E' := E7) (I' := I7) (J' := J7) (S' := S7) am_e30 rfl rfl rfl rfl ?_
      refine w_cI am_e30 rfl rfl (as := [.ref 76, .int x3]) (rest := [.ref 76]) rfl rfl ?_
      show am_ww 31 0 [.ref 76, .int x3, am_U] [] E7 I7 J7 S7 _
      refine w_st (i' := 1) (ls' := [.ref 76, .int x3, am_U]) (st' := [.ref 76]) (E' := E7) (I' := I7) (J' := J7) (S' := S7) am_e31 rfl rfl rfl rfl ?_
      refine w_st (i' := 2) (ls' := [.ref 76, .int x3, am_U]) (st' := [.ref 76, .ref 76]) (E' := E7) (I' := I7) (J' := J7) (S' := S7) am_e31 rfl rfl rfl rfl ?_
      refine w_st (i' := 3) (ls' := [.ref 76, .int x3, am_U]) (st' := [.int ((I7 76) 1), .ref 76]) (E' := E7) (I' := I7) (J' := J7) (S' := S7) am_e31 rfl rfl rfl rfl ?_
      refine w_st (i' := 4) (ls' := [.ref 76, .int x3, am_U]) (st' := [.int (nI 1103515245), .int ((I7 76) 1), .ref 76]) (E' := E7) (I' := I7) (J' := J7) (S' := S7) am_e31 rfl rfl rfl rfl ?_
      refine w_st (i' := 5) (ls' := [.ref 76, .int x3, am_U]) (st' := [.int (((I7 76) 1) * (nI 1103515245)), .ref 76]) (E' := E7) (I' := I7) (J' := J7) (S' := S7) am_e31 rfl rfl rfl rfl ?_
      refine w_st (i' := 6) (ls' := [.ref 76, .int x3, am_U]) (st' := [.int (nI 12345), .int (((I7 76) 1) * (nI 1103515245)), .ref 76]) (E' := E7) (I' := I7) (J' := J7) (S' := S7) am_e31 rfl rfl rfl rfl ?_
      refine w_st (i' := 7) (ls' := [.ref 76, .int x3, am_U]) (st' := [.int ((((I7 76) 1) * (nI 1103515245)) + (nI 12345)), .ref 76]) (E' := E7) (I' := I7) (J' := J7) (S' := S7) am_e31 rfl rfl rfl rfl ?_
      refine w_st (i' := 8) (ls' := [.ref 76, .int x3, am_U]) (st' := []) (E' := E7) (I' := (u_I I7 76 (upd (I7 76) 1 ((((I7 76) 1) * (nI 1103515245)) + (nI 12345))))) (J' := J7) (S' := S7) am_e31 rfl rfl rfl rfl ?_
      refine w_st (i' := 9) (ls' := [.ref 76, .int x3, am_U]) (st' := [.ref 76]) (E' := E7) (I' := (u_I I7 76 (upd (I7 76) 1 ((((I7 76) 1) * (nI 1103515245)) + (nI 12345))))) (J' := J7) (S' := S7) am_e31 rfl rfl rfl rfl ?_
      refine w_st (i' := 10) (ls' := [.ref 76, .int x3, am_U]) (st' := [.int ((((I7 76) 1) * (nI 1103515245)) + (nI 12345))]) (E' := E7) (I' := (u_I I7 76 (upd (I7 76) 1 ((((I7 76) 1) * (nI 1103515245)) + (nI 12345))))) (J' := J7) (S' := S7) am_e31 rfl rfl rfl rfl ?_
      refine w_st (i' := 11) (ls' := [.ref 76, .int x3, am_U]) (st' := [.int (nI 16), .int ((((I7 76) 1) * (nI 1103515245)) + (nI 12345))]) (E' := E7) (I' := (u_I I7 76 (upd (I7 76) 1 ((((I7 76) 1) * (nI 1103515245)) + (nI 12345))))) (J' := J7) (S' := S7) am_e31 rfl rfl rfl rfl ?_
      refine w_st (i' := 12) (ls' := [.ref 76, .int x3, am_U]) (st' := [.int ((((((I7 76) 1) * (nI 1103515245)) + (nI 12345)).toUInt32 >>> ((nI 16).toUInt32 &&& Int32.toUInt32 31)).toInt32)]) (E' := E7) (I' := (u_I I7 76 (upd (I7 76) 1 ((((I7 76) 1) * (nI 1103515245)) + (nI 12345))))) (J' := J7) (S' := S7) am_e31 rfl rfl rfl rfl ?_
      refine w_st (i' := 13) (ls' := [.ref 76, .int x3, am_U]) (st' := [.int (nI 32767), .int ((((((I7 76) 1) * (nI 1103515245)) + (nI 12345)).toUInt32 >>> ((nI 16).toUInt32 &&& Int32.toUInt32 31)).toInt32)]) (E' := E7) (I' := (u_I I7 76 (upd (I7 76) 1 ((((I7 76) 1) * (nI 1103515245)) + (nI 12345))))) (J' := J7) (S' := S7) am_e31 rfl rfl rfl rfl ?_
      refine w_st (i' := 14) (ls' := [.ref 76, .int x3, am_U]) (st' := [.int (((((((I7 76) 1) * (nI 1103515245)) + (nI 12345)).toUInt32 >>> ((nI 16).toUInt32 &&& Int32.toUInt32 31)).toInt32) &&& (nI 32767))]) (E' := E7) (I' := (u_I I7 76 (upd (I7 76) 1 ((((I7 76) 1) * (nI 1103515245)) + (nI 12345))))) (J' := J7) (S' := S7) am_e31 rfl rfl rfl rfl ?_
      refine w_st (i' := 15) (ls' := [.ref 76, .int x3, .int (((((((I7 76) 1) * (nI 1103515245)) + (nI 12345)).toUInt32 >>> ((nI 16).toUInt32 &&& Int32.toUInt32 31)).toInt32) &&& (nI 32767))]) (st' := []) (E' := E7) (I' := (u_I I7 76 (upd (I7 76) 1 ((((I7 76) 1) * (nI 1103515245)) + (nI 12345))))) (J' := J7) (S' := S7) am_e31 rfl rfl rfl rfl ?_
      refine w_var (fun w8 => am_ww 31 15 [.ref 76, .int x3, .int w8] [] E7 (u_I I7 76 (upd (I7 76) 1 ((((I7 76) 1) * (nI 1103515245)) + (nI 12345)))) J7 S7 _) (((((((I7 76) 1) * (nI 1103515245)) + (nI 12345)).toUInt32 >>> ((nI 16).toUInt32 &&& Int32.toUInt32 31)).toInt32) &&& (nI 32767)) (fun w8 hw8 => ?_)
      replace h := h w8 hw8
      refine w_st (i' := 16) (ls' := [.ref 76, .int x3, .int w8]) (st' := [.int x3]) (E' := E7) (I' := (u_I I7 76 (upd (I7 76) 1 ((((I7 76) 1) * (nI 1103515245)) + (nI 12345))))) (J' := J7) (S' := S7) am_e31 rfl rfl rfl rfl ?_
      refine w_st (i' := 17) (ls' := [.ref 76, .int x3, .int w8]) (st' := [.int (nI 1), .int x3]) (E' := E7) (I' := (u_I I7 76 (upd (I7 76) 1 ((((I7 76) 1) * (nI 1103515245)) + (nI 12345))))) (J' := J7) (S' := S7) am_e31 rfl rfl rfl rfl ?_
      refine w_if2 am_e31 rfl rfl (fun c => ?_) (fun c => ?_)
      · replace h := h.1 (of_decide_eq_true c)
        refine w_st (i' := 21) (ls' := [.ref 76, .int x3, .int w8]) (st' := [.int w8]) (E' := E7) (I' := (u_I I7 76 (upd (I7 76) 1 ((((I7 76) 1) * (nI 1103515245)) + (nI 12345))))) (J' := J7) (S' := S7) am_e31 rfl rfl rfl rfl ?_
        refine w_st (i' := 22) (ls' := [.ref 76, .int x3, .int w8]) (st' := [.int x3, .int w8]) (E' := E7) (I' := (u_I I7 76 (upd (I7 76) 1 ((((I7 76) 1) * (nI 1103515245)) + (nI 12345))))) (J' := J7) (S' := S7) am_e31 rfl rfl rfl rfl ?_
        refine w_rm h.1 am_e31 rfl ?_
        replace h := h.2
        refine w_ri am_e31 rfl rfl (q_mkI ?_)
        show am_ww 30 41 [.ref 76, .ref 12, .ref 18, .int x3, .ref 28, .int v1] [.int (w8 - w8 / x3 * x3), .ref 76] E7 (u_I I7 76 (upd (I7 76) 1 ((((I7 76) 1) * (nI 1103515245)) + (nI 12345)))) J7 S7 _
        refine w_st (i' := 42) (ls' := [.ref 76, .ref 12, .ref 18, .int x3, .ref 28, .int v1]) (st' := [.int (nI 1), .int (w8 - w8 / x3 * x3), .ref 76]) (E' := E7) (I' := (u_I I7 76 (upd (I7 76) 1 ((((I7 76) 1) * (nI 1103515245)) + (nI 12345))))) (J' := J7) (S' := S7) am_e30 rfl rfl rfl rfl ?_
        refine w_st (i' := 43) (ls' := [.ref 76, .ref 12, .ref 18, .int x3, .ref 28, .int v1]) (st' := [.int ((w8 - w8 / x3 * x3) + (nI 1)), .ref 76]) (E' := E7) (I' := (u_I I7 76 (upd (I7 76) 1 ((((I7 76) 1) * (nI 1103515245)) + (nI 12345))))) (J' := J7) (S' := S7) am_e30 rfl rfl rfl rfl ?_
        refine w_st (i' := 44) (ls' := [.ref 76, .ref 12, .ref 18, .int x3, .ref 28, .int v1]) (st' := []) (E' := E7) (I' := (u_I (u_I I7 76 (upd (I7 76) 1 ((((I7 76) 1) * (nI 1103515245)) + (nI 12345)))) 76 (upd (upd (I7 76) 1 ((((I7 76) 1) * (nI 1103515245)) + (nI 12345))) 2 ((w8 - w8 / x3 * x3) + (nI 1))))) (J' := J7) (S' := S7) am_e30 rfl rfl rfl rfl ?_
        refine w_eI (uI_0 ..) ?_
        show am_ww 30 44 [.ref 76, .ref 12, .ref 18, .int x3, .ref 28, .int v1] [] E7 (u_I I7 76 (upd (upd (I7 76) 1 ((((I7 76) 1) * (nI 1103515245)) + (nI 12345))) 2 ((w8 - w8 / x3 * x3) + (nI 1)))) J7 S7 _
        exact h
      · replace h := h.2 (of_decide_eq_false c)
        refine w_st (i' := 19) (ls' := [.ref 76, .int x3, .int w8]) (st' := [.int (nI 0)]) (E' := E7) (I' := (u_I I7 76 (upd (I7 76) 1 ((((I7 76) 1) * (nI 1103515245)) + (nI 12345))))) (J' := J7) (S' := S7) am_e31 rfl rfl rfl rfl ?_
        refine w_st (i' := 23) (ls' := [.ref 76, .int x3, .int w8]) (st' := [.int (nI 0)]) (E' := E7) (I' := (u_I I7 76 (upd (I7 76) 1 ((((I7 76) 1) * (nI 1103515245)) + (nI 12345))))) (J' := J7) (S' := S7) am_e31 rfl rfl rfl rfl ?_
        refine w_end (E' := E7) (I' := (u_I I7 76 (upd (I7 76) 1 ((((I7 76) 1) * (nI 1103515245)) + (nI 12345))))) (J' := J7) (S' := S7) am_e31 rfl rfl rfl (q_mkI ?_)
        show am_ww 30 41 [.ref 76, .ref 12, .ref 18, .int x3, .ref 28, .int v1] [.int (nI 0), .ref 76] E7 (u_I I7 76 (upd (I7 76) 1 ((((I7 76) 1) * (nI 1103515245)) + (nI 12345)))) J7 S7 _
        refine w_st (i' := 42) (ls' := [.ref 76, .ref 12, .ref 18, .int x3, .ref 28, .int v1]) (st' := [.int (nI 1), .int (nI 0), .ref 76]) (E' := E7) (I' := (u_I I7 76 (upd (I7 76) 1 ((((I7 76) 1) * (nI 1103515245)) + (nI 12345))))) (J' := J7) (S' := S7) am_e30 rfl rfl rfl rfl ?_
        refine w_st (i' := 43) (ls' := [.ref 76, .ref 12, .ref 18, .int x3, .ref 28, .int v1]) (st' := [.int (nI 1), .ref 76]) (E' := E7) (I' := (u_I I7 76 (upd (I7 76) 1 ((((I7 76) 1) * (nI 1103515245)) + (nI 12345))))) (J' := J7) (S' := S7) am_e30 rfl rfl rfl rfl ?_
        refine w_st (i' := 44) (ls' := [.ref 76, .ref 12, .ref 18, .int x3, .ref 28, .int v1]) (st' := []) (E' := E7) (I' := (u_I (u_I I7 76 (upd (I7 76) 1 ((((I7 76) 1) * (nI 1103515245)) + (nI 12345)))) 76 (upd (upd (I7 76) 1 ((((I7 76) 1) * (nI 1103515245)) + (nI 12345))) 2 (nI 1)))) (J' := J7) (S' := S7) am_e30 rfl rfl rfl rfl ?_
        refine w_eI (uI_0 ..) ?_
        show am_ww 30 44 [.ref 76, .ref 12, .ref 18, .int x3, .ref 28, .int v1] [] E7 (u_I I7 76 (upd (upd (I7 76) 1 ((((I7 76) 1) * (nI 1103515245)) + (nI 12345))) 2 (nI 1))) J7 S7 _
        exact h
  · replace h := h.1 (Decidable.not_not.mp (of_decide_eq_false c))
    refine w_st (i' := 27) (ls' := [.ref 76, .ref 12, .ref 18, .int x3, .ref 28, .int v1]) (st' := [.int (nI 0)]) (E' := E1) (I' := I1) (J' := J1) (S' := S1) am_e30 rfl rfl rfl rfl ?_
    exact w_end am_e30 rfl rfl rfl h
theorem g30_44_76 {d3 : Value} {d4 : Value} {d5 : Value} {E : am_Ev} {I : Nat → Nat → Int32} {J : Nat → Nat → Int64} {S : Nat → Nat → Option Nat} {Q : am_Qt} (hd3 : am_isL d3 = false) (hd4 : am_isL d4 = false) (hd5 : am_isL d5 = false) (h : am_cl 24 [.ref 77, .ref 12, .int ((I 77) 6)] E I J S (q_I fun v1 E1 I1 J1 S1 => am_cl 34 [.ref 77, .ref 12] E1 (u_I I1 76 (upd (I1 76) 3 v1)) J1 S1 (q_I fun v2 E2 I2 J2 S2 => (v2 = (-1) → (am_cl 36 [.ref 77, .ref 12, .int (nI 0)] E2 I2 J2 S2 (q_V fun E8 I8 J8 S8 => Q (.inl (some (.int (nI 1)))) E8 (u_I I8 76 (upd (I8 76) 2 (((I8 76) 2) - (nI 1)))) J8 S8))) ∧ (¬ v2 = (-1) → (vp_in v2 3 ∧ (((((I2 83) v2.toNatClampNeg) < 0 → (True)) ∧ (¬ ((I2 83) v2.toNatClampNeg) < 0 → (((nI 30) ≤ ((I2 83) v2.toNatClampNeg) → (True)) ∧ (¬ (nI 30) ≤ ((I2 83) v2.toNatClampNeg) → (vp_in ((v2 * (nI 30)) + ((I2 83) v2.toNatClampNeg)) 90 ∧ True))))) ∧ (∀ w6 : Int32, w6 = (if ((I2 83) v2.toNatClampNeg) < 0 then nI 0 else (if (nI 30) ≤ ((I2 83) v2.toNatClampNeg) then nI 0 else ((I2 27) (((v2 * (nI 30)) + ((I2 83) v2.toNatClampNeg)).toNatClampNeg)))) → (am_cl 36 [.ref 77, .ref 12, .int w6] E2 I2 J2 S2 (q_V fun E7 I7 J7 S7 => Q (.inl (some (.int (nI 1)))) E7 (u_I I7 76 (upd (I7 76) 2 (((I7 76) 2) - (nI 1)))) J7 S7))))))))) : am_ww 30 44 [.ref 76, .ref 12, .ref 18, d3, d4, d5] [] E I J S Q := by
  refine w_st (i' := 45) (ls' := [.ref 76, .ref 12, .ref 18, d3, d4, d5]) (st' := [.ref 76]) (E' := E) (I' := I) (J' := J) (S' := S) am_e30 rfl rfl rfl rfl ?_
  refine w_st (i' := 46) (ls' := [.ref 76, .ref 12, .ref 18, d3, d4, d5]) (st' := [.ref 76, .ref 76]) (E' := E) (I' := I) (J' := J) (S' := S) am_e30 rfl rfl rfl rfl ?_
  refine w_st (i' := 47) (ls' := [.ref 76, .ref 12, .ref 18, d3, d4, d5]) (st' := [.ref 77, .ref 76]) (E' := E) (I' := I) (J' := J) (S' := S) am_e30 rfl rfl rfl rfl ?_
  refine w_st (i' := 48) (ls' := [.ref 76, .ref 12, .ref 18, d3, d4, d5]) (st' := [.ref 12, .ref 77, .ref 76]) (E' := E) (I' := I) (J' := J) (S' := S) am_e30 rfl rfl rfl rfl ?_
  refine w_st (i' := 49) (ls' := [.ref 76, .ref 12, .ref 18, d3, d4, d5]) (st' := [.ref 76, .ref 12, .ref 77, .ref 76]) (E' := E) (I' := I) (J' := J) (S' := S) am_e30 rfl rfl rfl rfl ?_
  refine w_st (i' := 50) (ls' := [.ref 76, .ref 12, .ref 18, d3, d4, d5]) (st' := [.ref 77, .ref 12, .ref 77, .ref 76]) (E' := E) (I' := I) (J' := J) (S' := S) am_e30 rfl rfl rfl rfl ?_
  refine w_st (i' := 51) (ls' := [.ref 76, .ref 12, .ref 18, d3, d4, d5]) (st' := [.int ((I 77) 6), .ref 12, .ref 77, .ref 76]) (E' := E) (I' := I) (J' := J) (S' := S) am_e30 rfl rfl rfl rfl ?_
  refine w_cI am_e30 rfl rfl (as := [.ref 77, .ref 12, .int ((I 77) 6)]) (rest := [.ref 76]) rfl rfl (am_ww.mono h ?_)
  rintro _ E1 I1 J1 S1 ⟨v1, rfl, h⟩
  refine q_mkI ?_
  refine w_st (i' := 53) (ls' := [.ref 76, .ref 12, .ref 18, d3, d4, d5]) (st' := []) (E' := E1) (I' := (u_I I1 76 (upd (I1 76) 3 v1))) (J' := J1) (S' := S1) am_e30 rfl rfl rfl rfl ?_
  refine w_st (i' := 54) (ls' := [.ref 76, .ref 12, .ref 18, d3, d4, d5]) (st' := [.ref 76]) (E' := E1) (I' := (u_I I1 76 (upd (I1 76) 3 v1))) (J' := J1) (S' := S1) am_e30 rfl rfl rfl rfl ?_
  refine w_st (i' := 55) (ls' := [.ref 76, .ref 12, .ref 18, d3, d4, d5]) (st' := [.ref 77]) (E' := E1) (I' := (u_I I1 76 (upd (I1 76) 3 v1))) (J' := J1) (S' := S1) am_e30 rfl rfl rfl rfl ?_
  refine w_st (i' := 56) (ls' := [.ref 76, .ref 12, .ref 18, d3, d4, d5]) (st' := [.ref 12, .ref 77]) (E' := E1) (I' := (u_I I1 76 (upd (I1 76) 3 v1))) (J' := J1) (S' := S1) am_e30 rfl rfl rfl rfl ?_
  refine w_cI am_e30 rfl rfl (as := [.ref 77, .ref 12]) (rest := []) rfl rfl (am_ww.mono h ?_)
  rintro _ E2 I2 J2 S2 ⟨v2, rfl, h⟩
  refine q_mkI ?_
  refine w_st (i' := 58) (ls' := [.ref 76, .ref 12, .ref 18, d3, d4, .int v2]) (st' := []) (E' := E2) (I' := I2) (J' := J2) (S' := S2) am_e30 rfl rfl rfl (by simp [am_step, am_sto, hd4]) ?_
  refine w_st (i' := 59) (ls' := [.ref 76, .ref 12, .ref 18, d3, d4, .int v2]) (st' := [.ref 76]) (E' := E2) (I' := I2) (J' := J2) (S' := S2) am_e30 rfl rfl rfl rfl ?_
  refine w_st (i' := 60) (ls' := [.ref 76, .ref 12, .ref 18, d3, d4, .int v2]) (st' := [.ref 77]) (E' := E2) (I' := I2) (J' := J2) (S' := S2) am_e30 rfl rfl rfl rfl ?_
  refine w_st (i' := 61) (ls' := [.ref 76, .ref 12, .ref 18, d3, d4, .int v2]) (st' := [.ref 12, .ref 77]) (E' := E2) (I' := I2) (J' := J2) (S' := S2) am_e30 rfl rfl rfl rfl ?_
  refine w_st (i' := 62) (ls' := [.ref 76, .ref 12, .ref 18, d3, d4, .int v2]) (st' := [.int v2, .ref 12, .ref 77]) (E' := E2) (I' := I2) (J' := J2) (S' := S2) am_e30 rfl rfl rfl rfl ?_
  refine w_st (i' := 63) (ls' := [.ref 76, .ref 12, .ref 18, d3, d4, .int v2]) (st' := [.int (-1), .int v2, .ref 12, .ref 77]) (E' := E2) (I' := I2) (J' := J2) (S' := S2) am_e30 rfl rfl rfl rfl ?_
  refine w_if2 am_e30 rfl rfl (fun c => ?_) (fun c => ?_)
  · replace h := h.2 (of_decide_eq_true c)
    refine w_st (i' := 67) (ls' := [.ref 76, .ref 12, .ref 18, d3, d4, .int v2]) (st' := [.ref 18, .ref 12, .ref 77]) (E' := E2) (I' := I2) (J' := J2) (S' := S2) am_e30 rfl rfl rfl rfl ?_
    refine w_st (i' := 68) (ls' := [.ref 76, .ref 12, .ref 18, d3, d4, .int v2]) (st' := [.int v2, .ref 18, .ref 12, .ref 77]) (E' := E2) (I' := I2) (J' := J2) (S' := S2) am_e30 rfl rfl rfl rfl ?_
    refine w_st (i' := 69) (ls' := [.ref 76, .ref 12, .ref 18, d3, d4, .int v2]) (st' := [.ref 76, .int v2, .ref 18, .ref 12, .ref 77]) (E' := E2) (I' := I2) (J' := J2) (S' := S2) am_e30 rfl rfl rfl rfl ?_
    refine w_st (i' := 70) (ls' := [.ref 76, .ref 12, .ref 18, d3, d4, .int v2]) (st' := [.ref 77, .int v2, .ref 18, .ref 12, .ref 77]) (E' := E2) (I' := I2) (J' := J2) (S' := S2) am_e30 rfl rfl rfl rfl ?_
    refine w_st (i' := 71) (ls' := [.ref 76, .ref 12, .ref 18, d3, d4, .int v2]) (st' := [.ref 83, .int v2, .ref 18, .ref 12, .ref 77]) (E' := E2) (I' := I2) (J' := J2) (S' := S2) am_e30 rfl rfl rfl rfl ?_
    refine w_st (i' := 72) (ls' := [.ref 76, .ref 12, .ref 18, d3, d4, .int v2]) (st' := [.int v2, .ref 83, .int v2, .ref 18, .ref 12, .ref 77]) (E' := E2) (I' := I2) (J' := J2) (S' := S2) am_e30 rfl rfl rfl rfl ?_
    have hf3 := h.1
    replace h := h.2
    refine w_ia (k := 83) (n := 3) (jn := v2.toNatClampNeg) am_e30 rfl rfl (by decide) hf3 rfl ?_
    refine w_cI am_e30 rfl rfl (as := [.ref 18, .int v2, .int ((I2 83) v2.toNatClampNeg)]) (rest := [.ref 12, .ref 77]) rfl rfl ?_
    show am_ww 35 0 [.ref 18, .int v2, .int ((I2 83) v2.toNatClampNeg)] [] E2 I2 J2 S2 _
    refine w_st (i' := 1) (ls' := [.ref 18, .int v2, .int ((I2 83) v2.toNatClampNeg)]) (st' := [.int ((I2 83) v2.toNatClampNeg)]) (E' := E2) (I' := I2) (J' := J2) (S' := S2) am_e35 rfl rfl rfl rfl ?_
    refine w_mg (i := 15) (ls' := [.ref 18, .int v2, .int ((I2 83) v2.toNatClampNeg)]) (st' := [.int (if ((I2 83) v2.toNatClampNeg) < 0 then nI 0 else (if (nI 30) ≤ ((I2 83) v2.toNatClampNeg) then nI 0 else ((I2 27) (((v2 * (nI 30)) + ((I2 83) v2.toNatClampNeg)).toNatClampNeg))))]) (fun hm => ?_) ?_
    · replace h := h.1
      refine w_if1 am_e35 rfl rfl (fun c => ?_) (fun c => ?_)
      · have m4 : ((I2 83) v2.toNatClampNeg) < 0 := (of_decide_eq_true c)
        replace h := h.1 m4
        refine w_st (i' := 15) (ls' := [.ref 18, .int v2, .int ((I2 83) v2.toNatClampNeg)]) (st' := [.int (nI 0)]) (E' := E2) (I' := I2) (J' := J2) (S' := S2) am_e35 rfl rfl rfl rfl ?_
        first | exact hm | (simp only [if_pos m4] at hm; exact hm)
      · have m4 : ¬ (((I2 83) v2.toNatClampNeg) < 0) := (of_decide_eq_false c)
        replace h := h.2 m4
        refine w_st (i' := 3) (ls' := [.ref 18, .int v2, .int ((I2 83) v2.toNatClampNeg)]) (st' := [.int ((I2 83) v2.toNatClampNeg)]) (E' := E2) (I' := I2) (J' := J2) (S' := S2) am_e35 rfl rfl rfl rfl ?_
        refine w_st (i' := 4) (ls' := [.ref 18, .int v2, .int ((I2 83) v2.toNatClampNeg)]) (st' := [.int (nI 30), .int ((I2 83) v2.toNatClampNeg)]) (E' := E2) (I' := I2) (J' := J2) (S' := S2) am_e35 rfl rfl rfl rfl ?_
        refine w_if2 am_e35 rfl rfl (fun c => ?_) (fun c => ?_)
        · have m5 : (nI 30) ≤ ((I2 83) v2.toNatClampNeg) := (of_decide_eq_true c)
          replace h := h.1 m5
          refine w_st (i' := 15) (ls' := [.ref 18, .int v2, .int ((I2 83) v2.toNatClampNeg)]) (st' := [.int (nI 0)]) (E' := E2) (I' := I2) (J' := J2) (S' := S2) am_e35 rfl rfl rfl rfl ?_
          first | exact hm | (simp only [if_neg m4, if_pos m5] at hm; exact hm)
        · have m5 : ¬ ((nI 30) ≤ ((I2 83) v2.toNatClampNeg)) := (of_decide_eq_false c)
          replace h := h.2 m5
          refine w_st (i' := 6) (ls' := [.ref 18, .int v2, .int ((I2 83) v2.toNatClampNeg)]) (st' := [.ref 18]) (E' := E2) (I' := I2) (J' := J2) (S' := S2) am_e35 rfl rfl rfl rfl ?_
          refine w_st (i' := 7) (ls' := [.ref 18, .int v2, .int ((I2 83) v2.toNatClampNeg)]) (st' := [.ref 27]) (E' := E2) (I' := I2) (J' := J2) (S' := S2) am_e35 rfl rfl rfl rfl ?_
          refine w_st (i' := 8) (ls' := [.ref 18, .int v2, .int ((I2 83) v2.toNatClampNeg)]) (st' := [.int v2, .ref 27]) (E' := E2) (I' := I2) (J' := J2) (S' := S2) am_e35 rfl rfl rfl rfl ?_
          refine w_st (i' := 9) (ls' := [.ref 18, .int v2, .int ((I2 83) v2.toNatClampNeg)]) (st' := [.int (nI 30), .int v2, .ref 27]) (E' := E2) (I' := I2) (J' := J2) (S' := S2) am_e35 rfl rfl rfl rfl ?_
          refine w_st (i' := 10) (ls' := [.ref 18, .int v2, .int ((I2 83) v2.toNatClampNeg)]) (st' := [.int (v2 * (nI 30)), .ref 27]) (E' := E2) (I' := I2) (J' := J2) (S' := S2) am_e35 rfl rfl rfl rfl ?_
          refine w_st (i' := 11) (ls' := [.ref 18, .int v2, .int ((I2 83) v2.toNatClampNeg)]) (st' := [.int ((I2 83) v2.toNatClampNeg), .int (v2 * (nI 30)), .ref 27]) (E' := E2) (I' := I2) (J' := J2) (S' := S2) am_e35 rfl rfl rfl rfl ?_
          refine w_st (i' := 12) (ls' := [.ref 18, .int v2, .int ((I2 83) v2.toNatClampNeg)]) (st' := [.int ((v2 * (nI 30)) + ((I2 83) v2.toNatClampNeg)), .ref 27]) (E' := E2) (I' := I2) (J' := J2) (S' := S2) am_e35 rfl rfl rfl rfl ?_
          refine w_ia (k := 27) (n := 90) (jn := ((v2 * (nI 30)) + ((I2 83) v2.toNatClampNeg)).toNatClampNeg) am_e35 rfl rfl (by decide) h.1 rfl ?_
          replace h := h.2
          show am_ww 35 13 [.ref 18, .int v2, .int ((I2 83) v2.toNatClampNeg)] [.int ((I2 27) (((v2 * (nI 30)) + ((I2 83) v2.toNatClampNeg)).toNatClampNeg))] E2 I2 J2 S2 _
          refine w_st (i' := 15) (ls' := [.ref 18, .int v2, .int ((I2 83) v2.toNatClampNeg)]) (st' := [.int ((I2 27) (((v2 * (nI 30)) + ((I2 83) v2.toNatClampNeg)).toNatClampNeg))]) (E' := E2) (I' := I2) (J' := J2) (S' := S2) am_e35 rfl rfl rfl rfl ?_
          first | exact hm | (simp only [if_neg m4, if_neg m5] at hm; exact hm)
    replace h := h.2
    refine w_var (fun w6 => am_ww 35 15 [.ref 18, .int v2, .int ((I2 83) v2.toNatClampNeg)] [.int w6] E2 I2 J2 S2 _) (if ((I2 83) v2.toNatClampNeg) < 0 then nI 0 else (if (nI 30) ≤ ((I2 83) v2.toNatClampNeg) then nI 0 else ((I2 27) (((v2 * (nI 30)) + ((I2 83) v2.toNatClampNeg)).toNatClampNeg)))) (fun w6 hw6 => ?_)
    replace h := h w6 hw6
    refine w_ri am_e35 rfl rfl (q_mkI ?_)
    show am_ww 30 74 [.ref 76, .ref 12, .ref 18, d3, d4, .int v2] [.int w6, .ref 12, .ref 77] E2 I2 J2 S2 _
    refine w_cV am_e30 rfl rfl (as := [.ref 77, .ref 12, .int w6]) (rest := []) rfl rfl (am_ww.mono h ?_)
    rintro _ E7 I7 J7 S7 ⟨rfl, h⟩
    refine q_mkV ?_
    refine w_st (i' := 76) (ls' := [.ref 76, .ref 12, .ref 18, d3, d4, .int v2]) (st' := [.ref 76]) (E' := E7) (I' := I7) (J' := J7) (S' := S7) am_e30 rfl rfl rfl rfl ?_
    refine w_st (i' := 77) (ls' := [.ref 76, .ref 12, .ref 18, d3, d4, .int v2]) (st' := [.ref 76, .ref 76]) (E' := E7) (I' := I7) (J' := J7) (S' := S7) am_e30 rfl rfl rfl rfl ?_
    refine w_st (i' := 78) (ls' := [.ref 76, .ref 12, .ref 18, d3, d4, .int v2]) (st' := [.int ((I7 76) 2), .ref 76]) (E' := E7) (I' := I7) (J' := J7) (S' := S7) am_e30 rfl rfl rfl rfl ?_
    refine w_st (i' := 79) (ls' := [.ref 76, .ref 12, .ref 18, d3, d4, .int v2]) (st' := [.int (nI 1), .int ((I7 76) 2), .ref 76]) (E' := E7) (I' := I7) (J' := J7) (S' := S7) am_e30 rfl rfl rfl rfl ?_
    refine w_st (i' := 80) (ls' := [.ref 76, .ref 12, .ref 18, d3, d4, .int v2]) (st' := [.int (((I7 76) 2) - (nI 1)), .ref 76]) (E' := E7) (I' := I7) (J' := J7) (S' := S7) am_e30 rfl rfl rfl rfl ?_
    refine w_st (i' := 81) (ls' := [.ref 76, .ref 12, .ref 18, d3, d4, .int v2]) (st' := []) (E' := E7) (I' := (u_I I7 76 (upd (I7 76) 2 (((I7 76) 2) - (nI 1))))) (J' := J7) (S' := S7) am_e30 rfl rfl rfl rfl ?_
    refine w_st (i' := 82) (ls' := [.ref 76, .ref 12, .ref 18, d3, d4, .int v2]) (st' := [.int (nI 1)]) (E' := E7) (I' := (u_I I7 76 (upd (I7 76) 2 (((I7 76) 2) - (nI 1))))) (J' := J7) (S' := S7) am_e30 rfl rfl rfl rfl ?_
    exact w_end am_e30 rfl rfl rfl h
  · replace h := h.1 (Decidable.not_not.mp (of_decide_eq_false c))
    refine w_st (i' := 65) (ls' := [.ref 76, .ref 12, .ref 18, d3, d4, .int v2]) (st' := [.int (nI 0), .ref 12, .ref 77]) (E' := E2) (I' := I2) (J' := J2) (S' := S2) am_e30 rfl rfl rfl rfl ?_
    refine w_st (i' := 74) (ls' := [.ref 76, .ref 12, .ref 18, d3, d4, .int v2]) (st' := [.int (nI 0), .ref 12, .ref 77]) (E' := E2) (I' := I2) (J' := J2) (S' := S2) am_e30 rfl rfl rfl rfl ?_
    refine w_cV am_e30 rfl rfl (as := [.ref 77, .ref 12, .int (nI 0)]) (rest := []) rfl rfl (am_ww.mono h ?_)
    rintro _ E8 I8 J8 S8 ⟨rfl, h⟩
    refine q_mkV ?_
    refine w_st (i' := 76) (ls' := [.ref 76, .ref 12, .ref 18, d3, d4, .int v2]) (st' := [.ref 76]) (E' := E8) (I' := I8) (J' := J8) (S' := S8) am_e30 rfl rfl rfl rfl ?_
    refine w_st (i' := 77) (ls' := [.ref 76, .ref 12, .ref 18, d3, d4, .int v2]) (st' := [.ref 76, .ref 76]) (E' := E8) (I' := I8) (J' := J8) (S' := S8) am_e30 rfl rfl rfl rfl ?_
    refine w_st (i' := 78) (ls' := [.ref 76, .ref 12, .ref 18, d3, d4, .int v2]) (st' := [.int ((I8 76) 2), .ref 76]) (E' := E8) (I' := I8) (J' := J8) (S' := S8) am_e30 rfl rfl rfl rfl ?_
    refine w_st (i' := 79) (ls' := [.ref 76, .ref 12, .ref 18, d3, d4, .int v2]) (st' := [.int (nI 1), .int ((I8 76) 2), .ref 76]) (E' := E8) (I' := I8) (J' := J8) (S' := S8) am_e30 rfl rfl rfl rfl ?_
    refine w_st (i' := 80) (ls' := [.ref 76, .ref 12, .ref 18, d3, d4, .int v2]) (st' := [.int (((I8 76) 2) - (nI 1)), .ref 76]) (E' := E8) (I' := I8) (J' := J8) (S' := S8) am_e30 rfl rfl rfl rfl ?_
    refine w_st (i' := 81) (ls' := [.ref 76, .ref 12, .ref 18, d3, d4, .int v2]) (st' := []) (E' := E8) (I' := (u_I I8 76 (upd (I8 76) 2 (((I8 76) 2) - (nI 1))))) (J' := J8) (S' := S8) am_e30 rfl rfl rfl rfl ?_
    refine w_st (i' := 82) (ls' := [.ref 76, .ref 12, .ref 18, d3, d4, .int v2]) (st' := [.int (nI 1)]) (E' := E8) (I' := (u_I I8 76 (upd (I8 76) 2 (((I8 76) 2) - (nI 1))))) (J' := J8) (S' := S8) am_e30 rfl rfl rfl rfl ?_
    exact w_end am_e30 rfl rfl rfl h
-- 27 keep
theorem g27_0 {p1 : Int32} {p2 : Int32} {p3 : Int32} {p4 : Int32} {E : am_Ev} {I : Nat → Nat → Int32} {J : Nat → Nat → Int64} {S : Nat → Nat → Option Nat} {Q : am_Qt}  (h : (((I 34) 4) < (nI 40) → (am_ww 27 19 [.ref 34, .int p1, .int p2, .int p3, .int p4] [] E I J S Q)) ∧ (¬ ((I 34) 4) < (nI 40) → (am_ww 27 19 [.ref 34, .int p1, .int p2, .int p3, .int p4] [] E (u_I (u_I (u_I (u_I (u_I I 35 (va_cpy (I 35) (I 35) 1 0 39)) 36 (va_cpy (I 36) (I 36) 1 0 39)) 37 (va_cpy (I 37) (I 37) 1 0 39)) 38 (va_cpy (I 38) (I 38) 1 0 39)) 34 (upd (I 34) 4 (nI 39))) J S Q))) : am_ww 27 0 [.ref 34, .int p1, .int p2, .int p3, .int p4] [] E I J S Q := by
  refine w_st (i' := 1) (ls' := [.ref 34, .int p1, .int p2, .int p3, .int p4]) (st' := [.ref 34]) (E' := E) (I' := I) (J' := J) (S' := S) am_e27 rfl rfl rfl rfl ?_
  refine w_st (i' := 2) (ls' := [.ref 34, .int p1, .int p2, .int p3, .int p4]) (st' := [.int ((I 34) 4)]) (E' := E) (I' := I) (J' := J) (S' := S) am_e27 rfl rfl rfl rfl ?_
  refine w_st (i' := 3) (ls' := [.ref 34, .int p1, .int p2, .int p3, .int p4]) (st' := [.int (nI 40), .int ((I 34) 4)]) (E' := E) (I' := I) (J' := J) (S' := S) am_e27 rfl rfl rfl rfl ?_
  refine w_if2 am_e27 rfl rfl (fun c => ?_) (fun c => ?_)
  · replace h := h.1 (of_decide_eq_true c)
    exact h
  · replace h := h.2 (of_decide_eq_false c)
    refine w_st (i' := 5) (ls' := [.ref 34, .int p1, .int p2, .int p3, .int p4]) (st' := [.ref 34]) (E' := E) (I' := I) (J' := J) (S' := S) am_e27 rfl rfl rfl rfl ?_
    refine w_st (i' := 6) (ls' := [.ref 34, .int p1, .int p2, .int p3, .int p4]) (st' := [.ref 35]) (E' := E) (I' := I) (J' := J) (S' := S) am_e27 rfl rfl rfl rfl ?_
    refine w_cV am_e27 rfl rfl (as := [.ref 35]) (rest := []) rfl rfl ?_
    show am_ww 28 0 [.ref 35] [] E I J S _
    refine w_st (i' := 1) (ls' := [.ref 35]) (st' := [.ref 35]) (E' := E) (I' := I) (J' := J) (S' := S) am_e28 rfl rfl rfl rfl ?_
    refine w_st (i' := 2) (ls' := [.ref 35]) (st' := [.int (nI 1), .ref 35]) (E' := E) (I' := I) (J' := J) (S' := S) am_e28 rfl rfl rfl rfl ?_
    refine w_st (i' := 3) (ls' := [.ref 35]) (st' := [.ref 35, .int (nI 1), .ref 35]) (E' := E) (I' := I) (J' := J) (S' := S) am_e28 rfl rfl rfl rfl ?_
    refine w_st (i' := 4) (ls' := [.ref 35]) (st' := [.int (nI 0), .ref 35, .int (nI 1), .ref 35]) (E' := E) (I' := I) (J' := J) (S' := S) am_e28 rfl rfl rfl rfl ?_
    refine w_st (i' := 5) (ls' := [.ref 35]) (st' := [.int (nI 39), .int (nI 0), .ref 35, .int (nI 1), .ref 35]) (E' := E) (I' := I) (J' := J) (S' := S) am_e28 rfl rfl rfl rfl ?_
    refine w_cp (k := 35) (a := 35) (nk := 40) (na := 40) am_e28 rfl (by decide) (by decide) rfl rfl (by decide) (by unfold am_cpOk; decide) ?_
    show am_ww 28 6 [.ref 35] [] E (u_I I 35 (va_cpy (I 35) (I 35) 1 0 39)) J S _
    refine w_end (E' := E) (I' := (u_I I 35 (va_cpy (I 35) (I 35) 1 0 39))) (J' := J) (S' := S) am_e28 rfl rfl rfl (q_mkV ?_)
    show am_ww 27 7 [.ref 34, .int p1, .int p2, .int p3, .int p4] [] E (u_I I 35 (va_cpy (I 35) (I 35) 1 0 39)) J S _
    refine w_st (i' := 8) (ls' := [.ref 34, .int p1, .int p2, .int p3, .int p4]) (st' := [.ref 34]) (E' := E) (I' := (u_I I 35 (va_cpy (I 35) (I 35) 1 0 39))) (J' := J) (S' := S) am_e27 rfl rfl rfl rfl ?_
    refine w_st (i' := 9) (ls' := [.ref 34, .int p1, .int p2, .int p3, .int p4]) (st' := [.ref 36]) (E' := E) (I' := (u_I I 35 (va_cpy (I 35) (I 35) 1 0 39))) (J' := J) (S' := S) am_e27 rfl rfl rfl rfl ?_
    refine w_cV am_e27 rfl rfl (as := [.ref 36]) (rest := []) rfl rfl ?_
    show am_ww 28 0 [.ref 36] [] E (u_I I 35 (va_cpy (I 35) (I 35) 1 0 39)) J S _
    refine w_st (i' := 1) (ls' := [.ref 36]) (st' := [.ref 36]) (E' := E) (I' := (u_I I 35 (va_cpy (I 35) (I 35) 1 0 39))) (J' := J) (S' := S) am_e28 rfl rfl rfl rfl ?_
    refine w_st (i' := 2) (ls' := [.ref 36]) (st' := [.int (nI 1), .ref 36]) (E' := E) (I' := (u_I I 35 (va_cpy (I 35) (I 35) 1 0 39))) (J' := J) (S' := S) am_e28 rfl rfl rfl rfl ?_
    refine w_st (i' := 3) (ls' := [.ref 36]) (st' := [.ref 36, .int (nI 1), .ref 36]) (E' := E) (I' := (u_I I 35 (va_cpy (I 35) (I 35) 1 0 39))) (J' := J) (S' := S) am_e28 rfl rfl rfl rfl ?_
    refine w_st (i' := 4) (ls' := [.ref 36]) (st' := [.int (nI 0), .ref 36, .int (nI 1), .ref 36]) (E' := E) (I' := (u_I I 35 (va_cpy (I 35) (I 35) 1 0 39))) (J' := J) (S' := S) am_e28 rfl rfl rfl rfl ?_
    refine w_st (i' := 5) (ls' := [.ref 36]) (st' := [.int (nI 39), .int (nI 0), .ref 36, .int (nI 1), .ref 36]) (E' := E) (I' := (u_I I 35 (va_cpy (I 35) (I 35) 1 0 39))) (J' := J) (S' := S) am_e28 rfl rfl rfl rfl ?_
    refine w_cp (k := 36) (a := 36) (nk := 40) (na := 40) am_e28 rfl (by decide) (by decide) rfl rfl (by decide) (by unfold am_cpOk; decide) ?_
    show am_ww 28 6 [.ref 36] [] E (u_I (u_I I 35 (va_cpy (I 35) (I 35) 1 0 39)) 36 (va_cpy (I 36) (I 36) 1 0 39)) J S _
    refine w_end (E' := E) (I' := (u_I (u_I I 35 (va_cpy (I 35) (I 35) 1 0 39)) 36 (va_cpy (I 36) (I 36) 1 0 39))) (J' := J) (S' := S) am_e28 rfl rfl rfl (q_mkV ?_)
    show am_ww 27 10 [.ref 34, .int p1, .int p2, .int p3, .int p4] [] E (u_I (u_I I 35 (va_cpy (I 35) (I 35) 1 0 39)) 36 (va_cpy (I 36) (I 36) 1 0 39)) J S _
    refine w_st (i' := 11) (ls' := [.ref 34, .int p1, .int p2, .int p3, .int p4]) (st' := [.ref 34]) (E' := E) (I' := (u_I (u_I I 35 (va_cpy (I 35) (I 35) 1 0 39)) 36 (va_cpy (I 36) (I 36) 1 0 39))) (J' := J) (S' := S) am_e27 rfl rfl rfl rfl ?_
    refine w_st (i' := 12) (ls' := [.ref 34, .int p1, .int p2, .int p3, .int p4]) (st' := [.ref 37]) (E' := E) (I' := (u_I (u_I I 35 (va_cpy (I 35) (I 35) 1 0 39)) 36 (va_cpy (I 36) (I 36) 1 0 39))) (J' := J) (S' := S) am_e27 rfl rfl rfl rfl ?_
    refine w_cV am_e27 rfl rfl (as := [.ref 37]) (rest := []) rfl rfl ?_
    show am_ww 28 0 [.ref 37] [] E (u_I (u_I I 35 (va_cpy (I 35) (I 35) 1 0 39)) 36 (va_cpy (I 36) (I 36) 1 0 39)) J S _
    refine w_st (i' := 1) (ls' := [.ref 37]) (st' := [.ref 37]) (E' := E) (I' := (u_I (u_I I 35 (va_cpy (I 35) (I 35) 1 0 39)) 36 (va_cpy (I 36) (I 36) 1 0 39))) (J' := J) (S' := S) am_e28 rfl rfl rfl rfl ?_
    refine w_st (i' := 2) (ls' := [.ref 37]) (st' := [.int (nI 1), .ref 37]) (E' := E) (I' := (u_I (u_I I 35 (va_cpy (I 35) (I 35) 1 0 39)) 36 (va_cpy (I 36) (I 36) 1 0 39))) (J' := J) (S' := S) am_e28 rfl rfl rfl rfl ?_
    refine w_st (i' := 3) (ls' := [.ref 37]) (st' := [.ref 37, .int (nI 1), .ref 37]) (E' := E) (I' := (u_I (u_I I 35 (va_cpy (I 35) (I 35) 1 0 39)) 36 (va_cpy (I 36) (I 36) 1 0 39))) (J' := J) (S' := S) am_e28 rfl rfl rfl rfl ?_
    refine w_st (i' := 4) (ls' := [.ref 37]) (st' := [.int (nI 0), .ref 37, .int (nI 1), .ref 37]) (E' := E) (I' := (u_I (u_I I 35 (va_cpy (I 35) (I 35) 1 0 39)) 36 (va_cpy (I 36) (I 36) 1 0 39))) (J' := J) (S' := S) am_e28 rfl rfl rfl rfl ?_
    refine w_st (i' := 5) (ls' := [.ref 37]) (st' := [.int (nI 39), .int (nI 0), .ref 37, .int (nI 1), .ref 37]) (E' := E) (I' := (u_I (u_I I 35 (va_cpy (I 35) (I 35) 1 0 39)) 36 (va_cpy (I 36) (I 36) 1 0 39))) (J' := J) (S' := S) am_e28 rfl rfl rfl rfl ?_
    refine w_cp (k := 37) (a := 37) (nk := 40) (na := 40) am_e28 rfl (by decide) (by decide) rfl rfl (by decide) (by unfold am_cpOk; decide) ?_
    show am_ww 28 6 [.ref 37] [] E (u_I (u_I (u_I I 35 (va_cpy (I 35) (I 35) 1 0 39)) 36 (va_cpy (I 36) (I 36) 1 0 39)) 37 (va_cpy (I 37) (I 37) 1 0 39)) J S _
    refine w_end (E' := E) (I' := (u_I (u_I (u_I I 35 (va_cpy (I 35) (I 35) 1 0 39)) 36 (va_cpy (I 36) (I 36) 1 0 39)) 37 (va_cpy (I 37) (I 37) 1 0 39))) (J' := J) (S' := S) am_e28 rfl rfl rfl (q_mkV ?_)
    show am_ww 27 13 [.ref 34, .int p1, .int p2, .int p3, .int p4] [] E (u_I (u_I (u_I I 35 (va_cpy (I 35) (I 35) 1 0 39)) 36 (va_cpy (I 36) (I 36) 1 0 39)) 37 (va_cpy (I 37) (I 37) 1 0 39)) J S _
    refine w_st (i' := 14) (ls' := [.ref 34, .int p1, .int p2, .int p3, .int p4]) (st' := [.ref 34]) (E' := E) (I' := (u_I (u_I (u_I I 35 (va_cpy (I 35) (I 35) 1 0 39)) 36 (va_cpy (I 36) (I 36) 1 0 39)) 37 (va_cpy (I 37) (I 37) 1 0 39))) (J' := J) (S' := S) am_e27 rfl rfl rfl rfl ?_
    refine w_st (i' := 15) (ls' := [.ref 34, .int p1, .int p2, .int p3, .int p4]) (st' := [.ref 38]) (E' := E) (I' := (u_I (u_I (u_I I 35 (va_cpy (I 35) (I 35) 1 0 39)) 36 (va_cpy (I 36) (I 36) 1 0 39)) 37 (va_cpy (I 37) (I 37) 1 0 39))) (J' := J) (S' := S) am_e27 rfl rfl rfl rfl ?_
    refine w_cV am_e27 rfl rfl (as := [.ref 38]) (rest := []) rfl rfl ?_
    show am_ww 28 0 [.ref 38] [] E (u_I (u_I (u_I I 35 (va_cpy (I 35) (I 35) 1 0 39)) 36 (va_cpy (I 36) (I 36) 1 0 39)) 37 (va_cpy (I 37) (I 37) 1 0 39)) J S _
    refine w_st (i' := 1) (ls' := [.ref 38]) (st' := [.ref 38]) (E' := E) (I' := (u_I (u_I (u_I I 35 (va_cpy (I 35) (I 35) 1 0 39)) 36 (va_cpy (I 36) (I 36) 1 0 39)) 37 (va_cpy (I 37) (I 37) 1 0 39))) (J' := J) (S' := S) am_e28 rfl rfl rfl rfl ?_
    refine w_st (i' := 2) (ls' := [.ref 38]) (st' := [.int (nI 1), .ref 38]) (E' := E) (I' := (u_I (u_I (u_I I 35 (va_cpy (I 35) (I 35) 1 0 39)) 36 (va_cpy (I 36) (I 36) 1 0 39)) 37 (va_cpy (I 37) (I 37) 1 0 39))) (J' := J) (S' := S) am_e28 rfl rfl rfl rfl ?_
    refine w_st (i' := 3) (ls' := [.ref 38]) (st' := [.ref 38, .int (nI 1), .ref 38]) (E' := E) (I' := (u_I (u_I (u_I I 35 (va_cpy (I 35) (I 35) 1 0 39)) 36 (va_cpy (I 36) (I 36) 1 0 39)) 37 (va_cpy (I 37) (I 37) 1 0 39))) (J' := J) (S' := S) am_e28 rfl rfl rfl rfl ?_
    refine w_st (i' := 4) (ls' := [.ref 38]) (st' := [.int (nI 0), .ref 38, .int (nI 1), .ref 38]) (E' := E) (I' := (u_I (u_I (u_I I 35 (va_cpy (I 35) (I 35) 1 0 39)) 36 (va_cpy (I 36) (I 36) 1 0 39)) 37 (va_cpy (I 37) (I 37) 1 0 39))) (J' := J) (S' := S) am_e28 rfl rfl rfl rfl ?_
    refine w_st (i' := 5) (ls' := [.ref 38]) (st' := [.int (nI 39), .int (nI 0), .ref 38, .int (nI 1), .ref 38]) (E' := E) (I' := (u_I (u_I (u_I I 35 (va_cpy (I 35) (I 35) 1 0 39)) 36 (va_cpy (I 36) (I 36) 1 0 39)) 37 (va_cpy (I 37) (I 37) 1 0 39))) (J' := J) (S' := S) am_e28 rfl rfl rfl rfl ?_
    refine w_cp (k := 38) (a := 38) (nk := 40) (na := 40) am_e28 rfl (by decide) (by decide) rfl rfl (by decide) (by unfold am_cpOk; decide) ?_
    show am_ww 28 6 [.ref 38] [] E (u_I (u_I (u_I (u_I I 35 (va_cpy (I 35) (I 35) 1 0 39)) 36 (va_cpy (I 36) (I 36) 1 0 39)) 37 (va_cpy (I 37) (I 37) 1 0 39)) 38 (va_cpy (I 38) (I 38) 1 0 39)) J S _
    refine w_end (E' := E) (I' := (u_I (u_I (u_I (u_I I 35 (va_cpy (I 35) (I 35) 1 0 39)) 36 (va_cpy (I 36) (I 36) 1 0 39)) 37 (va_cpy (I 37) (I 37) 1 0 39)) 38 (va_cpy (I 38) (I 38) 1 0 39))) (J' := J) (S' := S) am_e28 rfl rfl rfl (q_mkV ?_)
    show am_ww 27 16 [.ref 34, .int p1, .int p2, .int p3, .int p4] [] E (u_I (u_I (u_I (u_I I 35 (va_cpy (I 35) (I 35) 1 0 39)) 36 (va_cpy (I 36) (I 36) 1 0 39)) 37 (va_cpy (I 37) (I 37) 1 0 39)) 38 (va_cpy (I 38) (I 38) 1 0 39)) J S _
    refine w_st (i' := 17) (ls' := [.ref 34, .int p1, .int p2, .int p3, .int p4]) (st' := [.ref 34]) (E' := E) (I' := (u_I (u_I (u_I (u_I I 35 (va_cpy (I 35) (I 35) 1 0 39)) 36 (va_cpy (I 36) (I 36) 1 0 39)) 37 (va_cpy (I 37) (I 37) 1 0 39)) 38 (va_cpy (I 38) (I 38) 1 0 39))) (J' := J) (S' := S) am_e27 rfl rfl rfl rfl ?_
    refine w_st (i' := 18) (ls' := [.ref 34, .int p1, .int p2, .int p3, .int p4]) (st' := [.int (nI 39), .ref 34]) (E' := E) (I' := (u_I (u_I (u_I (u_I I 35 (va_cpy (I 35) (I 35) 1 0 39)) 36 (va_cpy (I 36) (I 36) 1 0 39)) 37 (va_cpy (I 37) (I 37) 1 0 39)) 38 (va_cpy (I 38) (I 38) 1 0 39))) (J' := J) (S' := S) am_e27 rfl rfl rfl rfl ?_
    refine w_st (i' := 19) (ls' := [.ref 34, .int p1, .int p2, .int p3, .int p4]) (st' := []) (E' := E) (I' := (u_I (u_I (u_I (u_I (u_I I 35 (va_cpy (I 35) (I 35) 1 0 39)) 36 (va_cpy (I 36) (I 36) 1 0 39)) 37 (va_cpy (I 37) (I 37) 1 0 39)) 38 (va_cpy (I 38) (I 38) 1 0 39)) 34 (upd (I 34) 4 (nI 39)))) (J' := J) (S' := S) am_e27 rfl rfl rfl rfl ?_
    exact h
theorem g27_19 {x1 : Int32} {x2 : Int32} {x3 : Int32} {x4 : Int32} {E : am_Ev} {I : Nat → Nat → Int32} {J : Nat → Nat → Int64} {S : Nat → Nat → Option Nat} {Q : am_Qt}  (h : vp_in ((I 34) 4) 40 ∧ (Q (.inl none) E (u_I (u_I (u_I (u_I (u_I I 35 (upd (I 35) (((I 34) 4).toNatClampNeg) x1)) 36 (upd (I 36) (((I 34) 4).toNatClampNeg) x2)) 37 (upd (I 37) (((I 34) 4).toNatClampNeg) x3)) 38 (upd (I 38) (((I 34) 4).toNatClampNeg) x4)) 34 (upd (I 34) 4 (((I 34) 4) + (nI 1)))) J S)) : am_ww 27 19 [.ref 34, .int x1, .int x2, .int x3, .int x4] [] E I J S Q := by
  refine w_st (i' := 20) (ls' := [.ref 34, .int x1, .int x2, .int x3, .int x4]) (st' := [.ref 34]) (E' := E) (I' := I) (J' := J) (S' := S) am_e27 rfl rfl rfl rfl ?_
  refine w_st (i' := 21) (ls' := [.ref 34, .int x1, .int x2, .int x3, .int x4]) (st' := [.ref 35]) (E' := E) (I' := I) (J' := J) (S' := S) am_e27 rfl rfl rfl rfl ?_
  refine w_st (i' := 22) (ls' := [.ref 34, .int x1, .int x2, .int x3, .int x4]) (st' := [.ref 34, .ref 35]) (E' := E) (I' := I) (J' := J) (S' := S) am_e27 rfl rfl rfl rfl ?_
  refine w_st (i' := 23) (ls' := [.ref 34, .int x1, .int x2, .int x3, .int x4]) (st' := [.int ((I 34) 4), .ref 35]) (E' := E) (I' := I) (J' := J) (S' := S) am_e27 rfl rfl rfl rfl ?_
  refine w_st (i' := 24) (ls' := [.ref 34, .int x1, .int x2, .int x3, .int x4]) (st' := [.int x1, .int ((I 34) 4), .ref 35]) (E' := E) (I' := I) (J' := J) (S' := S) am_e27 rfl rfl rfl rfl ?_
  have hf1 := h.1
  replace h := h.2
  refine w_is (k := 35) (n := 40) (jn := ((I 34) 4).toNatClampNeg) am_e27 rfl rfl (by decide) hf1 rfl ?_
  show am_ww 27 25 [.ref 34, .int x1, .int x2, .int x3, .int x4] [] E (u_I I 35 (upd (I 35) (((I 34) 4).toNatClampNeg) x1)) J S _
  refine w_st (i' := 26) (ls' := [.ref 34, .int x1, .int x2, .int x3, .int x4]) (st' := [.ref 34]) (E' := E) (I' := (u_I I 35 (upd (I 35) (((I 34) 4).toNatClampNeg) x1))) (J' := J) (S' := S) am_e27 rfl rfl rfl rfl ?_
  refine w_st (i' := 27) (ls' := [.ref 34, .int x1, .int x2, .int x3, .int x4]) (st' := [.ref 36]) (E' := E) (I' := (u_I I 35 (upd (I 35) (((I 34) 4).toNatClampNeg) x1))) (J' := J) (S' := S) am_e27 rfl rfl rfl rfl ?_
  refine w_st (i' := 28) (ls' := [.ref 34, .int x1, .int x2, .int x3, .int x4]) (st' := [.ref 34, .ref 36]) (E' := E) (I' := (u_I I 35 (upd (I 35) (((I 34) 4).toNatClampNeg) x1))) (J' := J) (S' := S) am_e27 rfl rfl rfl rfl ?_
  refine w_st (i' := 29) (ls' := [.ref 34, .int x1, .int x2, .int x3, .int x4]) (st' := [.int ((I 34) 4), .ref 36]) (E' := E) (I' := (u_I I 35 (upd (I 35) (((I 34) 4).toNatClampNeg) x1))) (J' := J) (S' := S) am_e27 rfl rfl rfl rfl ?_
  refine w_st (i' := 30) (ls' := [.ref 34, .int x1, .int x2, .int x3, .int x4]) (st' := [.int x2, .int ((I 34) 4), .ref 36]) (E' := E) (I' := (u_I I 35 (upd (I 35) (((I 34) 4).toNatClampNeg) x1))) (J' := J) (S' := S) am_e27 rfl rfl rfl rfl ?_
  refine w_is (k := 36) (n := 40) (jn := ((I 34) 4).toNatClampNeg) am_e27 rfl rfl (by decide) hf1 rfl ?_
  show am_ww 27 31 [.ref 34, .int x1, .int x2, .int x3, .int x4] [] E (u_I (u_I I 35 (upd (I 35) (((I 34) 4).toNatClampNeg) x1)) 36 (upd (I 36) (((I 34) 4).toNatClampNeg) x2)) J S _
  refine w_st (i' := 32) (ls' := [.ref 34, .int x1, .int x2, .int x3, .int x4]) (st' := [.ref 34]) (E' := E) (I' := (u_I (u_I I 35 (upd (I 35) (((I 34) 4).toNatClampNeg) x1)) 36 (upd (I 36) (((I 34) 4).toNatClampNeg) x2))) (J' := J) (S' := S) am_e27 rfl rfl rfl rfl ?_
  refine w_st (i' := 33) (ls' := [.ref 34, .int x1, .int x2, .int x3, .int x4]) (st' := [.ref 37]) (E' := E) (I' := (u_I (u_I I 35 (upd (I 35) (((I 34) 4).toNatClampNeg) x1)) 36 (upd (I 36) (((I 34) 4).toNatClampNeg) x2))) (J' := J) (S' := S) am_e27 rfl rfl rfl rfl ?_
  refine w_st (i' := 34) (ls' := [.ref 34, .int x1, .int x2, .int x3, .int x4]) (st' := [.ref 34, .ref 37]) (E' := E) (I' := (u_I (u_I I 35 (upd (I 35) (((I 34) 4).toNatClampNeg) x1)) 36 (upd (I 36) (((I 34) 4).toNatClampNeg) x2))) (J' := J) (S' := S) am_e27 rfl rfl rfl rfl ?_
  refine w_st (i' := 35) (ls' := [.ref 34, .int x1, .int x2, .int x3, .int x4]) (st' := [.int ((I 34) 4), .ref 37]) (E' := E) (I' := (u_I (u_I I 35 (upd (I 35) (((I 34) 4).toNatClampNeg) x1)) 36 (upd (I 36) (((I 34) 4).toNatClampNeg) x2))) (J' := J) (S' := S) am_e27 rfl rfl rfl rfl ?_
  refine w_st (i' := 36) (ls' := [.ref 34, .int x1, .int x2, .int x3, .int x4]) (st' := [.int x3, .int ((I 34) 4), .ref 37]) (E' := E) (I' := (u_I (u_I I 35 (upd (I 35) (((I 34) 4).toNatClampNeg) x1)) 36 (upd (I 36) (((I 34) 4).toNatClampNeg) x2))) (J' := J) (S' := S) am_e27 rfl rfl rfl rfl ?_
  refine w_is (k := 37) (n := 40) (jn := ((I 34) 4).toNatClampNeg) am_e27 rfl rfl (by decide) hf1 rfl ?_
  show am_ww 27 37 [.ref 34, .int x1, .int x2, .int x3, .int x4] [] E (u_I (u_I (u_I I 35 (upd (I 35) (((I 34) 4).toNatClampNeg) x1)) 36 (upd (I 36) (((I 34) 4).toNatClampNeg) x2)) 37 (upd (I 37) (((I 34) 4).toNatClampNeg) x3)) J S _
  refine w_st (i' := 38) (ls' := [.ref 34, .int x1, .int x2, .int x3, .int x4]) (st' := [.ref 34]) (E' := E) (I' := (u_I (u_I (u_I I 35 (upd (I 35) (((I 34) 4).toNatClampNeg) x1)) 36 (upd (I 36) (((I 34) 4).toNatClampNeg) x2)) 37 (upd (I 37) (((I 34) 4).toNatClampNeg) x3))) (J' := J) (S' := S) am_e27 rfl rfl rfl rfl ?_
  refine w_st (i' := 39) (ls' := [.ref 34, .int x1, .int x2, .int x3, .int x4]) (st' := [.ref 38]) (E' := E) (I' := (u_I (u_I (u_I I 35 (upd (I 35) (((I 34) 4).toNatClampNeg) x1)) 36 (upd (I 36) (((I 34) 4).toNatClampNeg) x2)) 37 (upd (I 37) (((I 34) 4).toNatClampNeg) x3))) (J' := J) (S' := S) am_e27 rfl rfl rfl rfl ?_
  refine w_st (i' := 40) (ls' := [.ref 34, .int x1, .int x2, .int x3, .int x4]) (st' := [.ref 34, .ref 38]) (E' := E) (I' := (u_I (u_I (u_I I 35 (upd (I 35) (((I 34) 4).toNatClampNeg) x1)) 36 (upd (I 36) (((I 34) 4).toNatClampNeg) x2)) 37 (upd (I 37) (((I 34) 4).toNatClampNeg) x3))) (J' := J) (S' := S) am_e27 rfl rfl rfl rfl ?_
  refine w_st (i' := 41) (ls' := [.ref 34, .int x1, .int x2, .int x3, .int x4]) (st' := [.int ((I 34) 4), .ref 38]) (E' := E) (I' := (u_I (u_I (u_I I 35 (upd (I 35) (((I 34) 4).toNatClampNeg) x1)) 36 (upd (I 36) (((I 34) 4).toNatClampNeg) x2)) 37 (upd (I 37) (((I 34) 4).toNatClampNeg) x3))) (J' := J) (S' := S) am_e27 rfl rfl rfl rfl ?_
  refine w_st (i' := 42) (ls' := [.ref 34, .int x1, .int x2, .int x3, .int x4]) (st' := [.int x4, .int ((I 34) 4), .ref 38]) (E' := E) (I' := (u_I (u_I (u_I I 35 (upd (I 35) (((I 34) 4).toNatClampNeg) x1)) 36 (upd (I 36) (((I 34) 4).toNatClampNeg) x2)) 37 (upd (I 37) (((I 34) 4).toNatClampNeg) x3))) (J' := J) (S' := S) am_e27 rfl rfl rfl rfl ?_
  refine w_is (k := 38) (n := 40) (jn := ((I 34) 4).toNatClampNeg) am_e27 rfl rfl (by decide) hf1 rfl ?_
  show am_ww 27 43 [.ref 34, .int x1, .int x2, .int x3, .int x4] [] E (u_I (u_I (u_I (u_I I 35 (upd (I 35) (((I 34) 4).toNatClampNeg) x1)) 36 (upd (I 36) (((I 34) 4).toNatClampNeg) x2)) 37 (upd (I 37) (((I 34) 4).toNatClampNeg) x3)) 38 (upd (I 38) (((I 34) 4).toNatClampNeg) x4)) J S _
  refine w_st (i' := 44) (ls' := [.ref 34, .int x1, .int x2, .int x3, .int x4]) (st' := [.ref 34]) (E' := E) (I' := (u_I (u_I (u_I (u_I I 35 (upd (I 35) (((I 34) 4).toNatClampNeg) x1)) 36 (upd (I 36) (((I 34) 4).toNatClampNeg) x2)) 37 (upd (I 37) (((I 34) 4).toNatClampNeg) x3)) 38 (upd (I 38) (((I 34) 4).toNatClampNeg) x4))) (J' := J) (S' := S) am_e27 rfl rfl rfl rfl ?_
  refine w_st (i' := 45) (ls' := [.ref 34, .int x1, .int x2, .int x3, .int x4]) (st' := [.ref 34, .ref 34]) (E' := E) (I' := (u_I (u_I (u_I (u_I I 35 (upd (I 35) (((I 34) 4).toNatClampNeg) x1)) 36 (upd (I 36) (((I 34) 4).toNatClampNeg) x2)) 37 (upd (I 37) (((I 34) 4).toNatClampNeg) x3)) 38 (upd (I 38) (((I 34) 4).toNatClampNeg) x4))) (J' := J) (S' := S) am_e27 rfl rfl rfl rfl ?_
  refine w_st (i' := 46) (ls' := [.ref 34, .int x1, .int x2, .int x3, .int x4]) (st' := [.int ((I 34) 4), .ref 34]) (E' := E) (I' := (u_I (u_I (u_I (u_I I 35 (upd (I 35) (((I 34) 4).toNatClampNeg) x1)) 36 (upd (I 36) (((I 34) 4).toNatClampNeg) x2)) 37 (upd (I 37) (((I 34) 4).toNatClampNeg) x3)) 38 (upd (I 38) (((I 34) 4).toNatClampNeg) x4))) (J' := J) (S' := S) am_e27 rfl rfl rfl rfl ?_
  refine w_st (i' := 47) (ls' := [.ref 34, .int x1, .int x2, .int x3, .int x4]) (st' := [.int (nI 1), .int ((I 34) 4), .ref 34]) (E' := E) (I' := (u_I (u_I (u_I (u_I I 35 (upd (I 35) (((I 34) 4).toNatClampNeg) x1)) 36 (upd (I 36) (((I 34) 4).toNatClampNeg) x2)) 37 (upd (I 37) (((I 34) 4).toNatClampNeg) x3)) 38 (upd (I 38) (((I 34) 4).toNatClampNeg) x4))) (J' := J) (S' := S) am_e27 rfl rfl rfl rfl ?_
  refine w_st (i' := 48) (ls' := [.ref 34, .int x1, .int x2, .int x3, .int x4]) (st' := [.int (((I 34) 4) + (nI 1)), .ref 34]) (E' := E) (I' := (u_I (u_I (u_I (u_I I 35 (upd (I 35) (((I 34) 4).toNatClampNeg) x1)) 36 (upd (I 36) (((I 34) 4).toNatClampNeg) x2)) 37 (upd (I 37) (((I 34) 4).toNatClampNeg) x3)) 38 (upd (I 38) (((I 34) 4).toNatClampNeg) x4))) (J' := J) (S' := S) am_e27 rfl rfl rfl rfl ?_
  refine w_st (i' := 49) (ls' := [.ref 34, .int x1, .int x2, .int x3, .int x4]) (st' := []) (E' := E) (I' := (u_I (u_I (u_I (u_I (u_I I 35 (upd (I 35) (((I 34) 4).toNatClampNeg) x1)) 36 (upd (I 36) (((I 34) 4).toNatClampNeg) x2)) 37 (upd (I 37) (((I 34) 4).toNatClampNeg) x3)) 38 (upd (I 38) (((I 34) 4).toNatClampNeg) x4)) 34 (upd (I 34) 4 (((I 34) 4) + (nI 1))))) (J' := J) (S' := S) am_e27 rfl rfl rfl rfl ?_
  exact w_end am_e27 rfl rfl rfl h
-- 29 putDownStep
theorem g29_0  {E : am_Ev} {I : Nat → Nat → Int32} {J : Nat → Nat → Int64} {S : Nat → Nat → Option Nat} {Q : am_Qt}  (h : ((nI 400) ≤ ((I 18) 10) → (Q (.inl (some (.int (nI 0)))) E I J S)) ∧ (¬ (nI 400) ≤ ((I 18) 10) → (am_cl 30 [.ref 19, .ref 12, .ref 18, .int ((I 17) 0)] E I J S (q_I fun v1 E1 I1 J1 S1 => (v1 = 0 → (Q (.inl (some (.int (nI 0)))) E1 I1 J1 S1)) ∧ (¬ v1 = 0 → ((((I1 19) 4) = 0 → (am_ww 29 55 [.ref 18, .ref 12] [] E1 I1 J1 S1 Q)) ∧ (¬ ((I1 19) 4) = 0 → (((nI 400) ≤ ((I1 18) 9) → (am_ww 29 55 [.ref 18, .ref 12] [] E1 I1 J1 S1 Q)) ∧ (¬ (nI 400) ≤ ((I1 18) 9) → (vp_in ((I1 18) 9) 400 ∧ (am_ww 29 55 [.ref 18, .ref 12] [] E1 (u_I (u_I (u_I (u_I I1 29 (upd (I1 29) (((I1 18) 9).toNatClampNeg) ((I1 19) 5))) 30 (upd (I1 30) (((I1 18) 9).toNatClampNeg) ((I1 19) 6))) 31 (upd (I1 31) (((I1 18) 9).toNatClampNeg) ((I1 20) 6))) 18 (upd (I1 18) 9 (((I1 18) 9) + (nI 1)))) J1 S1 Q))))))))))) : am_ww 29 0 [.ref 18, .ref 12] [] E I J S Q := by
  refine w_st (i' := 1) (ls' := [.ref 18, .ref 12]) (st' := [.ref 18]) (E' := E) (I' := I) (J' := J) (S' := S) am_e29 rfl rfl rfl rfl ?_
  refine w_st (i' := 2) (ls' := [.ref 18, .ref 12]) (st' := [.int ((I 18) 10)]) (E' := E) (I' := I) (J' := J) (S' := S) am_e29 rfl rfl rfl rfl ?_
  refine w_st (i' := 3) (ls' := [.ref 18, .ref 12]) (st' := [.int (nI 400), .int ((I 18) 10)]) (E' := E) (I' := I) (J' := J) (S' := S) am_e29 rfl rfl rfl rfl ?_
  refine w_if2 am_e29 rfl rfl (fun c => ?_) (fun c => ?_)
  · replace h := h.1 (of_decide_eq_true c)
    refine w_st (i' := 15) (ls' := [.ref 18, .ref 12]) (st' := [.int (nI 0)]) (E' := E) (I' := I) (J' := J) (S' := S) am_e29 rfl rfl rfl rfl ?_
    exact w_end am_e29 rfl rfl rfl h
  · replace h := h.2 (of_decide_eq_false c)
    refine w_st (i' := 5) (ls' := [.ref 18, .ref 12]) (st' := [.ref 18]) (E' := E) (I' := I) (J' := J) (S' := S) am_e29 rfl rfl rfl rfl ?_
    refine w_st (i' := 6) (ls' := [.ref 18, .ref 12]) (st' := [.ref 19]) (E' := E) (I' := I) (J' := J) (S' := S) am_e29 rfl rfl rfl rfl ?_
    refine w_st (i' := 7) (ls' := [.ref 18, .ref 12]) (st' := [.ref 12, .ref 19]) (E' := E) (I' := I) (J' := J) (S' := S) am_e29 rfl rfl rfl rfl ?_
    refine w_st (i' := 8) (ls' := [.ref 18, .ref 12]) (st' := [.ref 18, .ref 12, .ref 19]) (E' := E) (I' := I) (J' := J) (S' := S) am_e29 rfl rfl rfl rfl ?_
    refine w_st (i' := 9) (ls' := [.ref 18, .ref 12]) (st' := [.ref 12, .ref 18, .ref 12, .ref 19]) (E' := E) (I' := I) (J' := J) (S' := S) am_e29 rfl rfl rfl rfl ?_
    refine w_st (i' := 10) (ls' := [.ref 18, .ref 12]) (st' := [.ref 17, .ref 18, .ref 12, .ref 19]) (E' := E) (I' := I) (J' := J) (S' := S) am_e29 rfl rfl rfl rfl ?_
    refine w_st (i' := 11) (ls' := [.ref 18, .ref 12]) (st' := [.int (nI 0), .ref 17, .ref 18, .ref 12, .ref 19]) (E' := E) (I' := I) (J' := J) (S' := S) am_e29 rfl rfl rfl rfl ?_
    refine w_ia (k := 17) (n := 4) (jn := 0) am_e29 rfl rfl (by decide) (vp_in_nI (by decide) (by decide)) rfl ?_
    show am_ww 29 12 [.ref 18, .ref 12] [.int ((I 17) 0), .ref 18, .ref 12, .ref 19] E I J S _
    refine w_cI am_e29 rfl rfl (as := [.ref 19, .ref 12, .ref 18, .int ((I 17) 0)]) (rest := []) rfl rfl (am_ww.mono h ?_)
    rintro _ E1 I1 J1 S1 ⟨v1, rfl, h⟩
    refine q_mkI ?_
    refine w_if1 am_e29 rfl rfl (fun c => ?_) (fun c => ?_)
    · replace h := h.2 (of_decide_eq_true c)
      refine w_st (i' := 17) (ls' := [.ref 18, .ref 12]) (st' := [.ref 18]) (E' := E1) (I' := I1) (J' := J1) (S' := S1) am_e29 rfl rfl rfl rfl ?_
      refine w_st (i' := 18) (ls' := [.ref 18, .ref 12]) (st' := [.ref 19]) (E' := E1) (I' := I1) (J' := J1) (S' := S1) am_e29 rfl rfl rfl rfl ?_
      refine w_st (i' := 19) (ls' := [.ref 18, .ref 12]) (st' := [.int ((I1 19) 4)]) (E' := E1) (I' := I1) (J' := J1) (S' := S1) am_e29 rfl rfl rfl rfl ?_
      refine w_if1 am_e29 rfl rfl (fun c => ?_) (fun c => ?_)
      · replace h := h.1 (of_decide_eq_true c)
        exact h
      · replace h := h.2 (of_decide_eq_false c)
        refine w_st (i' := 21) (ls' := [.ref 18, .ref 12]) (st' := [.ref 18]) (E' := E1) (I' := I1) (J' := J1) (S' := S1) am_e29 rfl rfl rfl rfl ?_
        refine w_st (i' := 22) (ls' := [.ref 18, .ref 12]) (st' := [.int ((I1 18) 9)]) (E' := E1) (I' := I1) (J' := J1) (S' := S1) am_e29 rfl rfl rfl rfl ?_
        refine w_st (i' := 23) (ls' := [.ref 18, .ref 12]) (st' := [.int (nI 400), .int ((I1 18) 9)]) (E' := E1) (I' := I1) (J' := J1) (S' := S1) am_e29 rfl rfl rfl rfl ?_
        refine w_if2 am_e29 rfl rfl (fun c => ?_) (fun c => ?_)
        · replace h := h.1 (of_decide_eq_true c)
          exact h
        · replace h := h.2 (of_decide_eq_false c)
          refine w_st (i' := 25) (ls' := [.ref 18, .ref 12]) (st' := [.ref 18]) (E' := E1) (I' := I1) (J' := J1) (S' := S1) am_e29 rfl rfl rfl rfl ?_
          refine w_st (i' := 26) (ls' := [.ref 18, .ref 12]) (st' := [.ref 29]) (E' := E1) (I' := I1) (J' := J1) (S' := S1) am_e29 rfl rfl rfl rfl ?_
          refine w_st (i' := 27) (ls' := [.ref 18, .ref 12]) (st' := [.ref 18, .ref 29]) (E' := E1) (I' := I1) (J' := J1) (S' := S1) am_e29 rfl rfl rfl rfl ?_
          refine w_st (i' := 28) (ls' := [.ref 18, .ref 12]) (st' := [.int ((I1 18) 9), .ref 29]) (E' := E1) (I' := I1) (J' := J1) (S' := S1) am_e29 rfl rfl rfl rfl ?_
          refine w_st (i' := 29) (ls' := [.ref 18, .ref 12]) (st' := [.ref 18, .int ((I1 18) 9), .ref 29]) (E' := E1) (I' := I1) (J' := J1) (S' := S1) am_e29 rfl rfl rfl rfl ?_
          refine w_st (i' := 30) (ls' := [.ref 18, .ref 12]) (st' := [.ref 19, .int ((I1 18) 9), .ref 29]) (E' := E1) (I' := I1) (J' := J1) (S' := S1) am_e29 rfl rfl rfl rfl ?_
          refine w_st (i' := 31) (ls' := [.ref 18, .ref 12]) (st' := [.int ((I1 19) 5), .int ((I1 18) 9), .ref 29]) (E' := E1) (I' := I1) (J' := J1) (S' := S1) am_e29 rfl rfl rfl rfl ?_
          have hf2 := h.1
          replace h := h.2
          refine w_is (k := 29) (n := 400) (jn := ((I1 18) 9).toNatClampNeg) am_e29 rfl rfl (by decide) hf2 rfl ?_
          show am_ww 29 32 [.ref 18, .ref 12] [] E1 (u_I I1 29 (upd (I1 29) (((I1 18) 9).toNatClampNeg) ((I1 19) 5))) J1 S1 _
          refine w_st (i' := 33) (ls' := [.ref 18, .ref 12]) (st' := [.ref 18]) (E' := E1) (I' := (u_I I1 29 (upd (I1 29) (((I1 18) 9).toNatClampNeg) ((I1 19) 5)))) (J' := J1) (S' := S1) am_e29 rfl rfl rfl rfl ?_
          refine w_st (i' := 34) (ls' := [.ref 18, .ref 12]) (st' := [.ref 30]) (E' := E1) (I' := (u_I I1 29 (upd (I1 29) (((I1 18) 9).toNatClampNeg) ((I1 19) 5)))) (J' := J1) (S' := S1) am_e29 rfl rfl rfl rfl ?_
          refine w_st (i' := 35) (ls' := [.ref 18, .ref 12]) (st' := [.ref 18, .ref 30]) (E' := E1) (I' := (u_I I1 29 (upd (I1 29) (((I1 18) 9).toNatClampNeg) ((I1 19) 5)))) (J' := J1) (S' := S1) am_e29 rfl rfl rfl rfl ?_
          refine w_st (i' := 36) (ls' := [.ref 18, .ref 12]) (st' := [.int ((I1 18) 9), .ref 30]) (E' := E1) (I' := (u_I I1 29 (upd (I1 29) (((I1 18) 9).toNatClampNeg) ((I1 19) 5)))) (J' := J1) (S' := S1) am_e29 rfl rfl rfl rfl ?_
          refine w_st (i' := 37) (ls' := [.ref 18, .ref 12]) (st' := [.ref 18, .int ((I1 18) 9), .ref 30]) (E' := E1) (I' := (u_I I1 29 (upd (I1 29) (((I1 18) 9).toNatClampNeg) ((I1 19) 5)))) (J' := J1) (S' := S1) am_e29 rfl rfl rfl rfl ?_
          refine w_st (i' := 38) (ls' := [.ref 18, .ref 12]) (st' := [.ref 19, .int ((I1 18) 9), .ref 30]) (E' := E1) (I' := (u_I I1 29 (upd (I1 29) (((I1 18) 9).toNatClampNeg) ((I1 19) 5)))) (J' := J1) (S' := S1) am_e29 rfl rfl rfl rfl ?_
          refine w_st (i' := 39) (ls' := [.ref 18, .ref 12]) (st' := [.int ((I1 19) 6), .int ((I1 18) 9), .ref 30]) (E' := E1) (I' := (u_I I1 29 (upd (I1 29) (((I1 18) 9).toNatClampNeg) ((I1 19) 5)))) (J' := J1) (S' := S1) am_e29 rfl rfl rfl rfl ?_
          refine w_is (k := 30) (n := 400) (jn := ((I1 18) 9).toNatClampNeg) am_e29 rfl rfl (by decide) hf2 rfl ?_
          show am_ww 29 40 [.ref 18, .ref 12] [] E1 (u_I (u_I I1 29 (upd (I1 29) (((I1 18) 9).toNatClampNeg) ((I1 19) 5))) 30 (upd (I1 30) (((I1 18) 9).toNatClampNeg) ((I1 19) 6))) J1 S1 _
          refine w_st (i' := 41) (ls' := [.ref 18, .ref 12]) (st' := [.ref 18]) (E' := E1) (I' := (u_I (u_I I1 29 (upd (I1 29) (((I1 18) 9).toNatClampNeg) ((I1 19) 5))) 30 (upd (I1 30) (((I1 18) 9).toNatClampNeg) ((I1 19) 6)))) (J' := J1) (S' := S1) am_e29 rfl rfl rfl rfl ?_
          refine w_st (i' := 42) (ls' := [.ref 18, .ref 12]) (st' := [.ref 31]) (E' := E1) (I' := (u_I (u_I I1 29 (upd (I1 29) (((I1 18) 9).toNatClampNeg) ((I1 19) 5))) 30 (upd (I1 30) (((I1 18) 9).toNatClampNeg) ((I1 19) 6)))) (J' := J1) (S' := S1) am_e29 rfl rfl rfl rfl ?_
          refine w_st (i' := 43) (ls' := [.ref 18, .ref 12]) (st' := [.ref 18, .ref 31]) (E' := E1) (I' := (u_I (u_I I1 29 (upd (I1 29) (((I1 18) 9).toNatClampNeg) ((I1 19) 5))) 30 (upd (I1 30) (((I1 18) 9).toNatClampNeg) ((I1 19) 6)))) (J' := J1) (S' := S1) am_e29 rfl rfl rfl rfl ?_
          refine w_st (i' := 44) (ls' := [.ref 18, .ref 12]) (st' := [.int ((I1 18) 9), .ref 31]) (E' := E1) (I' := (u_I (u_I I1 29 (upd (I1 29) (((I1 18) 9).toNatClampNeg) ((I1 19) 5))) 30 (upd (I1 30) (((I1 18) 9).toNatClampNeg) ((I1 19) 6)))) (J' := J1) (S' := S1) am_e29 rfl rfl rfl rfl ?_
          refine w_st (i' := 45) (ls' := [.ref 18, .ref 12]) (st' := [.ref 18, .int ((I1 18) 9), .ref 31]) (E' := E1) (I' := (u_I (u_I I1 29 (upd (I1 29) (((I1 18) 9).toNatClampNeg) ((I1 19) 5))) 30 (upd (I1 30) (((I1 18) 9).toNatClampNeg) ((I1 19) 6)))) (J' := J1) (S' := S1) am_e29 rfl rfl rfl rfl ?_
          refine w_st (i' := 46) (ls' := [.ref 18, .ref 12]) (st' := [.ref 19, .int ((I1 18) 9), .ref 31]) (E' := E1) (I' := (u_I (u_I I1 29 (upd (I1 29) (((I1 18) 9).toNatClampNeg) ((I1 19) 5))) 30 (upd (I1 30) (((I1 18) 9).toNatClampNeg) ((I1 19) 6)))) (J' := J1) (S' := S1) am_e29 rfl rfl rfl rfl ?_
          refine w_st (i' := 47) (ls' := [.ref 18, .ref 12]) (st' := [.ref 20, .int ((I1 18) 9), .ref 31]) (E' := E1) (I' := (u_I (u_I I1 29 (upd (I1 29) (((I1 18) 9).toNatClampNeg) ((I1 19) 5))) 30 (upd (I1 30) (((I1 18) 9).toNatClampNeg) ((I1 19) 6)))) (J' := J1) (S' := S1) am_e29 rfl rfl rfl rfl ?_
          refine w_st (i' := 48) (ls' := [.ref 18, .ref 12]) (st' := [.int ((I1 20) 6), .int ((I1 18) 9), .ref 31]) (E' := E1) (I' := (u_I (u_I I1 29 (upd (I1 29) (((I1 18) 9).toNatClampNeg) ((I1 19) 5))) 30 (upd (I1 30) (((I1 18) 9).toNatClampNeg) ((I1 19) 6)))) (J' := J1) (S' := S1) am_e29 rfl rfl rfl rfl ?_
          refine w_is (k := 31) (n := 400) (jn := ((I1 18) 9).toNatClampNeg) am_e29 rfl rfl (by decide) hf2 rfl ?_
          show am_ww 29 49 [.ref 18, .ref 12] [] E1 (u_I (u_I (u_I I1 29 (upd (I1 29) (((I1 18) 9).toNatClampNeg) ((I1 19) 5))) 30 (upd (I1 30) (((I1 18) 9).toNatClampNeg) ((I1 19) 6))) 31 (upd (I1 31) (((I1 18) 9).toNatClampNeg) ((I1 20) 6))) J1 S1 _
          refine w_st (i' := 50) (ls' := [.ref 18, .ref 12]) (st' := [.ref 18]) (E' := E1) (I' := (u_I (u_I (u_I I1 29 (upd (I1 29) (((I1 18) 9).toNatClampNeg) ((I1 19) 5))) 30 (upd (I1 30) (((I1 18) 9).toNatClampNeg) ((I1 19) 6))) 31 (upd (I1 31) (((I1 18) 9).toNatClampNeg) ((I1 20) 6)))) (J' := J1) (S' := S1) am_e29 rfl rfl rfl rfl ?_
          refine w_st (i' := 51) (ls' := [.ref 18, .ref 12]) (st' := [.ref 18, .ref 18]) (E' := E1) (I' := (u_I (u_I (u_I I1 29 (upd (I1 29) (((I1 18) 9).toNatClampNeg) ((I1 19) 5))) 30 (upd (I1 30) (((I1 18) 9).toNatClampNeg) ((I1 19) 6))) 31 (upd (I1 31) (((I1 18) 9).toNatClampNeg) ((I1 20) 6)))) (J' := J1) (S' := S1) am_e29 rfl rfl rfl rfl ?_
          refine w_st (i' := 52) (ls' := [.ref 18, .ref 12]) (st' := [.int ((I1 18) 9), .ref 18]) (E' := E1) (I' := (u_I (u_I (u_I I1 29 (upd (I1 29) (((I1 18) 9).toNatClampNeg) ((I1 19) 5))) 30 (upd (I1 30) (((I1 18) 9).toNatClampNeg) ((I1 19) 6))) 31 (upd (I1 31) (((I1 18) 9).toNatClampNeg) ((I1 20) 6)))) (J' := J1) (S' := S1) am_e29 rfl rfl rfl rfl ?_
          refine w_st (i' := 53) (ls' := [.ref 18, .ref 12]) (st' := [.int (nI 1), .int ((I1 18) 9), .ref 18]) (E' := E1) (I' := (u_I (u_I (u_I I1 29 (upd (I1 29) (((I1 18) 9).toNatClampNeg) ((I1 19) 5))) 30 (upd (I1 30) (((I1 18) 9).toNatClampNeg) ((I1 19) 6))) 31 (upd (I1 31) (((I1 18) 9).toNatClampNeg) ((I1 20) 6)))) (J' := J1) (S' := S1) am_e29 rfl rfl rfl rfl ?_
          refine w_st (i' := 54) (ls' := [.ref 18, .ref 12]) (st' := [.int (((I1 18) 9) + (nI 1)), .ref 18]) (E' := E1) (I' := (u_I (u_I (u_I I1 29 (upd (I1 29) (((I1 18) 9).toNatClampNeg) ((I1 19) 5))) 30 (upd (I1 30) (((I1 18) 9).toNatClampNeg) ((I1 19) 6))) 31 (upd (I1 31) (((I1 18) 9).toNatClampNeg) ((I1 20) 6)))) (J' := J1) (S' := S1) am_e29 rfl rfl rfl rfl ?_
          refine w_st (i' := 55) (ls' := [.ref 18, .ref 12]) (st' := []) (E' := E1) (I' := (u_I (u_I (u_I (u_I I1 29 (upd (I1 29) (((I1 18) 9).toNatClampNeg) ((I1 19) 5))) 30 (upd (I1 30) (((I1 18) 9).toNatClampNeg) ((I1 19) 6))) 31 (upd (I1 31) (((I1 18) 9).toNatClampNeg) ((I1 20) 6))) 18 (upd (I1 18) 9 (((I1 18) 9) + (nI 1))))) (J' := J1) (S' := S1) am_e29 rfl rfl rfl rfl ?_
          exact h
    · replace h := h.1 (Decidable.not_not.mp (of_decide_eq_false c))
      refine w_st (i' := 15) (ls' := [.ref 18, .ref 12]) (st' := [.int (nI 0)]) (E' := E1) (I' := I1) (J' := J1) (S' := S1) am_e29 rfl rfl rfl rfl ?_
      exact w_end am_e29 rfl rfl rfl h
theorem g29_55  {E : am_Ev} {I : Nat → Nat → Int32} {J : Nat → Nat → Int64} {S : Nat → Nat → Option Nat} {Q : am_Qt}  (h : vp_in (((I 18) 10) + (nI 1)) 401 ∧ (∀ w2 : Int32, w2 = (if (nI 1) < ((I 17) 2) then ((I 17) 2) else (nI 1)) → ((¬ w2 = 0) ∧ ((((((I 18) 10) + (nI 1)) - (((I 18) 10) + (nI 1)) / w2 * w2) = 0 → (∀ w3 : Int32, w3 = (if (nI 1) < ((I 17) 2) then ((I 17) 2) else (nI 1)) → ((¬ w3 = 0) ∧ (am_cl 40 [.ref 20, .ref 12] E (u_I (u_I I 18 (upd (I 18) 10 (((I 18) 10) + (nI 1)))) 33 (upd (I 33) ((((I 18) 10) + (nI 1)).toNatClampNeg) ((I 19) 3))) J S (q_I fun v4 E4 I4 J4 S4 => vp_in (((((I 18) 10) + (nI 1)) / w3) - (nI 1)) 400 ∧ (Q (.inl (some (.int (nI 1)))) E4 (u_I I4 32 (upd (I4 32) ((((((I 18) 10) + (nI 1)) / w3) - (nI 1)).toNatClampNeg) v4)) J4 S4)))))) ∧ (¬ ((((I 18) 10) + (nI 1)) - (((I 18) 10) + (nI 1)) / w2 * w2) = 0 → (Q (.inl (some (.int (nI 1)))) E (u_I (u_I I 18 (upd (I 18) 10 (((I 18) 10) + (nI 1)))) 33 (upd (I 33) ((((I 18) 10) + (nI 1)).toNatClampNeg) ((I 19) 3))) J S)))))) : am_ww 29 55 [.ref 18, .ref 12] [] E I J S Q := by
  refine w_st (i' := 56) (ls' := [.ref 18, .ref 12]) (st' := [.ref 18]) (E' := E) (I' := I) (J' := J) (S' := S) am_e29 rfl rfl rfl rfl ?_
  refine w_st (i' := 57) (ls' := [.ref 18, .ref 12]) (st' := [.ref 18, .ref 18]) (E' := E) (I' := I) (J' := J) (S' := S) am_e29 rfl rfl rfl rfl ?_
  refine w_st (i' := 58) (ls' := [.ref 18, .ref 12]) (st' := [.int ((I 18) 10), .ref 18]) (E' := E) (I' := I) (J' := J) (S' := S) am_e29 rfl rfl rfl rfl ?_
  refine w_st (i' := 59) (ls' := [.ref 18, .ref 12]) (st' := [.int (nI 1), .int ((I 18) 10), .ref 18]) (E' := E) (I' := I) (J' := J) (S' := S) am_e29 rfl rfl rfl rfl ?_
  refine w_st (i' := 60) (ls' := [.ref 18, .ref 12]) (st' := [.int (((I 18) 10) + (nI 1)), .ref 18]) (E' := E) (I' := I) (J' := J) (S' := S) am_e29 rfl rfl rfl rfl ?_
  refine w_st (i' := 61) (ls' := [.ref 18, .ref 12]) (st' := []) (E' := E) (I' := (u_I I 18 (upd (I 18) 10 (((I 18) 10) + (nI 1))))) (J' := J) (S' := S) am_e29 rfl rfl rfl rfl ?_
  refine w_st (i' := 62) (ls' := [.ref 18, .ref 12]) (st' := [.ref 18]) (E' := E) (I' := (u_I I 18 (upd (I 18) 10 (((I 18) 10) + (nI 1))))) (J' := J) (S' := S) am_e29 rfl rfl rfl rfl ?_
  refine w_st (i' := 63) (ls' := [.ref 18, .ref 12]) (st' := [.ref 33]) (E' := E) (I' := (u_I I 18 (upd (I 18) 10 (((I 18) 10) + (nI 1))))) (J' := J) (S' := S) am_e29 rfl rfl rfl rfl ?_
  refine w_st (i' := 64) (ls' := [.ref 18, .ref 12]) (st' := [.ref 18, .ref 33]) (E' := E) (I' := (u_I I 18 (upd (I 18) 10 (((I 18) 10) + (nI 1))))) (J' := J) (S' := S) am_e29 rfl rfl rfl rfl ?_
  refine w_st (i' := 65) (ls' := [.ref 18, .ref 12]) (st' := [.int (((I 18) 10) + (nI 1)), .ref 33]) (E' := E) (I' := (u_I I 18 (upd (I 18) 10 (((I 18) 10) + (nI 1))))) (J' := J) (S' := S) am_e29 rfl rfl rfl rfl ?_
  refine w_st (i' := 66) (ls' := [.ref 18, .ref 12]) (st' := [.ref 18, .int (((I 18) 10) + (nI 1)), .ref 33]) (E' := E) (I' := (u_I I 18 (upd (I 18) 10 (((I 18) 10) + (nI 1))))) (J' := J) (S' := S) am_e29 rfl rfl rfl rfl ?_
  refine w_st (i' := 67) (ls' := [.ref 18, .ref 12]) (st' := [.ref 19, .int (((I 18) 10) + (nI 1)), .ref 33]) (E' := E) (I' := (u_I I 18 (upd (I 18) 10 (((I 18) 10) + (nI 1))))) (J' := J) (S' := S) am_e29 rfl rfl rfl rfl ?_
  refine w_st (i' := 68) (ls' := [.ref 18, .ref 12]) (st' := [.int ((I 19) 3), .int (((I 18) 10) + (nI 1)), .ref 33]) (E' := E) (I' := (u_I I 18 (upd (I 18) 10 (((I 18) 10) + (nI 1))))) (J' := J) (S' := S) am_e29 rfl rfl rfl rfl ?_
  have hf1 := h.1
  replace h := h.2
  refine w_is (k := 33) (n := 401) (jn := (((I 18) 10) + (nI 1)).toNatClampNeg) am_e29 rfl rfl (by decide) hf1 rfl ?_
  show am_ww 29 69 [.ref 18, .ref 12] [] E (u_I (u_I I 18 (upd (I 18) 10 (((I 18) 10) + (nI 1)))) 33 (upd (I 33) ((((I 18) 10) + (nI 1)).toNatClampNeg) ((I 19) 3))) J S _
  refine w_st (i' := 70) (ls' := [.ref 18, .ref 12]) (st' := [.ref 18]) (E' := E) (I' := (u_I (u_I I 18 (upd (I 18) 10 (((I 18) 10) + (nI 1)))) 33 (upd (I 33) ((((I 18) 10) + (nI 1)).toNatClampNeg) ((I 19) 3)))) (J' := J) (S' := S) am_e29 rfl rfl rfl rfl ?_
  refine w_st (i' := 71) (ls' := [.ref 18, .ref 12]) (st' := [.int (((I 18) 10) + (nI 1))]) (E' := E) (I' := (u_I (u_I I 18 (upd (I 18) 10 (((I 18) 10) + (nI 1)))) 33 (upd (I 33) ((((I 18) 10) + (nI 1)).toNatClampNeg) ((I 19) 3)))) (J' := J) (S' := S) am_e29 rfl rfl rfl rfl ?_
  refine w_st (i' := 72) (ls' := [.ref 18, .ref 12]) (st' := [.ref 12, .int (((I 18) 10) + (nI 1))]) (E' := E) (I' := (u_I (u_I I 18 (upd (I 18) 10 (((I 18) 10) + (nI 1)))) 33 (upd (I 33) ((((I 18) 10) + (nI 1)).toNatClampNeg) ((I 19) 3)))) (J' := J) (S' := S) am_e29 rfl rfl rfl rfl ?_
  refine w_cI am_e29 rfl rfl (as := [.ref 12]) (rest := [.int (((I 18) 10) + (nI 1))]) rfl rfl ?_
  show am_ww 39 0 [.ref 12] [] E (u_I (u_I I 18 (upd (I 18) 10 (((I 18) 10) + (nI 1)))) 33 (upd (I 33) ((((I 18) 10) + (nI 1)).toNatClampNeg) ((I 19) 3))) J S _
  refine w_st (i' := 1) (ls' := [.ref 12]) (st' := [.int (nI 1)]) (E' := E) (I' := (u_I (u_I I 18 (upd (I 18) 10 (((I 18) 10) + (nI 1)))) 33 (upd (I 33) ((((I 18) 10) + (nI 1)).toNatClampNeg) ((I 19) 3)))) (J' := J) (S' := S) am_e39 rfl rfl rfl rfl ?_
  refine w_st (i' := 2) (ls' := [.ref 12]) (st' := [.ref 12, .int (nI 1)]) (E' := E) (I' := (u_I (u_I I 18 (upd (I 18) 10 (((I 18) 10) + (nI 1)))) 33 (upd (I 33) ((((I 18) 10) + (nI 1)).toNatClampNeg) ((I 19) 3)))) (J' := J) (S' := S) am_e39 rfl rfl rfl rfl ?_
  refine w_st (i' := 3) (ls' := [.ref 12]) (st' := [.ref 17, .int (nI 1)]) (E' := E) (I' := (u_I (u_I I 18 (upd (I 18) 10 (((I 18) 10) + (nI 1)))) 33 (upd (I 33) ((((I 18) 10) + (nI 1)).toNatClampNeg) ((I 19) 3)))) (J' := J) (S' := S) am_e39 rfl rfl rfl rfl ?_
  refine w_st (i' := 4) (ls' := [.ref 12]) (st' := [.int (nI 2), .ref 17, .int (nI 1)]) (E' := E) (I' := (u_I (u_I I 18 (upd (I 18) 10 (((I 18) 10) + (nI 1)))) 33 (upd (I 33) ((((I 18) 10) + (nI 1)).toNatClampNeg) ((I 19) 3)))) (J' := J) (S' := S) am_e39 rfl rfl rfl rfl ?_
  refine w_ia (k := 17) (n := 4) (jn := 2) am_e39 rfl rfl (by decide) (vp_in_nI (by decide) (by decide)) rfl ?_
  show am_ww 39 5 [.ref 12] [.int ((I 17) 2), .int (nI 1)] E (u_I (u_I I 18 (upd (I 18) 10 (((I 18) 10) + (nI 1)))) 33 (upd (I 33) ((((I 18) 10) + (nI 1)).toNatClampNeg) ((I 19) 3))) J S _
  refine w_st (i' := 6) (ls' := [.ref 12]) (st' := [.int (if (nI 1) < ((I 17) 2) then ((I 17) 2) else (nI 1))]) (E' := E) (I' := (u_I (u_I I 18 (upd (I 18) 10 (((I 18) 10) + (nI 1)))) 33 (upd (I 33) ((((I 18) 10) + (nI 1)).toNatClampNeg) ((I 19) 3)))) (J' := J) (S' := S) am_e39 rfl rfl rfl rfl ?_
  refine w_ri am_e39 rfl rfl (q_mkI ?_)
  show am_ww 29 73 [.ref 18, .ref 12] [.int (if (nI 1) < ((I 17) 2) then ((I 17) 2) else (nI 1)), .int (((I 18) 10) + (nI 1))] E (u_I (u_I I 18 (upd (I 18) 10 (((I 18) 10) + (nI 1)))) 33 (upd (I 33) ((((I 18) 10) + (nI 1)).toNatClampNeg) ((I 19) 3))) J S _
  refine w_var (fun w2 => am_ww 29 73 [.ref 18, .ref 12] [.int w2, .int (((I 18) 10) + (nI 1))] E (u_I (u_I I 18 (upd (I 18) 10 (((I 18) 10) + (nI 1)))) 33 (upd (I 33) ((((I 18) 10) + (nI 1)).toNatClampNeg) ((I 19) 3))) J S _) (if (nI 1) < ((I 17) 2) then ((I 17) 2) else (nI 1)) (fun w2 hw2 => ?_)
  replace h := h w2 hw2
  refine w_rm h.1 am_e29 rfl ?_
  replace h := h.2
  refine w_if1 am_e29 rfl rfl (fun c => ?_) (fun c => ?_)
  · replace h := h.2 (of_decide_eq_true c)
    refine w_st (i' := 91) (ls' := [.ref 18, .ref 12]) (st' := [.int (nI 1)]) (E' := E) (I' := (u_I (u_I I 18 (upd (I 18) 10 (((I 18) 10) + (nI 1)))) 33 (upd (I 33) ((((I 18) 10) + (nI 1)).toNatClampNeg) ((I 19) 3)))) (J' := J) (S' := S) am_e29 rfl rfl rfl rfl ?_
    exact w_end am_e29 rfl rfl rfl h
  · replace h := h.1 (Decidable.not_not.mp (of_decide_eq_false c))
    refine w_st (i' := 76) (ls' := [.ref 18, .ref 12]) (st' := [.ref 18]) (E' := E) (I' := (u_I (u_I I 18 (upd (I 18) 10 (((I 18) 10) + (nI 1)))) 33 (upd (I 33) ((((I 18) 10) + (nI 1)).toNatClampNeg) ((I 19) 3)))) (J' := J) (S' := S) am_e29 rfl rfl rfl rfl ?_
    refine w_st (i' := 77) (ls' := [.ref 18, .ref 12]) (st' := [.ref 32]) (E' := E) (I' := (u_I (u_I I 18 (upd (I 18) 10 (((I 18) 10) + (nI 1)))) 33 (upd (I 33) ((((I 18) 10) + (nI 1)).toNatClampNeg) ((I 19) 3)))) (J' := J) (S' := S) am_e29 rfl rfl rfl rfl ?_
    refine w_st (i' := 78) (ls' := [.ref 18, .ref 12]) (st' := [.ref 18, .ref 32]) (E' := E) (I' := (u_I (u_I I 18 (upd (I 18) 10 (((I 18) 10) + (nI 1)))) 33 (upd (I 33) ((((I 18) 10) + (nI 1)).toNatClampNeg) ((I 19) 3)))) (J' := J) (S' := S) am_e29 rfl rfl rfl rfl ?_
    refine w_st (i' := 79) (ls' := [.ref 18, .ref 12]) (st' := [.int (((I 18) 10) + (nI 1)), .ref 32]) (E' := E) (I' := (u_I (u_I I 18 (upd (I 18) 10 (((I 18) 10) + (nI 1)))) 33 (upd (I 33) ((((I 18) 10) + (nI 1)).toNatClampNeg) ((I 19) 3)))) (J' := J) (S' := S) am_e29 rfl rfl rfl rfl ?_
    refine w_st (i' := 80) (ls' := [.ref 18, .ref 12]) (st' := [.ref 12, .int (((I 18) 10) + (nI 1)), .ref 32]) (E' := E) (I' := (u_I (u_I I 18 (upd (I 18) 10 (((I 18) 10) + (nI 1)))) 33 (upd (I 33) ((((I 18) 10) + (nI 1)).toNatClampNeg) ((I 19) 3)))) (J' := J) (S' := S) am_e29 rfl rfl rfl rfl ?_
    refine w_cI am_e29 rfl rfl (as := [.ref 12]) (rest := [.int (((I 18) 10) + (nI 1)), .ref 32]) rfl rfl ?_
    show am_ww 39 0 [.ref 12] [] E (u_I (u_I I 18 (upd (I 18) 10 (((I 18) 10) + (nI 1)))) 33 (upd (I 33) ((((I 18) 10) + (nI 1)).toNatClampNeg) ((I 19) 3))) J S _
    refine w_st (i' := 1) (ls' := [.ref 12]) (st' := [.int (nI 1)]) (E' := E) (I' := (u_I (u_I I 18 (upd (I 18) 10 (((I 18) 10) + (nI 1)))) 33 (upd (I 33) ((((I 18) 10) + (nI 1)).toNatClampNeg) ((I 19) 3)))) (J' := J) (S' := S) am_e39 rfl rfl rfl rfl ?_
    refine w_st (i' := 2) (ls' := [.ref 12]) (st' := [.ref 12, .int (nI 1)]) (E' := E) (I' := (u_I (u_I I 18 (upd (I 18) 10 (((I 18) 10) + (nI 1)))) 33 (upd (I 33) ((((I 18) 10) + (nI 1)).toNatClampNeg) ((I 19) 3)))) (J' := J) (S' := S) am_e39 rfl rfl rfl rfl ?_
    refine w_st (i' := 3) (ls' := [.ref 12]) (st' := [.ref 17, .int (nI 1)]) (E' := E) (I' := (u_I (u_I I 18 (upd (I 18) 10 (((I 18) 10) + (nI 1)))) 33 (upd (I 33) ((((I 18) 10) + (nI 1)).toNatClampNeg) ((I 19) 3)))) (J' := J) (S' := S) am_e39 rfl rfl rfl rfl ?_
    refine w_st (i' := 4) (ls' := [.ref 12]) (st' := [.int (nI 2), .ref 17, .int (nI 1)]) (E' := E) (I' := (u_I (u_I I 18 (upd (I 18) 10 (((I 18) 10) + (nI 1)))) 33 (upd (I 33) ((((I 18) 10) + (nI 1)).toNatClampNeg) ((I 19) 3)))) (J' := J) (S' := S) am_e39 rfl rfl rfl rfl ?_
    refine w_ia (k := 17) (n := 4) (jn := 2) am_e39 rfl rfl (by decide) (vp_in_nI (by decide) (by decide)) rfl ?_
    show am_ww 39 5 [.ref 12] [.int ((I 17) 2), .int (nI 1)] E (u_I (u_I I 18 (upd (I 18) 10 (((I 18) 10) + (nI 1)))) 33 (upd (I 33) ((((I 18) 10) + (nI 1)).toNatClampNeg) ((I 19) 3))) J S _
    refine w_st (i' := 6) (ls' := [.ref 12]) (st' := [.int (if (nI 1) < ((I 17) 2) then ((I 17) 2) else (nI 1))]) (E' := E) (I' := (u_I (u_I I 18 (upd (I 18) 10 (((I 18) 10) + (nI 1)))) 33 (upd (I 33) ((((I 18) 10) + (nI 1)).toNatClampNeg) ((I 19) 3)))) (J' := J) (S' := S) am_e39 rfl rfl rfl rfl ?_
    refine w_ri am_e39 rfl rfl (q_mkI ?_)
    show am_ww 29 81 [.ref 18, .ref 12] [.int (if (nI 1) < ((I 17) 2) then ((I 17) 2) else (nI 1)), .int (((I 18) 10) + (nI 1)), .ref 32] E (u_I (u_I I 18 (upd (I 18) 10 (((I 18) 10) + (nI 1)))) 33 (upd (I 33) ((((I 18) 10) + (nI 1)).toNatClampNeg) ((I 19) 3))) J S _
    refine w_var (fun w3 => am_ww 29 81 [.ref 18, .ref 12] [.int w3, .int (((I 18) 10) + (nI 1)), .ref 32] E (u_I (u_I I 18 (upd (I 18) 10 (((I 18) 10) + (nI 1)))) 33 (upd (I 33) ((((I 18) 10) + (nI 1)).toNatClampNeg) ((I 19) 3))) J S _) (if (nI 1) < ((I 17) 2) then ((I 17) 2) else (nI 1)) (fun w3 hw3 => ?_)
    replace h := h w3 hw3
    refine w_dv h.1 am_e29 rfl ?_
    replace h := h.2
    refine w_st (i' := 83) (ls' := [.ref 18, .ref 12]) (st' := [.int (nI 1), .int ((((I 18) 10) + (nI 1)) / w3), .ref 32]) (E' := E) (I' := (u_I (u_I I 18 (upd (I 18) 10 (((I 18) 10) + (nI 1)))) 33 (upd (I 33) ((((I 18) 10) + (nI 1)).toNatClampNeg) ((I 19) 3)))) (J' := J) (S' := S) am_e29 rfl rfl rfl rfl ?_
    refine w_st (i' := 84) (ls' := [.ref 18, .ref 12]) (st' := [.int (((((I 18) 10) + (nI 1)) / w3) - (nI 1)), .ref 32]) (E' := E) (I' := (u_I (u_I I 18 (upd (I 18) 10 (((I 18) 10) + (nI 1)))) 33 (upd (I 33) ((((I 18) 10) + (nI 1)).toNatClampNeg) ((I 19) 3)))) (J' := J) (S' := S) am_e29 rfl rfl rfl rfl ?_
    refine w_st (i' := 85) (ls' := [.ref 18, .ref 12]) (st' := [.ref 18, .int (((((I 18) 10) + (nI 1)) / w3) - (nI 1)), .ref 32]) (E' := E) (I' := (u_I (u_I I 18 (upd (I 18) 10 (((I 18) 10) + (nI 1)))) 33 (upd (I 33) ((((I 18) 10) + (nI 1)).toNatClampNeg) ((I 19) 3)))) (J' := J) (S' := S) am_e29 rfl rfl rfl rfl ?_
    refine w_st (i' := 86) (ls' := [.ref 18, .ref 12]) (st' := [.ref 19, .int (((((I 18) 10) + (nI 1)) / w3) - (nI 1)), .ref 32]) (E' := E) (I' := (u_I (u_I I 18 (upd (I 18) 10 (((I 18) 10) + (nI 1)))) 33 (upd (I 33) ((((I 18) 10) + (nI 1)).toNatClampNeg) ((I 19) 3)))) (J' := J) (S' := S) am_e29 rfl rfl rfl rfl ?_
    refine w_st (i' := 87) (ls' := [.ref 18, .ref 12]) (st' := [.ref 20, .int (((((I 18) 10) + (nI 1)) / w3) - (nI 1)), .ref 32]) (E' := E) (I' := (u_I (u_I I 18 (upd (I 18) 10 (((I 18) 10) + (nI 1)))) 33 (upd (I 33) ((((I 18) 10) + (nI 1)).toNatClampNeg) ((I 19) 3)))) (J' := J) (S' := S) am_e29 rfl rfl rfl rfl ?_
    refine w_st (i' := 88) (ls' := [.ref 18, .ref 12]) (st' := [.ref 12, .ref 20, .int (((((I 18) 10) + (nI 1)) / w3) - (nI 1)), .ref 32]) (E' := E) (I' := (u_I (u_I I 18 (upd (I 18) 10 (((I 18) 10) + (nI 1)))) 33 (upd (I 33) ((((I 18) 10) + (nI 1)).toNatClampNeg) ((I 19) 3)))) (J' := J) (S' := S) am_e29 rfl rfl rfl rfl ?_
    refine w_cI am_e29 rfl rfl (as := [.ref 20, .ref 12]) (rest := [.int (((((I 18) 10) + (nI 1)) / w3) - (nI 1)), .ref 32]) rfl rfl (am_ww.mono h ?_)
    rintro _ E4 I4 J4 S4 ⟨v4, rfl, h⟩
    refine q_mkI ?_
    have hf5 := h.1
    replace h := h.2
    refine w_is (k := 32) (n := 400) (jn := (((((I 18) 10) + (nI 1)) / w3) - (nI 1)).toNatClampNeg) am_e29 rfl rfl (by decide) hf5 rfl ?_
    show am_ww 29 90 [.ref 18, .ref 12] [] E4 (u_I I4 32 (upd (I4 32) ((((((I 18) 10) + (nI 1)) / w3) - (nI 1)).toNatClampNeg) v4)) J4 S4 _
    refine w_st (i' := 91) (ls' := [.ref 18, .ref 12]) (st' := [.int (nI 1)]) (E' := E4) (I' := (u_I I4 32 (upd (I4 32) ((((((I 18) 10) + (nI 1)) / w3) - (nI 1)).toNatClampNeg) v4))) (J' := J4) (S' := S4) am_e29 rfl rfl rfl rfl ?_
    exact w_end am_e29 rfl rfl rfl h
-- 14 begin
theorem g14_0  {E : am_Ev} {I : Nat → Nat → Int32} {J : Nat → Nat → Int64} {S : Nat → Nat → Option Nat} {Q : am_Qt}  (h : am_cl 15 [.ref 19, .ref 12, .int ((I 17) 1)] E I J S (q_V fun E1 I1 J1 S1 => am_cl 13 [.ref 28, .int (nI 0)] E1 I1 J1 S1 (q_V fun E2 I2 J2 S2 => Q (.inl none) E2 (u_I (u_I I2 34 (upd (I2 34) 4 (nI 0))) 18 (upd (upd (upd (I2 18) 9 (nI 0)) 10 (nI 0)) 11 (nI 0))) J2 S2))) : am_ww 14 0 [.ref 18, .ref 12] [] E I J S Q := by
  refine w_st (i' := 1) (ls' := [.ref 18, .ref 12]) (st' := [.ref 18]) (E' := E) (I' := I) (J' := J) (S' := S) am_e14 rfl rfl rfl rfl ?_
  refine w_st (i' := 2) (ls' := [.ref 18, .ref 12]) (st' := [.ref 19]) (E' := E) (I' := I) (J' := J) (S' := S) am_e14 rfl rfl rfl rfl ?_
  refine w_st (i' := 3) (ls' := [.ref 18, .ref 12]) (st' := [.ref 12, .ref 19]) (E' := E) (I' := I) (J' := J) (S' := S) am_e14 rfl rfl rfl rfl ?_
  refine w_st (i' := 4) (ls' := [.ref 18, .ref 12]) (st' := [.ref 12, .ref 12, .ref 19]) (E' := E) (I' := I) (J' := J) (S' := S) am_e14 rfl rfl rfl rfl ?_
  refine w_st (i' := 5) (ls' := [.ref 18, .ref 12]) (st' := [.ref 17, .ref 12, .ref 19]) (E' := E) (I' := I) (J' := J) (S' := S) am_e14 rfl rfl rfl rfl ?_
  refine w_st (i' := 6) (ls' := [.ref 18, .ref 12]) (st' := [.int (nI 1), .ref 17, .ref 12, .ref 19]) (E' := E) (I' := I) (J' := J) (S' := S) am_e14 rfl rfl rfl rfl ?_
  refine w_ia (k := 17) (n := 4) (jn := 1) am_e14 rfl rfl (by decide) (vp_in_nI (by decide) (by decide)) rfl ?_
  show am_ww 14 7 [.ref 18, .ref 12] [.int ((I 17) 1), .ref 12, .ref 19] E I J S _
  refine w_cV am_e14 rfl rfl (as := [.ref 19, .ref 12, .int ((I 17) 1)]) (rest := []) rfl rfl (am_ww.mono h ?_)
  rintro _ E1 I1 J1 S1 ⟨rfl, h⟩
  refine q_mkV ?_
  refine w_st (i' := 9) (ls' := [.ref 18, .ref 12]) (st' := [.ref 18]) (E' := E1) (I' := I1) (J' := J1) (S' := S1) am_e14 rfl rfl rfl rfl ?_
  refine w_st (i' := 10) (ls' := [.ref 18, .ref 12]) (st' := [.ref 28]) (E' := E1) (I' := I1) (J' := J1) (S' := S1) am_e14 rfl rfl rfl rfl ?_
  refine w_st (i' := 11) (ls' := [.ref 18, .ref 12]) (st' := [.int (nI 0), .ref 28]) (E' := E1) (I' := I1) (J' := J1) (S' := S1) am_e14 rfl rfl rfl rfl ?_
  refine w_cV am_e14 rfl rfl (as := [.ref 28, .int (nI 0)]) (rest := []) rfl rfl (am_ww.mono h ?_)
  rintro _ E2 I2 J2 S2 ⟨rfl, h⟩
  refine q_mkV ?_
  refine w_st (i' := 13) (ls' := [.ref 18, .ref 12]) (st' := [.ref 18]) (E' := E2) (I' := I2) (J' := J2) (S' := S2) am_e14 rfl rfl rfl rfl ?_
  refine w_st (i' := 14) (ls' := [.ref 18, .ref 12]) (st' := [.ref 34]) (E' := E2) (I' := I2) (J' := J2) (S' := S2) am_e14 rfl rfl rfl rfl ?_
  refine w_st (i' := 15) (ls' := [.ref 18, .ref 12]) (st' := [.int (nI 0), .ref 34]) (E' := E2) (I' := I2) (J' := J2) (S' := S2) am_e14 rfl rfl rfl rfl ?_
  refine w_st (i' := 16) (ls' := [.ref 18, .ref 12]) (st' := []) (E' := E2) (I' := (u_I I2 34 (upd (I2 34) 4 (nI 0)))) (J' := J2) (S' := S2) am_e14 rfl rfl rfl rfl ?_
  refine w_st (i' := 17) (ls' := [.ref 18, .ref 12]) (st' := [.ref 18]) (E' := E2) (I' := (u_I I2 34 (upd (I2 34) 4 (nI 0)))) (J' := J2) (S' := S2) am_e14 rfl rfl rfl rfl ?_
  refine w_st (i' := 18) (ls' := [.ref 18, .ref 12]) (st' := [.int (nI 0), .ref 18]) (E' := E2) (I' := (u_I I2 34 (upd (I2 34) 4 (nI 0)))) (J' := J2) (S' := S2) am_e14 rfl rfl rfl rfl ?_
  refine w_st (i' := 19) (ls' := [.ref 18, .ref 12]) (st' := []) (E' := E2) (I' := (u_I (u_I I2 34 (upd (I2 34) 4 (nI 0))) 18 (upd (I2 18) 9 (nI 0)))) (J' := J2) (S' := S2) am_e14 rfl rfl rfl rfl ?_
  refine w_st (i' := 20) (ls' := [.ref 18, .ref 12]) (st' := [.ref 18]) (E' := E2) (I' := (u_I (u_I I2 34 (upd (I2 34) 4 (nI 0))) 18 (upd (I2 18) 9 (nI 0)))) (J' := J2) (S' := S2) am_e14 rfl rfl rfl rfl ?_
  refine w_st (i' := 21) (ls' := [.ref 18, .ref 12]) (st' := [.int (nI 0), .ref 18]) (E' := E2) (I' := (u_I (u_I I2 34 (upd (I2 34) 4 (nI 0))) 18 (upd (I2 18) 9 (nI 0)))) (J' := J2) (S' := S2) am_e14 rfl rfl rfl rfl ?_
  refine w_st (i' := 22) (ls' := [.ref 18, .ref 12]) (st' := []) (E' := E2) (I' := (u_I (u_I (u_I I2 34 (upd (I2 34) 4 (nI 0))) 18 (upd (I2 18) 9 (nI 0))) 18 (upd (upd (I2 18) 9 (nI 0)) 10 (nI 0)))) (J' := J2) (S' := S2) am_e14 rfl rfl rfl rfl ?_
  refine w_eI (uI_0 ..) ?_
  show am_ww 14 22 [.ref 18, .ref 12] [] E2 (u_I (u_I I2 34 (upd (I2 34) 4 (nI 0))) 18 (upd (upd (I2 18) 9 (nI 0)) 10 (nI 0))) J2 S2 _
  refine w_st (i' := 23) (ls' := [.ref 18, .ref 12]) (st' := [.ref 18]) (E' := E2) (I' := (u_I (u_I I2 34 (upd (I2 34) 4 (nI 0))) 18 (upd (upd (I2 18) 9 (nI 0)) 10 (nI 0)))) (J' := J2) (S' := S2) am_e14 rfl rfl rfl rfl ?_
  refine w_st (i' := 24) (ls' := [.ref 18, .ref 12]) (st' := [.int (nI 0), .ref 18]) (E' := E2) (I' := (u_I (u_I I2 34 (upd (I2 34) 4 (nI 0))) 18 (upd (upd (I2 18) 9 (nI 0)) 10 (nI 0)))) (J' := J2) (S' := S2) am_e14 rfl rfl rfl rfl ?_
  refine w_st (i' := 25) (ls' := [.ref 18, .ref 12]) (st' := []) (E' := E2) (I' := (u_I (u_I (u_I I2 34 (upd (I2 34) 4 (nI 0))) 18 (upd (upd (I2 18) 9 (nI 0)) 10 (nI 0))) 18 (upd (upd (upd (I2 18) 9 (nI 0)) 10 (nI 0)) 11 (nI 0)))) (J' := J2) (S' := S2) am_e14 rfl rfl rfl rfl ?_
  refine w_eI (uI_0 ..) ?_
  show am_ww 14 25 [.ref 18, .ref 12] [] E2 (u_I (u_I I2 34 (upd (I2 34) 4 (nI 0))) 18 (upd (upd (upd (I2 18) 9 (nI 0)) 10 (nI 0)) 11 (nI 0))) J2 S2 _
  exact w_end am_e14 rfl rfl rfl h
-- 17 begin
theorem g17_0_60  {E : am_Ev} {I : Nat → Nat → Int32} {J : Nat → Nat → Int64} {S : Nat → Nat → Option Nat} {Q : am_Qt}  (h : am_cl 16 [.ref 61, .ref 12] E I J S (q_V fun E1 I1 J1 S1 => Q (.inl none) E1 (u_I I1 60 (upd (upd (upd (upd (I1 60) 1 (nI 0)) 2 (nI 0)) 3 (nI 0)) 4 (-1))) J1 S1)) : am_ww 17 0 [.ref 60, .ref 12] [] E I J S Q := by
  refine w_st (i' := 1) (ls' := [.ref 60, .ref 12]) (st' := [.ref 60]) (E' := E) (I' := I) (J' := J) (S' := S) am_e17 rfl rfl rfl rfl ?_
  refine w_st (i' := 2) (ls' := [.ref 60, .ref 12]) (st' := [.ref 61]) (E' := E) (I' := I) (J' := J) (S' := S) am_e17 rfl rfl rfl rfl ?_
  refine w_st (i' := 3) (ls' := [.ref 60, .ref 12]) (st' := [.ref 12, .ref 61]) (E' := E) (I' := I) (J' := J) (S' := S) am_e17 rfl rfl rfl rfl ?_
  refine w_cV am_e17 rfl rfl (as := [.ref 61, .ref 12]) (rest := []) rfl rfl (am_ww.mono h ?_)
  rintro _ E1 I1 J1 S1 ⟨rfl, h⟩
  refine q_mkV ?_
  refine w_st (i' := 5) (ls' := [.ref 60, .ref 12]) (st' := [.ref 60]) (E' := E1) (I' := I1) (J' := J1) (S' := S1) am_e17 rfl rfl rfl rfl ?_
  refine w_st (i' := 6) (ls' := [.ref 60, .ref 12]) (st' := [.int (nI 0), .ref 60]) (E' := E1) (I' := I1) (J' := J1) (S' := S1) am_e17 rfl rfl rfl rfl ?_
  refine w_st (i' := 7) (ls' := [.ref 60, .ref 12]) (st' := []) (E' := E1) (I' := (u_I I1 60 (upd (I1 60) 1 (nI 0)))) (J' := J1) (S' := S1) am_e17 rfl rfl rfl rfl ?_
  refine w_st (i' := 8) (ls' := [.ref 60, .ref 12]) (st' := [.ref 60]) (E' := E1) (I' := (u_I I1 60 (upd (I1 60) 1 (nI 0)))) (J' := J1) (S' := S1) am_e17 rfl rfl rfl rfl ?_
  refine w_st (i' := 9) (ls' := [.ref 60, .ref 12]) (st' := [.int (nI 0), .ref 60]) (E' := E1) (I' := (u_I I1 60 (upd (I1 60) 1 (nI 0)))) (J' := J1) (S' := S1) am_e17 rfl rfl rfl rfl ?_
  refine w_st (i' := 10) (ls' := [.ref 60, .ref 12]) (st' := []) (E' := E1) (I' := (u_I (u_I I1 60 (upd (I1 60) 1 (nI 0))) 60 (upd (upd (I1 60) 1 (nI 0)) 2 (nI 0)))) (J' := J1) (S' := S1) am_e17 rfl rfl rfl rfl ?_
  refine w_eI (uI_0 ..) ?_
  show am_ww 17 10 [.ref 60, .ref 12] [] E1 (u_I I1 60 (upd (upd (I1 60) 1 (nI 0)) 2 (nI 0))) J1 S1 _
  refine w_st (i' := 11) (ls' := [.ref 60, .ref 12]) (st' := [.ref 60]) (E' := E1) (I' := (u_I I1 60 (upd (upd (I1 60) 1 (nI 0)) 2 (nI 0)))) (J' := J1) (S' := S1) am_e17 rfl rfl rfl rfl ?_
  refine w_st (i' := 12) (ls' := [.ref 60, .ref 12]) (st' := [.int (nI 0), .ref 60]) (E' := E1) (I' := (u_I I1 60 (upd (upd (I1 60) 1 (nI 0)) 2 (nI 0)))) (J' := J1) (S' := S1) am_e17 rfl rfl rfl rfl ?_
  refine w_st (i' := 13) (ls' := [.ref 60, .ref 12]) (st' := []) (E' := E1) (I' := (u_I (u_I I1 60 (upd (upd (I1 60) 1 (nI 0)) 2 (nI 0))) 60 (upd (upd (upd (I1 60) 1 (nI 0)) 2 (nI 0)) 3 (nI 0)))) (J' := J1) (S' := S1) am_e17 rfl rfl rfl rfl ?_
  refine w_eI (uI_0 ..) ?_
  show am_ww 17 13 [.ref 60, .ref 12] [] E1 (u_I I1 60 (upd (upd (upd (I1 60) 1 (nI 0)) 2 (nI 0)) 3 (nI 0))) J1 S1 _
  refine w_st (i' := 14) (ls' := [.ref 60, .ref 12]) (st' := [.ref 60]) (E' := E1) (I' := (u_I I1 60 (upd (upd (upd (I1 60) 1 (nI 0)) 2 (nI 0)) 3 (nI 0)))) (J' := J1) (S' := S1) am_e17 rfl rfl rfl rfl ?_
  refine w_st (i' := 15) (ls' := [.ref 60, .ref 12]) (st' := [.int (-1), .ref 60]) (E' := E1) (I' := (u_I I1 60 (upd (upd (upd (I1 60) 1 (nI 0)) 2 (nI 0)) 3 (nI 0)))) (J' := J1) (S' := S1) am_e17 rfl rfl rfl rfl ?_
  refine w_st (i' := 16) (ls' := [.ref 60, .ref 12]) (st' := []) (E' := E1) (I' := (u_I (u_I I1 60 (upd (upd (upd (I1 60) 1 (nI 0)) 2 (nI 0)) 3 (nI 0))) 60 (upd (upd (upd (upd (I1 60) 1 (nI 0)) 2 (nI 0)) 3 (nI 0)) 4 (-1)))) (J' := J1) (S' := S1) am_e17 rfl rfl rfl rfl ?_
  refine w_eI (uI_0 ..) ?_
  show am_ww 17 16 [.ref 60, .ref 12] [] E1 (u_I I1 60 (upd (upd (upd (upd (I1 60) 1 (nI 0)) 2 (nI 0)) 3 (nI 0)) 4 (-1))) J1 S1 _
  exact w_end am_e17 rfl rfl rfl h
-- 17 begin
theorem g17_0_68  {E : am_Ev} {I : Nat → Nat → Int32} {J : Nat → Nat → Int64} {S : Nat → Nat → Option Nat} {Q : am_Qt}  (h : am_cl 16 [.ref 69, .ref 12] E I J S (q_V fun E1 I1 J1 S1 => Q (.inl none) E1 (u_I I1 68 (upd (upd (upd (upd (I1 68) 1 (nI 0)) 2 (nI 0)) 3 (nI 0)) 4 (-1))) J1 S1)) : am_ww 17 0 [.ref 68, .ref 12] [] E I J S Q := by
  refine w_st (i' := 1) (ls' := [.ref 68, .ref 12]) (st' := [.ref 68]) (E' := E) (I' := I) (J' := J) (S' := S) am_e17 rfl rfl rfl rfl ?_
  refine w_st (i' := 2) (ls' := [.ref 68, .ref 12]) (st' := [.ref 69]) (E' := E) (I' := I) (J' := J) (S' := S) am_e17 rfl rfl rfl rfl ?_
  refine w_st (i' := 3) (ls' := [.ref 68, .ref 12]) (st' := [.ref 12, .ref 69]) (E' := E) (I' := I) (J' := J) (S' := S) am_e17 rfl rfl rfl rfl ?_
  refine w_cV am_e17 rfl rfl (as := [.ref 69, .ref 12]) (rest := []) rfl rfl (am_ww.mono h ?_)
  rintro _ E1 I1 J1 S1 ⟨rfl, h⟩
  refine q_mkV ?_
  refine w_st (i' := 5) (ls' := [.ref 68, .ref 12]) (st' := [.ref 68]) (E' := E1) (I' := I1) (J' := J1) (S' := S1) am_e17 rfl rfl rfl rfl ?_
  refine w_st (i' := 6) (ls' := [.ref 68, .ref 12]) (st' := [.int (nI 0), .ref 68]) (E' := E1) (I' := I1) (J' := J1) (S' := S1) am_e17 rfl rfl rfl rfl ?_
  refine w_st (i' := 7) (ls' := [.ref 68, .ref 12]) (st' := []) (E' := E1) (I' := (u_I I1 68 (upd (I1 68) 1 (nI 0)))) (J' := J1) (S' := S1) am_e17 rfl rfl rfl rfl ?_
  refine w_st (i' := 8) (ls' := [.ref 68, .ref 12]) (st' := [.ref 68]) (E' := E1) (I' := (u_I I1 68 (upd (I1 68) 1 (nI 0)))) (J' := J1) (S' := S1) am_e17 rfl rfl rfl rfl ?_
  refine w_st (i' := 9) (ls' := [.ref 68, .ref 12]) (st' := [.int (nI 0), .ref 68]) (E' := E1) (I' := (u_I I1 68 (upd (I1 68) 1 (nI 0)))) (J' := J1) (S' := S1) am_e17 rfl rfl rfl rfl ?_
  refine w_st (i' := 10) (ls' := [.ref 68, .ref 12]) (st' := []) (E' := E1) (I' := (u_I (u_I I1 68 (upd (I1 68) 1 (nI 0))) 68 (upd (upd (I1 68) 1 (nI 0)) 2 (nI 0)))) (J' := J1) (S' := S1) am_e17 rfl rfl rfl rfl ?_
  refine w_eI (uI_0 ..) ?_
  show am_ww 17 10 [.ref 68, .ref 12] [] E1 (u_I I1 68 (upd (upd (I1 68) 1 (nI 0)) 2 (nI 0))) J1 S1 _
  refine w_st (i' := 11) (ls' := [.ref 68, .ref 12]) (st' := [.ref 68]) (E' := E1) (I' := (u_I I1 68 (upd (upd (I1 68) 1 (nI 0)) 2 (nI 0)))) (J' := J1) (S' := S1) am_e17 rfl rfl rfl rfl ?_
  refine w_st (i' := 12) (ls' := [.ref 68, .ref 12]) (st' := [.int (nI 0), .ref 68]) (E' := E1) (I' := (u_I I1 68 (upd (upd (I1 68) 1 (nI 0)) 2 (nI 0)))) (J' := J1) (S' := S1) am_e17 rfl rfl rfl rfl ?_
  refine w_st (i' := 13) (ls' := [.ref 68, .ref 12]) (st' := []) (E' := E1) (I' := (u_I (u_I I1 68 (upd (upd (I1 68) 1 (nI 0)) 2 (nI 0))) 68 (upd (upd (upd (I1 68) 1 (nI 0)) 2 (nI 0)) 3 (nI 0)))) (J' := J1) (S' := S1) am_e17 rfl rfl rfl rfl ?_
  refine w_eI (uI_0 ..) ?_
  show am_ww 17 13 [.ref 68, .ref 12] [] E1 (u_I I1 68 (upd (upd (upd (I1 68) 1 (nI 0)) 2 (nI 0)) 3 (nI 0))) J1 S1 _
  refine w_st (i' := 14) (ls' := [.ref 68, .ref 12]) (st' := [.ref 68]) (E' := E1) (I' := (u_I I1 68 (upd (upd (upd (I1 68) 1 (nI 0)) 2 (nI 0)) 3 (nI 0)))) (J' := J1) (S' := S1) am_e17 rfl rfl rfl rfl ?_
  refine w_st (i' := 15) (ls' := [.ref 68, .ref 12]) (st' := [.int (-1), .ref 68]) (E' := E1) (I' := (u_I I1 68 (upd (upd (upd (I1 68) 1 (nI 0)) 2 (nI 0)) 3 (nI 0)))) (J' := J1) (S' := S1) am_e17 rfl rfl rfl rfl ?_
  refine w_st (i' := 16) (ls' := [.ref 68, .ref 12]) (st' := []) (E' := E1) (I' := (u_I (u_I I1 68 (upd (upd (upd (I1 68) 1 (nI 0)) 2 (nI 0)) 3 (nI 0))) 68 (upd (upd (upd (upd (I1 68) 1 (nI 0)) 2 (nI 0)) 3 (nI 0)) 4 (-1)))) (J' := J1) (S' := S1) am_e17 rfl rfl rfl rfl ?_
  refine w_eI (uI_0 ..) ?_
  show am_ww 17 16 [.ref 68, .ref 12] [] E1 (u_I I1 68 (upd (upd (upd (upd (I1 68) 1 (nI 0)) 2 (nI 0)) 3 (nI 0)) 4 (-1))) J1 S1 _
  exact w_end am_e17 rfl rfl rfl h
-- 48 takeSwitch
theorem g48_0_60  {E : am_Ev} {I : Nat → Nat → Int32} {J : Nat → Nat → Int64} {S : Nat → Nat → Option Nat} {Q : am_Qt}  (h : ∀ w3 : Int32, w3 = (if ((I 60) 4) = (nI 1) then (if ((I 60) 2) < ((I 60) 5) then ((I 60) 2) else (((I 60) 2) + (nI 1))) else ((I 60) 2)) → ((((I 18) 9) ≤ w3 → (am_ww 48 50 [.ref 60, .ref 18, .int w3, .int ((I 61) 6), am_U] [] E I J S Q)) ∧ (¬ ((I 18) 9) ≤ w3 → (((((I 61) 6) = (-1) → (True)) ∧ (¬ ((I 61) 6) = (-1) → (vp_in ((I 61) 6) 4 ∧ (vp_in w3 400 ∧ ((((I 65) (((I 61) 6).toNatClampNeg)) = ((I 29) w3.toNatClampNeg) → (vp_in ((I 61) 6) 4 ∧ (vp_in w3 400 ∧ True))) ∧ (¬ ((I 65) (((I 61) 6).toNatClampNeg)) = ((I 29) w3.toNatClampNeg) → (True))))))) ∧ (∀ w7 : Int32, w7 = (if ((I 61) 6) = (-1) then nI 1 else (if ((I 65) (((I 61) 6).toNatClampNeg)) = ((I 29) w3.toNatClampNeg) then (if ((I 64) (((I 61) 6).toNatClampNeg)) = ((I 30) w3.toNatClampNeg) then nI 1 else nI 0) else nI 0)) → ((w7 = 0 → (Q (.inl none) E I J S)) ∧ (¬ w7 = 0 → (((((I 60) 4) = 0 → ((w3 = ((I 60) 5) → (True)) ∧ (¬ w3 = ((I 60) 5) → (vp_in w3 400 ∧ True)))) ∧ (¬ ((I 60) 4) = 0 → (vp_in w3 400 ∧ True))) ∧ (∀ w10 : Int32, w10 = (if ((I 60) 4) = 0 then (if w3 = ((I 60) 5) then ((I 60) 6) else ((I 31) w3.toNatClampNeg)) else ((I 31) w3.toNatClampNeg)) → (Q (.inl none) E (u_I (u_I I 61 (upd (I 61) 6 w10)) 60 (upd (I 60) 2 (((I 60) 2) + (nI 1)))) J S)))))))))) : am_ww 48 0 [.ref 60, .ref 18, am_U, am_U, am_U] [] E I J S Q := by
  refine w_st (i' := 1) (ls' := [.ref 60, .ref 18, am_U, am_U, am_U]) (st' := [.ref 60]) (E' := E) (I' := I) (J' := J) (S' := S) am_e48 rfl rfl rfl rfl ?_
  refine w_st (i' := 2) (ls' := [.ref 60, .ref 18, am_U, am_U, am_U]) (st' := [.int ((I 60) 4)]) (E' := E) (I' := I) (J' := J) (S' := S) am_e48 rfl rfl rfl rfl ?_
  refine w_st (i' := 3) (ls' := [.ref 60, .ref 18, am_U, am_U, am_U]) (st' := [.int (nI 1), .int ((I 60) 4)]) (E' := E) (I' := I) (J' := J) (S' := S) am_e48 rfl rfl rfl rfl ?_
  refine w_mg (i := 16) (ls' := [.ref 60, .ref 18, am_U, am_U, am_U]) (st' := [.int (if ((I 60) 4) = (nI 1) then (if ((I 60) 2) < ((I 60) 5) then ((I 60) 2) else (((I 60) 2) + (nI 1))) else ((I 60) 2))]) (fun hm => ?_) ?_
  · clear h
    refine w_if2 am_e48 rfl rfl (fun c => ?_) (fun c => ?_)
    · have m1 : ¬ (((I 60) 4) = (nI 1)) := (of_decide_eq_true c)
      refine w_st (i' := 15) (ls' := [.ref 60, .ref 18, am_U, am_U, am_U]) (st' := [.ref 60]) (E' := E) (I' := I) (J' := J) (S' := S) am_e48 rfl rfl rfl rfl ?_
      refine w_st (i' := 16) (ls' := [.ref 60, .ref 18, am_U, am_U, am_U]) (st' := [.int ((I 60) 2)]) (E' := E) (I' := I) (J' := J) (S' := S) am_e48 rfl rfl rfl rfl ?_
      first | exact hm | (simp only [if_neg m1] at hm; exact hm)
    · have m1 : ((I 60) 4) = (nI 1) := (Decidable.not_not.mp (of_decide_eq_false c))
      refine w_st (i' := 5) (ls' := [.ref 60, .ref 18, am_U, am_U, am_U]) (st' := [.ref 60]) (E' := E) (I' := I) (J' := J) (S' := S) am_e48 rfl rfl rfl rfl ?_
      refine w_st (i' := 6) (ls' := [.ref 60, .ref 18, am_U, am_U, am_U]) (st' := [.int ((I 60) 2)]) (E' := E) (I' := I) (J' := J) (S' := S) am_e48 rfl rfl rfl rfl ?_
      refine w_st (i' := 7) (ls' := [.ref 60, .ref 18, am_U, am_U, am_U]) (st' := [.ref 60, .int ((I 60) 2)]) (E' := E) (I' := I) (J' := J) (S' := S) am_e48 rfl rfl rfl rfl ?_
      refine w_st (i' := 8) (ls' := [.ref 60, .ref 18, am_U, am_U, am_U]) (st' := [.int ((I 60) 5), .int ((I 60) 2)]) (E' := E) (I' := I) (J' := J) (S' := S) am_e48 rfl rfl rfl rfl ?_
      refine w_if2 am_e48 rfl rfl (fun c => ?_) (fun c => ?_)
      · have m2 : ((I 60) 2) < ((I 60) 5) := (of_decide_eq_true c)
        refine w_st (i' := 15) (ls' := [.ref 60, .ref 18, am_U, am_U, am_U]) (st' := [.ref 60]) (E' := E) (I' := I) (J' := J) (S' := S) am_e48 rfl rfl rfl rfl ?_
        refine w_st (i' := 16) (ls' := [.ref 60, .ref 18, am_U, am_U, am_U]) (st' := [.int ((I 60) 2)]) (E' := E) (I' := I) (J' := J) (S' := S) am_e48 rfl rfl rfl rfl ?_
        first | exact hm | (simp only [if_pos m1, if_pos m2] at hm; exact hm)
      · have m2 : ¬ (((I 60) 2) < ((I 60) 5)) := (of_decide_eq_false c)
        refine w_st (i' := 10) (ls' := [.ref 60, .ref 18, am_U, am_U, am_U]) (st' := [.ref 60]) (E' := E) (I' := I) (J' := J) (S' := S) am_e48 rfl rfl rfl rfl ?_
        refine w_st (i' := 11) (ls' := [.ref 60, .ref 18, am_U, am_U, am_U]) (st' := [.int ((I 60) 2)]) (E' := E) (I' := I) (J' := J) (S' := S) am_e48 rfl rfl rfl rfl ?_
        refine w_st (i' := 12) (ls' := [.ref 60, .ref 18, am_U, am_U, am_U]) (st' := [.int (nI 1), .int ((I 60) 2)]) (E' := E) (I' := I) (J' := J) (S' := S) am_e48 rfl rfl rfl rfl ?_
        refine w_st (i' := 13) (ls' := [.ref 60, .ref 18, am_U, am_U, am_U]) (st' := [.int (((I 60) 2) + (nI 1))]) (E' := E) (I' := I) (J' := J) (S' := S) am_e48 rfl rfl rfl rfl ?_
        refine w_st (i' := 16) (ls' := [.ref 60, .ref 18, am_U, am_U, am_U]) (st' := [.int (((I 60) 2) + (nI 1))]) (E' := E) (I' := I) (J' := J) (S' := S) am_e48 rfl rfl rfl rfl ?_
        first | exact hm | (simp only [if_pos m1, if_neg m2] at hm; exact hm)
  refine w_var (fun w3 => am_ww 48 16 [.ref 60, .ref 18, am_U, am_U, am_U] [.int w3] E I J S _) (if ((I 60) 4) = (nI 1) then (if ((I 60) 2) < ((I 60) 5) then ((I 60) 2) else (((I 60) 2) + (nI 1))) else ((I 60) 2)) (fun w3 hw3 => ?_)
  replace h := h w3 hw3
  refine w_st (i' := 17) (ls' := [.ref 60, .ref 18, .int w3, am_U, am_U]) (st' := []) (E' := E) (I' := I) (J' := J) (S' := S) am_e48 rfl rfl rfl rfl ?_
  refine w_st (i' := 18) (ls' := [.ref 60, .ref 18, .int w3, am_U, am_U]) (st' := [.ref 60]) (E' := E) (I' := I) (J' := J) (S' := S) am_e48 rfl rfl rfl rfl ?_
  refine w_st (i' := 19) (ls' := [.ref 60, .ref 18, .int w3, am_U, am_U]) (st' := [.ref 61]) (E' := E) (I' := I) (J' := J) (S' := S) am_e48 rfl rfl rfl rfl ?_
  refine w_st (i' := 20) (ls' := [.ref 60, .ref 18, .int w3, am_U, am_U]) (st' := [.int ((I 61) 6)]) (E' := E) (I' := I) (J' := J) (S' := S) am_e48 rfl rfl rfl rfl ?_
  refine w_st (i' := 21) (ls' := [.ref 60, .ref 18, .int w3, .int ((I 61) 6), am_U]) (st' := []) (E' := E) (I' := I) (J' := J) (S' := S) am_e48 rfl rfl rfl rfl ?_
  refine w_st (i' := 22) (ls' := [.ref 60, .ref 18, .int w3, .int ((I 61) 6), am_U]) (st' := [.int w3]) (E' := E) (I' := I) (J' := J) (S' := S) am_e48 rfl rfl rfl rfl ?_
  refine w_st (i' := 23) (ls' := [.ref 60, .ref 18, .int w3, .int ((I 61) 6), am_U]) (st' := [.ref 18, .int w3]) (E' := E) (I' := I) (J' := J) (S' := S) am_e48 rfl rfl rfl rfl ?_
  refine w_st (i' := 24) (ls' := [.ref 60, .ref 18, .int w3, .int ((I 61) 6), am_U]) (st' := [.int ((I 18) 9), .int w3]) (E' := E) (I' := I) (J' := J) (S' := S) am_e48 rfl rfl rfl rfl ?_
  refine w_if2 am_e48 rfl rfl (fun c => ?_) (fun c => ?_)
  · replace h := h.1 (of_decide_eq_true c)
    exact h
  · replace h := h.2 (of_decide_eq_false c)
    refine w_st (i' := 26) (ls' := [.ref 60, .ref 18, .int w3, .int ((I 61) 6), am_U]) (st' := [.int ((I 61) 6)]) (E' := E) (I' := I) (J' := J) (S' := S) am_e48 rfl rfl rfl rfl ?_
    refine w_st (i' := 27) (ls' := [.ref 60, .ref 18, .int w3, .int ((I 61) 6), am_U]) (st' := [.int (-1), .int ((I 61) 6)]) (E' := E) (I' := I) (J' := J) (S' := S) am_e48 rfl rfl rfl rfl ?_
    refine w_mg (i := 51) (ls' := [.ref 60, .ref 18, .int w3, .int ((I 61) 6), am_U]) (st' := [.int (if ((I 61) 6) = (-1) then nI 1 else (if ((I 65) (((I 61) 6).toNatClampNeg)) = ((I 29) w3.toNatClampNeg) then (if ((I 64) (((I 61) 6).toNatClampNeg)) = ((I 30) w3.toNatClampNeg) then nI 1 else nI 0) else nI 0))]) (fun hm => ?_) ?_
    · replace h := h.1
      refine w_if2 am_e48 rfl rfl (fun c => ?_) (fun c => ?_)
      · have m4 : ((I 61) 6) = (-1) := (of_decide_eq_true c)
        replace h := h.1 m4
        refine w_st (i' := 49) (ls' := [.ref 60, .ref 18, .int w3, .int ((I 61) 6), am_U]) (st' := [.int (nI 1)]) (E' := E) (I' := I) (J' := J) (S' := S) am_e48 rfl rfl rfl rfl ?_
        refine w_st (i' := 51) (ls' := [.ref 60, .ref 18, .int w3, .int ((I 61) 6), am_U]) (st' := [.int (nI 1)]) (E' := E) (I' := I) (J' := J) (S' := S) am_e48 rfl rfl rfl rfl ?_
        first | exact hm | (simp only [if_pos m4] at hm; exact hm)
      · have m4 : ¬ (((I 61) 6) = (-1)) := (of_decide_eq_false c)
        replace h := h.2 m4
        refine w_st (i' := 29) (ls' := [.ref 60, .ref 18, .int w3, .int ((I 61) 6), am_U]) (st' := [.ref 60]) (E' := E) (I' := I) (J' := J) (S' := S) am_e48 rfl rfl rfl rfl ?_
        refine w_st (i' := 30) (ls' := [.ref 60, .ref 18, .int w3, .int ((I 61) 6), am_U]) (st' := [.ref 61]) (E' := E) (I' := I) (J' := J) (S' := S) am_e48 rfl rfl rfl rfl ?_
        refine w_st (i' := 31) (ls' := [.ref 60, .ref 18, .int w3, .int ((I 61) 6), am_U]) (st' := [.ref 65]) (E' := E) (I' := I) (J' := J) (S' := S) am_e48 rfl rfl rfl rfl ?_
        refine w_st (i' := 32) (ls' := [.ref 60, .ref 18, .int w3, .int ((I 61) 6), am_U]) (st' := [.int ((I 61) 6), .ref 65]) (E' := E) (I' := I) (J' := J) (S' := S) am_e48 rfl rfl rfl rfl ?_
        refine w_ia (k := 65) (n := 4) (jn := ((I 61) 6).toNatClampNeg) am_e48 rfl rfl (by decide) h.1 rfl ?_
        replace h := h.2
        show am_ww 48 33 [.ref 60, .ref 18, .int w3, .int ((I 61) 6), am_U] [.int ((I 65) (((I 61) 6).toNatClampNeg))] E I J S _
        refine w_st (i' := 34) (ls' := [.ref 60, .ref 18, .int w3, .int ((I 61) 6), am_U]) (st' := [.ref 18, .int ((I 65) (((I 61) 6).toNatClampNeg))]) (E' := E) (I' := I) (J' := J) (S' := S) am_e48 rfl rfl rfl rfl ?_
        refine w_st (i' := 35) (ls' := [.ref 60, .ref 18, .int w3, .int ((I 61) 6), am_U]) (st' := [.ref 29, .int ((I 65) (((I 61) 6).toNatClampNeg))]) (E' := E) (I' := I) (J' := J) (S' := S) am_e48 rfl rfl rfl rfl ?_
        refine w_st (i' := 36) (ls' := [.ref 60, .ref 18, .int w3, .int ((I 61) 6), am_U]) (st' := [.int w3, .ref 29, .int ((I 65) (((I 61) 6).toNatClampNeg))]) (E' := E) (I' := I) (J' := J) (S' := S) am_e48 rfl rfl rfl rfl ?_
        refine w_ia (k := 29) (n := 400) (jn := w3.toNatClampNeg) am_e48 rfl rfl (by decide) h.1 rfl ?_
        replace h := h.2
        show am_ww 48 37 [.ref 60, .ref 18, .int w3, .int ((I 61) 6), am_U] [.int ((I 29) w3.toNatClampNeg), .int ((I 65) (((I 61) 6).toNatClampNeg))] E I J S _
        refine w_if2 am_e48 rfl rfl (fun c => ?_) (fun c => ?_)
        · have m5 : ¬ (((I 65) (((I 61) 6).toNatClampNeg)) = ((I 29) w3.toNatClampNeg)) := (of_decide_eq_true c)
          replace h := h.2 m5
          refine w_st (i' := 51) (ls' := [.ref 60, .ref 18, .int w3, .int ((I 61) 6), am_U]) (st' := [.int (nI 0)]) (E' := E) (I' := I) (J' := J) (S' := S) am_e48 rfl rfl rfl rfl ?_
          first | exact hm | (simp only [if_neg m4, if_neg m5] at hm; exact hm)
        · have m5 : ((I 65) (((I 61) 6).toNatClampNeg)) = ((I 29) w3.toNatClampNeg) := (Decidable.not_not.mp (of_decide_eq_false c))
          replace h := h.1 m5
          refine w_st (i' := 39) (ls' := [.ref 60, .ref 18, .int w3, .int ((I 61) 6), am_U]) (st' := [.ref 60]) (E' := E) (I' := I) (J' := J) (S' := S) am_e48 rfl rfl rfl rfl ?_
          refine w_st (i' := 40) (ls' := [.ref 60, .ref 18, .int w3, .int ((I 61) 6), am_U]) (st' := [.ref 61]) (E' := E) (I' := I) (J' := J) (S' := S) am_e48 rfl rfl rfl rfl ?_
          refine w_st (i' := 41) (ls' := [.ref 60, .ref 18, .int w3, .int ((I 61) 6), am_U]) (st' := [.ref 64]) (E' := E) (I' := I) (J' := J) (S' := S) am_e48 rfl rfl rfl rfl ?_
          refine w_st (i' := 42) (ls' := [.ref 60, .ref 18, .int w3, .int ((I 61) 6), am_U]) (st' := [.int ((I 61) 6), .ref 64]) (E' := E) (I' := I) (J' := J) (S' := S) am_e48 rfl rfl rfl rfl ?_
          refine w_ia (k := 64) (n := 4) (jn := ((I 61) 6).toNatClampNeg) am_e48 rfl rfl (by decide) h.1 rfl ?_
          replace h := h.2
          show am_ww 48 43 [.ref 60, .ref 18, .int w3, .int ((I 61) 6), am_U] [.int ((I 64) (((I 61) 6).toNatClampNeg))] E I J S _
          refine w_st (i' := 44) (ls' := [.ref 60, .ref 18, .int w3, .int ((I 61) 6), am_U]) (st' := [.ref 18, .int ((I 64) (((I 61) 6).toNatClampNeg))]) (E' := E) (I' := I) (J' := J) (S' := S) am_e48 rfl rfl rfl rfl ?_
          refine w_st (i' := 45) (ls' := [.ref 60, .ref 18, .int w3, .int ((I 61) 6), am_U]) (st' := [.ref 30, .int ((I 64) (((I 61) 6).toNatClampNeg))]) (E' := E) (I' := I) (J' := J) (S' := S) am_e48 rfl rfl rfl rfl ?_
          refine w_st (i' := 46) (ls' := [.ref 60, .ref 18, .int w3, .int ((I 61) 6), am_U]) (st' := [.int w3, .ref 30, .int ((I 64) (((I 61) 6).toNatClampNeg))]) (E' := E) (I' := I) (J' := J) (S' := S) am_e48 rfl rfl rfl rfl ?_
          refine w_ia (k := 30) (n := 400) (jn := w3.toNatClampNeg) am_e48 rfl rfl (by decide) h.1 rfl ?_
          replace h := h.2
          show am_ww 48 47 [.ref 60, .ref 18, .int w3, .int ((I 61) 6), am_U] [.int ((I 30) w3.toNatClampNeg), .int ((I 64) (((I 61) 6).toNatClampNeg))] E I J S _
          refine w_if2 am_e48 rfl rfl (fun c => ?_) (fun c => ?_)
          · have m6 : ¬ (((I 64) (((I 61) 6).toNatClampNeg)) = ((I 30) w3.toNatClampNeg)) := (of_decide_eq_true c)
            refine w_st (i' := 51) (ls' := [.ref 60, .ref 18, .int w3, .int ((I 61) 6), am_U]) (st' := [.int (nI 0)]) (E' := E) (I' := I) (J' := J) (S' := S) am_e48 rfl rfl rfl rfl ?_
            first | exact hm | (simp only [if_neg m4, if_pos m5, if_neg m6] at hm; exact hm)
          · have m6 : ((I 64) (((I 61) 6).toNatClampNeg)) = ((I 30) w3.toNatClampNeg) := (Decidable.not_not.mp (of_decide_eq_false c))
            refine w_st (i' := 49) (ls' := [.ref 60, .ref 18, .int w3, .int ((I 61) 6), am_U]) (st' := [.int (nI 1)]) (E' := E) (I' := I) (J' := J) (S' := S) am_e48 rfl rfl rfl rfl ?_
            refine w_st (i' := 51) (ls' := [.ref 60, .ref 18, .int w3, .int ((I 61) 6), am_U]) (st' := [.int (nI 1)]) (E' := E) (I' := I) (J' := J) (S' := S) am_e48 rfl rfl rfl rfl ?_
            first | exact hm | (simp only [if_neg m4, if_pos m5, if_pos m6] at hm; exact hm)
    replace h := h.2
    refine w_var (fun w7 => am_ww 48 51 [.ref 60, .ref 18, .int w3, .int ((I 61) 6), am_U] [.int w7] E I J S _) (if ((I 61) 6) = (-1) then nI 1 else (if ((I 65) (((I 61) 6).toNatClampNeg)) = ((I 29) w3.toNatClampNeg) then (if ((I 64) (((I 61) 6).toNatClampNeg)) = ((I 30) w3.toNatClampNeg) then nI 1 else nI 0) else nI 0)) (fun w7 hw7 => ?_)
    replace h := h w7 hw7
    refine w_st (i' := 52) (ls' := [.ref 60, .ref 18, .int w3, .int ((I 61) 6), .int w7]) (st' := []) (E' := E) (I' := I) (J' := J) (S' := S) am_e48 rfl rfl rfl rfl ?_
    refine w_st (i' := 53) (ls' := [.ref 60, .ref 18, .int w3, .int ((I 61) 6), .int w7]) (st' := [.int w7]) (E' := E) (I' := I) (J' := J) (S' := S) am_e48 rfl rfl rfl rfl ?_
    refine w_if1 am_e48 rfl rfl (fun c => ?_) (fun c => ?_)
    · replace h := h.1 (of_decide_eq_true c)
      exact w_end am_e48 rfl rfl rfl h
    · replace h := h.2 (of_decide_eq_false c)
      refine w_st (i' := 55) (ls' := [.ref 60, .ref 18, .int w3, .int ((I 61) 6), .int w7]) (st' := [.ref 60]) (E' := E) (I' := I) (J' := J) (S' := S) am_e48 rfl rfl rfl rfl ?_
      refine w_st (i' := 56) (ls' := [.ref 60, .ref 18, .int w3, .int ((I 61) 6), .int w7]) (st' := [.ref 61]) (E' := E) (I' := I) (J' := J) (S' := S) am_e48 rfl rfl rfl rfl ?_
      refine w_st (i' := 57) (ls' := [.ref 60, .ref 18, .int w3, .int ((I 61) 6), .int w7]) (st' := [.ref 60, .ref 61]) (E' := E) (I' := I) (J' := J) (S' := S) am_e48 rfl rfl rfl rfl ?_
      refine w_st (i' := 58) (ls' := [.ref 60, .ref 18, .int w3, .int ((I 61) 6), .int w7]) (st' := [.int ((I 60) 4), .ref 61]) (E' := E) (I' := I) (J' := J) (S' := S) am_e48 rfl rfl rfl rfl ?_
      refine w_mg (i := 70) (ls' := [.ref 60, .ref 18, .int w3, .int ((I 61) 6), .int w7]) (st' := [.int (if ((I 60) 4) = 0 then (if w3 = ((I 60) 5) then ((I 60) 6) else ((I 31) w3.toNatClampNeg)) else ((I 31) w3.toNatClampNeg)), .ref 61]) (fun hm => ?_) ?_
      · replace h := h.1
        refine w_if1 am_e48 rfl rfl (fun c => ?_) (fun c => ?_)
        · have m8 : ¬ (((I 60) 4) = 0) := (of_decide_eq_true c)
          replace h := h.2 m8
          refine w_st (i' := 67) (ls' := [.ref 60, .ref 18, .int w3, .int ((I 61) 6), .int w7]) (st' := [.ref 18, .ref 61]) (E' := E) (I' := I) (J' := J) (S' := S) am_e48 rfl rfl rfl rfl ?_
          refine w_st (i' := 68) (ls' := [.ref 60, .ref 18, .int w3, .int ((I 61) 6), .int w7]) (st' := [.ref 31, .ref 61]) (E' := E) (I' := I) (J' := J) (S' := S) am_e48 rfl rfl rfl rfl ?_
          refine w_st (i' := 69) (ls' := [.ref 60, .ref 18, .int w3, .int ((I 61) 6), .int w7]) (st' := [.int w3, .ref 31, .ref 61]) (E' := E) (I' := I) (J' := J) (S' := S) am_e48 rfl rfl rfl rfl ?_
          refine w_ia (k := 31) (n := 400) (jn := w3.toNatClampNeg) am_e48 rfl rfl (by decide) h.1 rfl ?_
          replace h := h.2
          show am_ww 48 70 [.ref 60, .ref 18, .int w3, .int ((I 61) 6), .int w7] [.int ((I 31) w3.toNatClampNeg), .ref 61] E I J S _
          first | exact hm | (simp only [if_neg m8] at hm; exact hm)
        · have m8 : ((I 60) 4) = 0 := (Decidable.not_not.mp (of_decide_eq_false c))
          replace h := h.1 m8
          refine w_st (i' := 60) (ls' := [.ref 60, .ref 18, .int w3, .int ((I 61) 6), .int w7]) (st' := [.int w3, .ref 61]) (E' := E) (I' := I) (J' := J) (S' := S) am_e48 rfl rfl rfl rfl ?_
          refine w_st (i' := 61) (ls' := [.ref 60, .ref 18, .int w3, .int ((I 61) 6), .int w7]) (st' := [.ref 60, .int w3, .ref 61]) (E' := E) (I' := I) (J' := J) (S' := S) am_e48 rfl rfl rfl rfl ?_
          refine w_st (i' := 62) (ls' := [.ref 60, .ref 18, .int w3, .int ((I 61) 6), .int w7]) (st' := [.int ((I 60) 5), .int w3, .ref 61]) (E' := E) (I' := I) (J' := J) (S' := S) am_e48 rfl rfl rfl rfl ?_
          refine w_if2 am_e48 rfl rfl (fun c => ?_) (fun c => ?_)
          · have m9 : ¬ (w3 = ((I 60) 5)) := (of_decide_eq_true c)
            replace h := h.2 m9
            refine w_st (i' := 67) (ls' := [.ref 60, .ref 18, .int w3, .int ((I 61) 6), .int w7]) (st' := [.ref 18, .ref 61]) (E' := E) (I' := I) (J' := J) (S' := S) am_e48 rfl rfl rfl rfl ?_
            refine w_st (i' := 68) (ls' := [.ref 60, .ref 18, .int w3, .int ((I 61) 6), .int w7]) (st' := [.ref 31, .ref 61]) (E' := E) (I' := I) (J' := J) (S' := S) am_e48 rfl rfl rfl rfl ?_
            refine w_st (i' := 69) (ls' := [.ref 60, .ref 18, .int w3, .int ((I 61) 6), .int w7]) (st' := [.int w3, .ref 31, .ref 61]) (E' := E) (I' := I) (J' := J) (S' := S) am_e48 rfl rfl rfl rfl ?_
            refine w_ia (k := 31) (n := 400) (jn := w3.toNatClampNeg) am_e48 rfl rfl (by decide) h.1 rfl ?_
            replace h := h.2
            show am_ww 48 70 [.ref 60, .ref 18, .int w3, .int ((I 61) 6), .int w7] [.int ((I 31) w3.toNatClampNeg), .ref 61] E I J S _
            first | exact hm | (simp only [if_pos m8, if_neg m9] at hm; exact hm)
          · have m9 : w3 = ((I 60) 5) := (Decidable.not_not.mp (of_decide_eq_false c))
            replace h := h.1 m9
            refine w_st (i' := 64) (ls' := [.ref 60, .ref 18, .int w3, .int ((I 61) 6), .int w7]) (st' := [.ref 60, .ref 61]) (E' := E) (I' := I) (J' := J) (S' := S) am_e48 rfl rfl rfl rfl ?_
            refine w_st (i' := 65) (ls' := [.ref 60, .ref 18, .int w3, .int ((I 61) 6), .int w7]) (st' := [.int ((I 60) 6), .ref 61]) (E' := E) (I' := I) (J' := J) (S' := S) am_e48 rfl rfl rfl rfl ?_
            refine w_st (i' := 70) (ls' := [.ref 60, .ref 18, .int w3, .int ((I 61) 6), .int w7]) (st' := [.int ((I 60) 6), .ref 61]) (E' := E) (I' := I) (J' := J) (S' := S) am_e48 rfl rfl rfl rfl ?_
            first | exact hm | (simp only [if_pos m8, if_pos m9] at hm; exact hm)
      replace h := h.2
      refine w_var (fun w10 => am_ww 48 70 [.ref 60, .ref 18, .int w3, .int ((I 61) 6), .int w7] [.int w10, .ref 61] E I J S _) (if ((I 60) 4) = 0 then (if w3 = ((I 60) 5) then ((I 60) 6) else ((I 31) w3.toNatClampNeg)) else ((I 31) w3.toNatClampNeg)) (fun w10 hw10 => ?_)
      replace h := h w10 hw10
      refine w_st (i' := 71) (ls' := [.ref 60, .ref 18, .int w3, .int ((I 61) 6), .int w7]) (st' := []) (E' := E) (I' := (u_I I 61 (upd (I 61) 6 w10))) (J' := J) (S' := S) am_e48 rfl rfl rfl rfl ?_
      refine w_st (i' := 72) (ls' := [.ref 60, .ref 18, .int w3, .int ((I 61) 6), .int w7]) (st' := [.ref 60]) (E' := E) (I' := (u_I I 61 (upd (I 61) 6 w10))) (J' := J) (S' := S) am_e48 rfl rfl rfl rfl ?_
      refine w_st (i' := 73) (ls' := [.ref 60, .ref 18, .int w3, .int ((I 61) 6), .int w7]) (st' := [.ref 60, .ref 60]) (E' := E) (I' := (u_I I 61 (upd (I 61) 6 w10))) (J' := J) (S' := S) am_e48 rfl rfl rfl rfl ?_
      refine w_st (i' := 74) (ls' := [.ref 60, .ref 18, .int w3, .int ((I 61) 6), .int w7]) (st' := [.int ((I 60) 2), .ref 60]) (E' := E) (I' := (u_I I 61 (upd (I 61) 6 w10))) (J' := J) (S' := S) am_e48 rfl rfl rfl rfl ?_
      refine w_st (i' := 75) (ls' := [.ref 60, .ref 18, .int w3, .int ((I 61) 6), .int w7]) (st' := [.int (nI 1), .int ((I 60) 2), .ref 60]) (E' := E) (I' := (u_I I 61 (upd (I 61) 6 w10))) (J' := J) (S' := S) am_e48 rfl rfl rfl rfl ?_
      refine w_st (i' := 76) (ls' := [.ref 60, .ref 18, .int w3, .int ((I 61) 6), .int w7]) (st' := [.int (((I 60) 2) + (nI 1)), .ref 60]) (E' := E) (I' := (u_I I 61 (upd (I 61) 6 w10))) (J' := J) (S' := S) am_e48 rfl rfl rfl rfl ?_
      refine w_st (i' := 77) (ls' := [.ref 60, .ref 18, .int w3, .int ((I 61) 6), .int w7]) (st' := []) (E' := E) (I' := (u_I (u_I I 61 (upd (I 61) 6 w10)) 60 (upd (I 60) 2 (((I 60) 2) + (nI 1))))) (J' := J) (S' := S) am_e48 rfl rfl rfl rfl ?_
      exact w_end am_e48 rfl rfl rfl h
theorem g48_50_60 {x2 : Int32} {d3 : Value} {d4 : Value} {E : am_Ev} {I : Nat → Nat → Int32} {J : Nat → Nat → Int64} {S : Nat → Nat → Option Nat} {Q : am_Qt} (hd3 : am_isL d3 = false) (hd4 : am_isL d4 = false) (h : Q (.inl none) E I J S) : am_ww 48 50 [.ref 60, .ref 18, .int x2, d3, d4] [] E I J S Q := by
  refine w_st (i' := 51) (ls' := [.ref 60, .ref 18, .int x2, d3, d4]) (st' := [.int (nI 0)]) (E' := E) (I' := I) (J' := J) (S' := S) am_e48 rfl rfl rfl rfl ?_
  refine w_st (i' := 52) (ls' := [.ref 60, .ref 18, .int x2, d3, .int (nI 0)]) (st' := []) (E' := E) (I' := I) (J' := J) (S' := S) am_e48 rfl rfl rfl (by simp [am_step, am_sto, hd3]) ?_
  refine w_st (i' := 53) (ls' := [.ref 60, .ref 18, .int x2, d3, .int (nI 0)]) (st' := [.int (nI 0)]) (E' := E) (I' := I) (J' := J) (S' := S) am_e48 rfl rfl rfl rfl ?_
  refine w_st (i' := 77) (ls' := [.ref 60, .ref 18, .int x2, d3, .int (nI 0)]) (st' := []) (E' := E) (I' := I) (J' := J) (S' := S) am_e48 rfl rfl rfl rfl ?_
  exact w_end am_e48 rfl rfl rfl h
-- 48 takeSwitch
theorem g48_0_68  {E : am_Ev} {I : Nat → Nat → Int32} {J : Nat → Nat → Int64} {S : Nat → Nat → Option Nat} {Q : am_Qt}  (h : ∀ w3 : Int32, w3 = (if ((I 68) 4) = (nI 1) then (if ((I 68) 2) < ((I 68) 5) then ((I 68) 2) else (((I 68) 2) + (nI 1))) else ((I 68) 2)) → ((((I 18) 9) ≤ w3 → (am_ww 48 50 [.ref 68, .ref 18, .int w3, .int ((I 69) 6), am_U] [] E I J S Q)) ∧ (¬ ((I 18) 9) ≤ w3 → (((((I 69) 6) = (-1) → (True)) ∧ (¬ ((I 69) 6) = (-1) → (vp_in ((I 69) 6) 4 ∧ (vp_in w3 400 ∧ ((((I 73) (((I 69) 6).toNatClampNeg)) = ((I 29) w3.toNatClampNeg) → (vp_in ((I 69) 6) 4 ∧ (vp_in w3 400 ∧ True))) ∧ (¬ ((I 73) (((I 69) 6).toNatClampNeg)) = ((I 29) w3.toNatClampNeg) → (True))))))) ∧ (∀ w7 : Int32, w7 = (if ((I 69) 6) = (-1) then nI 1 else (if ((I 73) (((I 69) 6).toNatClampNeg)) = ((I 29) w3.toNatClampNeg) then (if ((I 72) (((I 69) 6).toNatClampNeg)) = ((I 30) w3.toNatClampNeg) then nI 1 else nI 0) else nI 0)) → ((w7 = 0 → (Q (.inl none) E I J S)) ∧ (¬ w7 = 0 → (((((I 68) 4) = 0 → ((w3 = ((I 68) 5) → (True)) ∧ (¬ w3 = ((I 68) 5) → (vp_in w3 400 ∧ True)))) ∧ (¬ ((I 68) 4) = 0 → (vp_in w3 400 ∧ True))) ∧ (∀ w10 : Int32, w10 = (if ((I 68) 4) = 0 then (if w3 = ((I 68) 5) then ((I 68) 6) else ((I 31) w3.toNatClampNeg)) else ((I 31) w3.toNatClampNeg)) → (Q (.inl none) E (u_I (u_I I 69 (upd (I 69) 6 w10)) 68 (upd (I 68) 2 (((I 68) 2) + (nI 1)))) J S)))))))))) : am_ww 48 0 [.ref 68, .ref 18, am_U, am_U, am_U] [] E I J S Q := by
  refine w_st (i' := 1) (ls' := [.ref 68, .ref 18, am_U, am_U, am_U]) (st' := [.ref 68]) (E' := E) (I' := I) (J' := J) (S' := S) am_e48 rfl rfl rfl rfl ?_
  refine w_st (i' := 2) (ls' := [.ref 68, .ref 18, am_U, am_U, am_U]) (st' := [.int ((I 68) 4)]) (E' := E) (I' := I) (J' := J) (S' := S) am_e48 rfl rfl rfl rfl ?_
  refine w_st (i' := 3) (ls' := [.ref 68, .ref 18, am_U, am_U, am_U]) (st' := [.int (nI 1), .int ((I 68) 4)]) (E' := E) (I' := I) (J' := J) (S' := S) am_e48 rfl rfl rfl rfl ?_
  refine w_mg (i := 16) (ls' := [.ref 68, .ref 18, am_U, am_U, am_U]) (st' := [.int (if ((I 68) 4) = (nI 1) then (if ((I 68) 2) < ((I 68) 5) then ((I 68) 2) else (((I 68) 2) + (nI 1))) else ((I 68) 2))]) (fun hm => ?_) ?_
  · clear h
    refine w_if2 am_e48 rfl rfl (fun c => ?_) (fun c => ?_)
    · have m1 : ¬ (((I 68) 4) = (nI 1)) := (of_decide_eq_true c)
      refine w_st (i' := 15) (ls' := [.ref 68, .ref 18, am_U, am_U, am_U]) (st' := [.ref 68]) (E' := E) (I' := I) (J' := J) (S' := S) am_e48 rfl rfl rfl rfl ?_
      refine w_st (i' := 16) (ls' := [.ref 68, .ref 18, am_U, am_U, am_U]) (st' := [.int ((I 68) 2)]) (E' := E) (I' := I) (J' := J) (S' := S) am_e48 rfl rfl rfl rfl ?_
      first | exact hm | (simp only [if_neg m1] at hm; exact hm)
    · have m1 : ((I 68) 4) = (nI 1) := (Decidable.not_not.mp (of_decide_eq_false c))
      refine w_st (i' := 5) (ls' := [.ref 68, .ref 18, am_U, am_U, am_U]) (st' := [.ref 68]) (E' := E) (I' := I) (J' := J) (S' := S) am_e48 rfl rfl rfl rfl ?_
      refine w_st (i' := 6) (ls' := [.ref 68, .ref 18, am_U, am_U, am_U]) (st' := [.int ((I 68) 2)]) (E' := E) (I' := I) (J' := J) (S' := S) am_e48 rfl rfl rfl rfl ?_
      refine w_st (i' := 7) (ls' := [.ref 68, .ref 18, am_U, am_U, am_U]) (st' := [.ref 68, .int ((I 68) 2)]) (E' := E) (I' := I) (J' := J) (S' := S) am_e48 rfl rfl rfl rfl ?_
      refine w_st (i' := 8) (ls' := [.ref 68, .ref 18, am_U, am_U, am_U]) (st' := [.int ((I 68) 5), .int ((I 68) 2)]) (E' := E) (I' := I) (J' := J) (S' := S) am_e48 rfl rfl rfl rfl ?_
      refine w_if2 am_e48 rfl rfl (fun c => ?_) (fun c => ?_)
      · have m2 : ((I 68) 2) < ((I 68) 5) := (of_decide_eq_true c)
        refine w_st (i' := 15) (ls' := [.ref 68, .ref 18, am_U, am_U, am_U]) (st' := [.ref 68]) (E' := E) (I' := I) (J' := J) (S' := S) am_e48 rfl rfl rfl rfl ?_
        refine w_st (i' := 16) (ls' := [.ref 68, .ref 18, am_U, am_U, am_U]) (st' := [.int ((I 68) 2)]) (E' := E) (I' := I) (J' := J) (S' := S) am_e48 rfl rfl rfl rfl ?_
        first | exact hm | (simp only [if_pos m1, if_pos m2] at hm; exact hm)
      · have m2 : ¬ (((I 68) 2) < ((I 68) 5)) := (of_decide_eq_false c)
        refine w_st (i' := 10) (ls' := [.ref 68, .ref 18, am_U, am_U, am_U]) (st' := [.ref 68]) (E' := E) (I' := I) (J' := J) (S' := S) am_e48 rfl rfl rfl rfl ?_
        refine w_st (i' := 11) (ls' := [.ref 68, .ref 18, am_U, am_U, am_U]) (st' := [.int ((I 68) 2)]) (E' := E) (I' := I) (J' := J) (S' := S) am_e48 rfl rfl rfl rfl ?_
        refine w_st (i' := 12) (ls' := [.ref 68, .ref 18, am_U, am_U, am_U]) (st' := [.int (nI 1), .int ((I 68) 2)]) (E' := E) (I' := I) (J' := J) (S' := S) am_e48 rfl rfl rfl rfl ?_
        refine w_st (i' := 13) (ls' := [.ref 68, .ref 18, am_U, am_U, am_U]) (st' := [.int (((I 68) 2) + (nI 1))]) (E' := E) (I' := I) (J' := J) (S' := S) am_e48 rfl rfl rfl rfl ?_
        refine w_st (i' := 16) (ls' := [.ref 68, .ref 18, am_U, am_U, am_U]) (st' := [.int (((I 68) 2) + (nI 1))]) (E' := E) (I' := I) (J' := J) (S' := S) am_e48 rfl rfl rfl rfl ?_
        first | exact hm | (simp only [if_pos m1, if_neg m2] at hm; exact hm)
  refine w_var (fun w3 => am_ww 48 16 [.ref 68, .ref 18, am_U, am_U, am_U] [.int w3] E I J S _) (if ((I 68) 4) = (nI 1) then (if ((I 68) 2) < ((I 68) 5) then ((I 68) 2) else (((I 68) 2) + (nI 1))) else ((I 68) 2)) (fun w3 hw3 => ?_)
  replace h := h w3 hw3
  refine w_st (i' := 17) (ls' := [.ref 68, .ref 18, .int w3, am_U, am_U]) (st' := []) (E' := E) (I' := I) (J' := J) (S' := S) am_e48 rfl rfl rfl rfl ?_
  refine w_st (i' := 18) (ls' := [.ref 68, .ref 18, .int w3, am_U, am_U]) (st' := [.ref 68]) (E' := E) (I' := I) (J' := J) (S' := S) am_e48 rfl rfl rfl rfl ?_
  refine w_st (i' := 19) (ls' := [.ref 68, .ref 18, .int w3, am_U, am_U]) (st' := [.ref 69]) (E' := E) (I' := I) (J' := J) (S' := S) am_e48 rfl rfl rfl rfl ?_
  refine w_st (i' := 20) (ls' := [.ref 68, .ref 18, .int w3, am_U, am_U]) (st' := [.int ((I 69) 6)]) (E' := E) (I' := I) (J' := J) (S' := S) am_e48 rfl rfl rfl rfl ?_
  refine w_st (i' := 21) (ls' := [.ref 68, .ref 18, .int w3, .int ((I 69) 6), am_U]) (st' := []) (E' := E) (I' := I) (J' := J) (S' := S) am_e48 rfl rfl rfl rfl ?_
  refine w_st (i' := 22) (ls' := [.ref 68, .ref 18, .int w3, .int ((I 69) 6), am_U]) (st' := [.int w3]) (E' := E) (I' := I) (J' := J) (S' := S) am_e48 rfl rfl rfl rfl ?_
  refine w_st (i' := 23) (ls' := [.ref 68, .ref 18, .int w3, .int ((I 69) 6), am_U]) (st' := [.ref 18, .int w3]) (E' := E) (I' := I) (J' := J) (S' := S) am_e48 rfl rfl rfl rfl ?_
  refine w_st (i' := 24) (ls' := [.ref 68, .ref 18, .int w3, .int ((I 69) 6), am_U]) (st' := [.int ((I 18) 9), .int w3]) (E' := E) (I' := I) (J' := J) (S' := S) am_e48 rfl rfl rfl rfl ?_
  refine w_if2 am_e48 rfl rfl (fun c => ?_) (fun c => ?_)
  · replace h := h.1 (of_decide_eq_true c)
    exact h
  · replace h := h.2 (of_decide_eq_false c)
    refine w_st (i' := 26) (ls' := [.ref 68, .ref 18, .int w3, .int ((I 69) 6), am_U]) (st' := [.int ((I 69) 6)]) (E' := E) (I' := I) (J' := J) (S' := S) am_e48 rfl rfl rfl rfl ?_
    refine w_st (i' := 27) (ls' := [.ref 68, .ref 18, .int w3, .int ((I 69) 6), am_U]) (st' := [.int (-1), .int ((I 69) 6)]) (E' := E) (I' := I) (J' := J) (S' := S) am_e48 rfl rfl rfl rfl ?_
    refine w_mg (i := 51) (ls' := [.ref 68, .ref 18, .int w3, .int ((I 69) 6), am_U]) (st' := [.int (if ((I 69) 6) = (-1) then nI 1 else (if ((I 73) (((I 69) 6).toNatClampNeg)) = ((I 29) w3.toNatClampNeg) then (if ((I 72) (((I 69) 6).toNatClampNeg)) = ((I 30) w3.toNatClampNeg) then nI 1 else nI 0) else nI 0))]) (fun hm => ?_) ?_
    · replace h := h.1
      refine w_if2 am_e48 rfl rfl (fun c => ?_) (fun c => ?_)
      · have m4 : ((I 69) 6) = (-1) := (of_decide_eq_true c)
        replace h := h.1 m4
        refine w_st (i' := 49) (ls' := [.ref 68, .ref 18, .int w3, .int ((I 69) 6), am_U]) (st' := [.int (nI 1)]) (E' := E) (I' := I) (J' := J) (S' := S) am_e48 rfl rfl rfl rfl ?_
        refine w_st (i' := 51) (ls' := [.ref 68, .ref 18, .int w3, .int ((I 69) 6), am_U]) (st' := [.int (nI 1)]) (E' := E) (I' := I) (J' := J) (S' := S) am_e48 rfl rfl rfl rfl ?_
        first | exact hm | (simp only [if_pos m4] at hm; exact hm)
      · have m4 : ¬ (((I 69) 6) = (-1)) := (of_decide_eq_false c)
        replace h := h.2 m4
        refine w_st (i' := 29) (ls' := [.ref 68, .ref 18, .int w3, .int ((I 69) 6), am_U]) (st' := [.ref 68]) (E' := E) (I' := I) (J' := J) (S' := S) am_e48 rfl rfl rfl rfl ?_
        refine w_st (i' := 30) (ls' := [.ref 68, .ref 18, .int w3, .int ((I 69) 6), am_U]) (st' := [.ref 69]) (E' := E) (I' := I) (J' := J) (S' := S) am_e48 rfl rfl rfl rfl ?_
        refine w_st (i' := 31) (ls' := [.ref 68, .ref 18, .int w3, .int ((I 69) 6), am_U]) (st' := [.ref 73]) (E' := E) (I' := I) (J' := J) (S' := S) am_e48 rfl rfl rfl rfl ?_
        refine w_st (i' := 32) (ls' := [.ref 68, .ref 18, .int w3, .int ((I 69) 6), am_U]) (st' := [.int ((I 69) 6), .ref 73]) (E' := E) (I' := I) (J' := J) (S' := S) am_e48 rfl rfl rfl rfl ?_
        refine w_ia (k := 73) (n := 4) (jn := ((I 69) 6).toNatClampNeg) am_e48 rfl rfl (by decide) h.1 rfl ?_
        replace h := h.2
        show am_ww 48 33 [.ref 68, .ref 18, .int w3, .int ((I 69) 6), am_U] [.int ((I 73) (((I 69) 6).toNatClampNeg))] E I J S _
        refine w_st (i' := 34) (ls' := [.ref 68, .ref 18, .int w3, .int ((I 69) 6), am_U]) (st' := [.ref 18, .int ((I 73) (((I 69) 6).toNatClampNeg))]) (E' := E) (I' := I) (J' := J) (S' := S) am_e48 rfl rfl rfl rfl ?_
        refine w_st (i' := 35) (ls' := [.ref 68, .ref 18, .int w3, .int ((I 69) 6), am_U]) (st' := [.ref 29, .int ((I 73) (((I 69) 6).toNatClampNeg))]) (E' := E) (I' := I) (J' := J) (S' := S) am_e48 rfl rfl rfl rfl ?_
        refine w_st (i' := 36) (ls' := [.ref 68, .ref 18, .int w3, .int ((I 69) 6), am_U]) (st' := [.int w3, .ref 29, .int ((I 73) (((I 69) 6).toNatClampNeg))]) (E' := E) (I' := I) (J' := J) (S' := S) am_e48 rfl rfl rfl rfl ?_
        refine w_ia (k := 29) (n := 400) (jn := w3.toNatClampNeg) am_e48 rfl rfl (by decide) h.1 rfl ?_
        replace h := h.2
        show am_ww 48 37 [.ref 68, .ref 18, .int w3, .int ((I 69) 6), am_U] [.int ((I 29) w3.toNatClampNeg), .int ((I 73) (((I 69) 6).toNatClampNeg))] E I J S _
        refine w_if2 am_e48 rfl rfl (fun c => ?_) (fun c => ?_)
        · have m5 : ¬ (((I 73) (((I 69) 6).toNatClampNeg)) = ((I 29) w3.toNatClampNeg)) := (of_decide_eq_true c)
          replace h := h.2 m5
          refine w_st (i' := 51) (ls' := [.ref 68, .ref 18, .int w3, .int ((I 69) 6), am_U]) (st' := [.int (nI 0)]) (E' := E) (I' := I) (J' := J) (S' := S) am_e48 rfl rfl rfl rfl ?_
          first | exact hm | (simp only [if_neg m4, if_neg m5] at hm; exact hm)
        · have m5 : ((I 73) (((I 69) 6).toNatClampNeg)) = ((I 29) w3.toNatClampNeg) := (Decidable.not_not.mp (of_decide_eq_false c))
          replace h := h.1 m5
          refine w_st (i' := 39) (ls' := [.ref 68, .ref 18, .int w3, .int ((I 69) 6), am_U]) (st' := [.ref 68]) (E' := E) (I' := I) (J' := J) (S' := S) am_e48 rfl rfl rfl rfl ?_
          refine w_st (i' := 40) (ls' := [.ref 68, .ref 18, .int w3, .int ((I 69) 6), am_U]) (st' := [.ref 69]) (E' := E) (I' := I) (J' := J) (S' := S) am_e48 rfl rfl rfl rfl ?_
          refine w_st (i' := 41) (ls' := [.ref 68, .ref 18, .int w3, .int ((I 69) 6), am_U]) (st' := [.ref 72]) (E' := E) (I' := I) (J' := J) (S' := S) am_e48 rfl rfl rfl rfl ?_
          refine w_st (i' := 42) (ls' := [.ref 68, .ref 18, .int w3, .int ((I 69) 6), am_U]) (st' := [.int ((I 69) 6), .ref 72]) (E' := E) (I' := I) (J' := J) (S' := S) am_e48 rfl rfl rfl rfl ?_
          refine w_ia (k := 72) (n := 4) (jn := ((I 69) 6).toNatClampNeg) am_e48 rfl rfl (by decide) h.1 rfl ?_
          replace h := h.2
          show am_ww 48 43 [.ref 68, .ref 18, .int w3, .int ((I 69) 6), am_U] [.int ((I 72) (((I 69) 6).toNatClampNeg))] E I J S _
          refine w_st (i' := 44) (ls' := [.ref 68, .ref 18, .int w3, .int ((I 69) 6), am_U]) (st' := [.ref 18, .int ((I 72) (((I 69) 6).toNatClampNeg))]) (E' := E) (I' := I) (J' := J) (S' := S) am_e48 rfl rfl rfl rfl ?_
          refine w_st (i' := 45) (ls' := [.ref 68, .ref 18, .int w3, .int ((I 69) 6), am_U]) (st' := [.ref 30, .int ((I 72) (((I 69) 6).toNatClampNeg))]) (E' := E) (I' := I) (J' := J) (S' := S) am_e48 rfl rfl rfl rfl ?_
          refine w_st (i' := 46) (ls' := [.ref 68, .ref 18, .int w3, .int ((I 69) 6), am_U]) (st' := [.int w3, .ref 30, .int ((I 72) (((I 69) 6).toNatClampNeg))]) (E' := E) (I' := I) (J' := J) (S' := S) am_e48 rfl rfl rfl rfl ?_
          refine w_ia (k := 30) (n := 400) (jn := w3.toNatClampNeg) am_e48 rfl rfl (by decide) h.1 rfl ?_
          replace h := h.2
          show am_ww 48 47 [.ref 68, .ref 18, .int w3, .int ((I 69) 6), am_U] [.int ((I 30) w3.toNatClampNeg), .int ((I 72) (((I 69) 6).toNatClampNeg))] E I J S _
          refine w_if2 am_e48 rfl rfl (fun c => ?_) (fun c => ?_)
          · have m6 : ¬ (((I 72) (((I 69) 6).toNatClampNeg)) = ((I 30) w3.toNatClampNeg)) := (of_decide_eq_true c)
            refine w_st (i' := 51) (ls' := [.ref 68, .ref 18, .int w3, .int ((I 69) 6), am_U]) (st' := [.int (nI 0)]) (E' := E) (I' := I) (J' := J) (S' := S) am_e48 rfl rfl rfl rfl ?_
            first | exact hm | (simp only [if_neg m4, if_pos m5, if_neg m6] at hm; exact hm)
          · have m6 : ((I 72) (((I 69) 6).toNatClampNeg)) = ((I 30) w3.toNatClampNeg) := (Decidable.not_not.mp (of_decide_eq_false c))
            refine w_st (i' := 49) (ls' := [.ref 68, .ref 18, .int w3, .int ((I 69) 6), am_U]) (st' := [.int (nI 1)]) (E' := E) (I' := I) (J' := J) (S' := S) am_e48 rfl rfl rfl rfl ?_
            refine w_st (i' := 51) (ls' := [.ref 68, .ref 18, .int w3, .int ((I 69) 6), am_U]) (st' := [.int (nI 1)]) (E' := E) (I' := I) (J' := J) (S' := S) am_e48 rfl rfl rfl rfl ?_
            first | exact hm | (simp only [if_neg m4, if_pos m5, if_pos m6] at hm; exact hm)
    replace h := h.2
    refine w_var (fun w7 => am_ww 48 51 [.ref 68, .ref 18, .int w3, .int ((I 69) 6), am_U] [.int w7] E I J S _) (if ((I 69) 6) = (-1) then nI 1 else (if ((I 73) (((I 69) 6).toNatClampNeg)) = ((I 29) w3.toNatClampNeg) then (if ((I 72) (((I 69) 6).toNatClampNeg)) = ((I 30) w3.toNatClampNeg) then nI 1 else nI 0) else nI 0)) (fun w7 hw7 => ?_)
    replace h := h w7 hw7
    refine w_st (i' := 52) (ls' := [.ref 68, .ref 18, .int w3, .int ((I 69) 6), .int w7]) (st' := []) (E' := E) (I' := I) (J' := J) (S' := S) am_e48 rfl rfl rfl rfl ?_
    refine w_st (i' := 53) (ls' := [.ref 68, .ref 18, .int w3, .int ((I 69) 6), .int w7]) (st' := [.int w7]) (E' := E) (I' := I) (J' := J) (S' := S) am_e48 rfl rfl rfl rfl ?_
    refine w_if1 am_e48 rfl rfl (fun c => ?_) (fun c => ?_)
    · replace h := h.1 (of_decide_eq_true c)
      exact w_end am_e48 rfl rfl rfl h
    · replace h := h.2 (of_decide_eq_false c)
      refine w_st (i' := 55) (ls' := [.ref 68, .ref 18, .int w3, .int ((I 69) 6), .int w7]) (st' := [.ref 68]) (E' := E) (I' := I) (J' := J) (S' := S) am_e48 rfl rfl rfl rfl ?_
      refine w_st (i' := 56) (ls' := [.ref 68, .ref 18, .int w3, .int ((I 69) 6), .int w7]) (st' := [.ref 69]) (E' := E) (I' := I) (J' := J) (S' := S) am_e48 rfl rfl rfl rfl ?_
      refine w_st (i' := 57) (ls' := [.ref 68, .ref 18, .int w3, .int ((I 69) 6), .int w7]) (st' := [.ref 68, .ref 69]) (E' := E) (I' := I) (J' := J) (S' := S) am_e48 rfl rfl rfl rfl ?_
      refine w_st (i' := 58) (ls' := [.ref 68, .ref 18, .int w3, .int ((I 69) 6), .int w7]) (st' := [.int ((I 68) 4), .ref 69]) (E' := E) (I' := I) (J' := J) (S' := S) am_e48 rfl rfl rfl rfl ?_
      refine w_mg (i := 70) (ls' := [.ref 68, .ref 18, .int w3, .int ((I 69) 6), .int w7]) (st' := [.int (if ((I 68) 4) = 0 then (if w3 = ((I 68) 5) then ((I 68) 6) else ((I 31) w3.toNatClampNeg)) else ((I 31) w3.toNatClampNeg)), .ref 69]) (fun hm => ?_) ?_
      · replace h := h.1
        refine w_if1 am_e48 rfl rfl (fun c => ?_) (fun c => ?_)
        · have m8 : ¬ (((I 68) 4) = 0) := (of_decide_eq_true c)
          replace h := h.2 m8
          refine w_st (i' := 67) (ls' := [.ref 68, .ref 18, .int w3, .int ((I 69) 6), .int w7]) (st' := [.ref 18, .ref 69]) (E' := E) (I' := I) (J' := J) (S' := S) am_e48 rfl rfl rfl rfl ?_
          refine w_st (i' := 68) (ls' := [.ref 68, .ref 18, .int w3, .int ((I 69) 6), .int w7]) (st' := [.ref 31, .ref 69]) (E' := E) (I' := I) (J' := J) (S' := S) am_e48 rfl rfl rfl rfl ?_
          refine w_st (i' := 69) (ls' := [.ref 68, .ref 18, .int w3, .int ((I 69) 6), .int w7]) (st' := [.int w3, .ref 31, .ref 69]) (E' := E) (I' := I) (J' := J) (S' := S) am_e48 rfl rfl rfl rfl ?_
          refine w_ia (k := 31) (n := 400) (jn := w3.toNatClampNeg) am_e48 rfl rfl (by decide) h.1 rfl ?_
          replace h := h.2
          show am_ww 48 70 [.ref 68, .ref 18, .int w3, .int ((I 69) 6), .int w7] [.int ((I 31) w3.toNatClampNeg), .ref 69] E I J S _
          first | exact hm | (simp only [if_neg m8] at hm; exact hm)
        · have m8 : ((I 68) 4) = 0 := (Decidable.not_not.mp (of_decide_eq_false c))
          replace h := h.1 m8
          refine w_st (i' := 60) (ls' := [.ref 68, .ref 18, .int w3, .int ((I 69) 6), .int w7]) (st' := [.int w3, .ref 69]) (E' := E) (I' := I) (J' := J) (S' := S) am_e48 rfl rfl rfl rfl ?_
          refine w_st (i' := 61) (ls' := [.ref 68, .ref 18, .int w3, .int ((I 69) 6), .int w7]) (st' := [.ref 68, .int w3, .ref 69]) (E' := E) (I' := I) (J' := J) (S' := S) am_e48 rfl rfl rfl rfl ?_
          refine w_st (i' := 62) (ls' := [.ref 68, .ref 18, .int w3, .int ((I 69) 6), .int w7]) (st' := [.int ((I 68) 5), .int w3, .ref 69]) (E' := E) (I' := I) (J' := J) (S' := S) am_e48 rfl rfl rfl rfl ?_
          refine w_if2 am_e48 rfl rfl (fun c => ?_) (fun c => ?_)
          · have m9 : ¬ (w3 = ((I 68) 5)) := (of_decide_eq_true c)
            replace h := h.2 m9
            refine w_st (i' := 67) (ls' := [.ref 68, .ref 18, .int w3, .int ((I 69) 6), .int w7]) (st' := [.ref 18, .ref 69]) (E' := E) (I' := I) (J' := J) (S' := S) am_e48 rfl rfl rfl rfl ?_
            refine w_st (i' := 68) (ls' := [.ref 68, .ref 18, .int w3, .int ((I 69) 6), .int w7]) (st' := [.ref 31, .ref 69]) (E' := E) (I' := I) (J' := J) (S' := S) am_e48 rfl rfl rfl rfl ?_
            refine w_st (i' := 69) (ls' := [.ref 68, .ref 18, .int w3, .int ((I 69) 6), .int w7]) (st' := [.int w3, .ref 31, .ref 69]) (E' := E) (I' := I) (J' := J) (S' := S) am_e48 rfl rfl rfl rfl ?_
            refine w_ia (k := 31) (n := 400) (jn := w3.toNatClampNeg) am_e48 rfl rfl (by decide) h.1 rfl ?_
            replace h := h.2
            show am_ww 48 70 [.ref 68, .ref 18, .int w3, .int ((I 69) 6), .int w7] [.int ((I 31) w3.toNatClampNeg), .ref 69] E I J S _
            first | exact hm | (simp only [if_pos m8, if_neg m9] at hm; exact hm)
          · have m9 : w3 = ((I 68) 5) := (Decidable.not_not.mp (of_decide_eq_false c))
            replace h := h.1 m9
            refine w_st (i' := 64) (ls' := [.ref 68, .ref 18, .int w3, .int ((I 69) 6), .int w7]) (st' := [.ref 68, .ref 69]) (E' := E) (I' := I) (J' := J) (S' := S) am_e48 rfl rfl rfl rfl ?_
            refine w_st (i' := 65) (ls' := [.ref 68, .ref 18, .int w3, .int ((I 69) 6), .int w7]) (st' := [.int ((I 68) 6), .ref 69]) (E' := E) (I' := I) (J' := J) (S' := S) am_e48 rfl rfl rfl rfl ?_
            refine w_st (i' := 70) (ls' := [.ref 68, .ref 18, .int w3, .int ((I 69) 6), .int w7]) (st' := [.int ((I 68) 6), .ref 69]) (E' := E) (I' := I) (J' := J) (S' := S) am_e48 rfl rfl rfl rfl ?_
            first | exact hm | (simp only [if_pos m8, if_pos m9] at hm; exact hm)
      replace h := h.2
      refine w_var (fun w10 => am_ww 48 70 [.ref 68, .ref 18, .int w3, .int ((I 69) 6), .int w7] [.int w10, .ref 69] E I J S _) (if ((I 68) 4) = 0 then (if w3 = ((I 68) 5) then ((I 68) 6) else ((I 31) w3.toNatClampNeg)) else ((I 31) w3.toNatClampNeg)) (fun w10 hw10 => ?_)
      replace h := h w10 hw10
      refine w_st (i' := 71) (ls' := [.ref 68, .ref 18, .int w3, .int ((I 69) 6), .int w7]) (st' := []) (E' := E) (I' := (u_I I 69 (upd (I 69) 6 w10))) (J' := J) (S' := S) am_e48 rfl rfl rfl rfl ?_
      refine w_st (i' := 72) (ls' := [.ref 68, .ref 18, .int w3, .int ((I 69) 6), .int w7]) (st' := [.ref 68]) (E' := E) (I' := (u_I I 69 (upd (I 69) 6 w10))) (J' := J) (S' := S) am_e48 rfl rfl rfl rfl ?_
      refine w_st (i' := 73) (ls' := [.ref 68, .ref 18, .int w3, .int ((I 69) 6), .int w7]) (st' := [.ref 68, .ref 68]) (E' := E) (I' := (u_I I 69 (upd (I 69) 6 w10))) (J' := J) (S' := S) am_e48 rfl rfl rfl rfl ?_
      refine w_st (i' := 74) (ls' := [.ref 68, .ref 18, .int w3, .int ((I 69) 6), .int w7]) (st' := [.int ((I 68) 2), .ref 68]) (E' := E) (I' := (u_I I 69 (upd (I 69) 6 w10))) (J' := J) (S' := S) am_e48 rfl rfl rfl rfl ?_
      refine w_st (i' := 75) (ls' := [.ref 68, .ref 18, .int w3, .int ((I 69) 6), .int w7]) (st' := [.int (nI 1), .int ((I 68) 2), .ref 68]) (E' := E) (I' := (u_I I 69 (upd (I 69) 6 w10))) (J' := J) (S' := S) am_e48 rfl rfl rfl rfl ?_
      refine w_st (i' := 76) (ls' := [.ref 68, .ref 18, .int w3, .int ((I 69) 6), .int w7]) (st' := [.int (((I 68) 2) + (nI 1)), .ref 68]) (E' := E) (I' := (u_I I 69 (upd (I 69) 6 w10))) (J' := J) (S' := S) am_e48 rfl rfl rfl rfl ?_
      refine w_st (i' := 77) (ls' := [.ref 68, .ref 18, .int w3, .int ((I 69) 6), .int w7]) (st' := []) (E' := E) (I' := (u_I (u_I I 69 (upd (I 69) 6 w10)) 68 (upd (I 68) 2 (((I 68) 2) + (nI 1))))) (J' := J) (S' := S) am_e48 rfl rfl rfl rfl ?_
      exact w_end am_e48 rfl rfl rfl h
theorem g48_50_68 {x2 : Int32} {d3 : Value} {d4 : Value} {E : am_Ev} {I : Nat → Nat → Int32} {J : Nat → Nat → Int64} {S : Nat → Nat → Option Nat} {Q : am_Qt} (hd3 : am_isL d3 = false) (hd4 : am_isL d4 = false) (h : Q (.inl none) E I J S) : am_ww 48 50 [.ref 68, .ref 18, .int x2, d3, d4] [] E I J S Q := by
  refine w_st (i' := 51) (ls' := [.ref 68, .ref 18, .int x2, d3, d4]) (st' := [.int (nI 0)]) (E' := E) (I' := I) (J' := J) (S' := S) am_e48 rfl rfl rfl rfl ?_
  refine w_st (i' := 52) (ls' := [.ref 68, .ref 18, .int x2, d3, .int (nI 0)]) (st' := []) (E' := E) (I' := I) (J' := J) (S' := S) am_e48 rfl rfl rfl (by simp [am_step, am_sto, hd3]) ?_
  refine w_st (i' := 53) (ls' := [.ref 68, .ref 18, .int x2, d3, .int (nI 0)]) (st' := [.int (nI 0)]) (E' := E) (I' := I) (J' := J) (S' := S) am_e48 rfl rfl rfl rfl ?_
  refine w_st (i' := 77) (ls' := [.ref 68, .ref 18, .int x2, d3, .int (nI 0)]) (st' := []) (E' := E) (I' := I) (J' := J) (S' := S) am_e48 rfl rfl rfl rfl ?_
  exact w_end am_e48 rfl rfl rfl h
-- 49 inputFrom
theorem g49_0_60 {p2 : Int32} {E : am_Ev} {I : Nat → Nat → Int32} {J : Nat → Nat → Int64} {S : Nat → Nat → Option Nat} {Q : am_Qt}  (h : vp_in p2 3 ∧ ((((I 60) 4) = ((nI 2) + p2) → ((((I 67) p2.toNatClampNeg) = ((I 60) 5) → (Q (.inl (some (.int ((I 60) 6)))) E I J S)) ∧ (¬ ((I 67) p2.toNatClampNeg) = ((I 60) 5) → (((((I 67) p2.toNatClampNeg) < 0 → (True)) ∧ (¬ ((I 67) p2.toNatClampNeg) < 0 → (((nI 30) ≤ ((I 67) p2.toNatClampNeg) → (True)) ∧ (¬ (nI 30) ≤ ((I 67) p2.toNatClampNeg) → (vp_in ((p2 * (nI 30)) + ((I 67) p2.toNatClampNeg)) 90 ∧ True))))) ∧ (∀ w7 : Int32, w7 = (if ((I 67) p2.toNatClampNeg) < 0 then nI 0 else (if (nI 30) ≤ ((I 67) p2.toNatClampNeg) then nI 0 else ((I 27) (((p2 * (nI 30)) + ((I 67) p2.toNatClampNeg)).toNatClampNeg)))) → (Q (.inl (some (.int w7))) E I J S)))))) ∧ (¬ ((I 60) 4) = ((nI 2) + p2) → (((((I 67) p2.toNatClampNeg) < 0 → (True)) ∧ (¬ ((I 67) p2.toNatClampNeg) < 0 → (((nI 30) ≤ ((I 67) p2.toNatClampNeg) → (True)) ∧ (¬ (nI 30) ≤ ((I 67) p2.toNatClampNeg) → (vp_in ((p2 * (nI 30)) + ((I 67) p2.toNatClampNeg)) 90 ∧ True))))) ∧ (∀ w4 : Int32, w4 = (if ((I 67) p2.toNatClampNeg) < 0 then nI 0 else (if (nI 30) ≤ ((I 67) p2.toNatClampNeg) then nI 0 else ((I 27) (((p2 * (nI 30)) + ((I 67) p2.toNatClampNeg)).toNatClampNeg)))) → (Q (.inl (some (.int w4))) E I J S)))))) : am_ww 49 0 [.ref 60, .ref 18, .int p2, am_U] [] E I J S Q := by
  refine w_st (i' := 1) (ls' := [.ref 60, .ref 18, .int p2, am_U]) (st' := [.ref 60]) (E' := E) (I' := I) (J' := J) (S' := S) am_e49 rfl rfl rfl rfl ?_
  refine w_st (i' := 2) (ls' := [.ref 60, .ref 18, .int p2, am_U]) (st' := [.ref 61]) (E' := E) (I' := I) (J' := J) (S' := S) am_e49 rfl rfl rfl rfl ?_
  refine w_st (i' := 3) (ls' := [.ref 60, .ref 18, .int p2, am_U]) (st' := [.ref 67]) (E' := E) (I' := I) (J' := J) (S' := S) am_e49 rfl rfl rfl rfl ?_
  refine w_st (i' := 4) (ls' := [.ref 60, .ref 18, .int p2, am_U]) (st' := [.int p2, .ref 67]) (E' := E) (I' := I) (J' := J) (S' := S) am_e49 rfl rfl rfl rfl ?_
  have hf1 := h.1
  replace h := h.2
  refine w_ia (k := 67) (n := 3) (jn := p2.toNatClampNeg) am_e49 rfl rfl (by decide) hf1 rfl ?_
  refine w_st (i' := 6) (ls' := [.ref 60, .ref 18, .int p2, .int ((I 67) p2.toNatClampNeg)]) (st' := []) (E' := E) (I' := I) (J' := J) (S' := S) am_e49 rfl rfl rfl rfl ?_
  refine w_st (i' := 7) (ls' := [.ref 60, .ref 18, .int p2, .int ((I 67) p2.toNatClampNeg)]) (st' := [.ref 60]) (E' := E) (I' := I) (J' := J) (S' := S) am_e49 rfl rfl rfl rfl ?_
  refine w_st (i' := 8) (ls' := [.ref 60, .ref 18, .int p2, .int ((I 67) p2.toNatClampNeg)]) (st' := [.int ((I 60) 4)]) (E' := E) (I' := I) (J' := J) (S' := S) am_e49 rfl rfl rfl rfl ?_
  refine w_st (i' := 9) (ls' := [.ref 60, .ref 18, .int p2, .int ((I 67) p2.toNatClampNeg)]) (st' := [.int (nI 2), .int ((I 60) 4)]) (E' := E) (I' := I) (J' := J) (S' := S) am_e49 rfl rfl rfl rfl ?_
  refine w_st (i' := 10) (ls' := [.ref 60, .ref 18, .int p2, .int ((I 67) p2.toNatClampNeg)]) (st' := [.int p2, .int (nI 2), .int ((I 60) 4)]) (E' := E) (I' := I) (J' := J) (S' := S) am_e49 rfl rfl rfl rfl ?_
  refine w_st (i' := 11) (ls' := [.ref 60, .ref 18, .int p2, .int ((I 67) p2.toNatClampNeg)]) (st' := [.int ((nI 2) + p2), .int ((I 60) 4)]) (E' := E) (I' := I) (J' := J) (S' := S) am_e49 rfl rfl rfl rfl ?_
  refine w_if2 am_e49 rfl rfl (fun c => ?_) (fun c => ?_)
  · replace h := h.2 (of_decide_eq_true c)
    refine w_st (i' := 20) (ls' := [.ref 60, .ref 18, .int p2, .int ((I 67) p2.toNatClampNeg)]) (st' := [.ref 18]) (E' := E) (I' := I) (J' := J) (S' := S) am_e49 rfl rfl rfl rfl ?_
    refine w_st (i' := 21) (ls' := [.ref 60, .ref 18, .int p2, .int ((I 67) p2.toNatClampNeg)]) (st' := [.int p2, .ref 18]) (E' := E) (I' := I) (J' := J) (S' := S) am_e49 rfl rfl rfl rfl ?_
    refine w_st (i' := 22) (ls' := [.ref 60, .ref 18, .int p2, .int ((I 67) p2.toNatClampNeg)]) (st' := [.int ((I 67) p2.toNatClampNeg), .int p2, .ref 18]) (E' := E) (I' := I) (J' := J) (S' := S) am_e49 rfl rfl rfl rfl ?_
    refine w_cI am_e49 rfl rfl (as := [.ref 18, .int p2, .int ((I 67) p2.toNatClampNeg)]) (rest := []) rfl rfl ?_
    show am_ww 35 0 [.ref 18, .int p2, .int ((I 67) p2.toNatClampNeg)] [] E I J S _
    refine w_st (i' := 1) (ls' := [.ref 18, .int p2, .int ((I 67) p2.toNatClampNeg)]) (st' := [.int ((I 67) p2.toNatClampNeg)]) (E' := E) (I' := I) (J' := J) (S' := S) am_e35 rfl rfl rfl rfl ?_
    refine w_mg (i := 15) (ls' := [.ref 18, .int p2, .int ((I 67) p2.toNatClampNeg)]) (st' := [.int (if ((I 67) p2.toNatClampNeg) < 0 then nI 0 else (if (nI 30) ≤ ((I 67) p2.toNatClampNeg) then nI 0 else ((I 27) (((p2 * (nI 30)) + ((I 67) p2.toNatClampNeg)).toNatClampNeg))))]) (fun hm => ?_) ?_
    · replace h := h.1
      refine w_if1 am_e35 rfl rfl (fun c => ?_) (fun c => ?_)
      · have m2 : ((I 67) p2.toNatClampNeg) < 0 := (of_decide_eq_true c)
        replace h := h.1 m2
        refine w_st (i' := 15) (ls' := [.ref 18, .int p2, .int ((I 67) p2.toNatClampNeg)]) (st' := [.int (nI 0)]) (E' := E) (I' := I) (J' := J) (S' := S) am_e35 rfl rfl rfl rfl ?_
        first | exact hm | (simp only [if_pos m2] at hm; exact hm)
      · have m2 : ¬ (((I 67) p2.toNatClampNeg) < 0) := (of_decide_eq_false c)
        replace h := h.2 m2
        refine w_st (i' := 3) (ls' := [.ref 18, .int p2, .int ((I 67) p2.toNatClampNeg)]) (st' := [.int ((I 67) p2.toNatClampNeg)]) (E' := E) (I' := I) (J' := J) (S' := S) am_e35 rfl rfl rfl rfl ?_
        refine w_st (i' := 4) (ls' := [.ref 18, .int p2, .int ((I 67) p2.toNatClampNeg)]) (st' := [.int (nI 30), .int ((I 67) p2.toNatClampNeg)]) (E' := E) (I' := I) (J' := J) (S' := S) am_e35 rfl rfl rfl rfl ?_
        refine w_if2 am_e35 rfl rfl (fun c => ?_) (fun c => ?_)
        · have m3 : (nI 30) ≤ ((I 67) p2.toNatClampNeg) := (of_decide_eq_true c)
          replace h := h.1 m3
          refine w_st (i' := 15) (ls' := [.ref 18, .int p2, .int ((I 67) p2.toNatClampNeg)]) (st' := [.int (nI 0)]) (E' := E) (I' := I) (J' := J) (S' := S) am_e35 rfl rfl rfl rfl ?_
          first | exact hm | (simp only [if_neg m2, if_pos m3] at hm; exact hm)
        · have m3 : ¬ ((nI 30) ≤ ((I 67) p2.toNatClampNeg)) := (of_decide_eq_false c)
          replace h := h.2 m3
          refine w_st (i' := 6) (ls' := [.ref 18, .int p2, .int ((I 67) p2.toNatClampNeg)]) (st' := [.ref 18]) (E' := E) (I' := I) (J' := J) (S' := S) am_e35 rfl rfl rfl rfl ?_
          refine w_st (i' := 7) (ls' := [.ref 18, .int p2, .int ((I 67) p2.toNatClampNeg)]) (st' := [.ref 27]) (E' := E) (I' := I) (J' := J) (S' := S) am_e35 rfl rfl rfl rfl ?_
          refine w_st (i' := 8) (ls' := [.ref 18, .int p2, .int ((I 67) p2.toNatClampNeg)]) (st' := [.int p2, .ref 27]) (E' := E) (I' := I) (J' := J) (S' := S) am_e35 rfl rfl rfl rfl ?_
          refine w_st (i' := 9) (ls' := [.ref 18, .int p2, .int ((I 67) p2.toNatClampNeg)]) (st' := [.int (nI 30), .int p2, .ref 27]) (E' := E) (I' := I) (J' := J) (S' := S) am_e35 rfl rfl rfl rfl ?_
          refine w_st (i' := 10) (ls' := [.ref 18, .int p2, .int ((I 67) p2.toNatClampNeg)]) (st' := [.int (p2 * (nI 30)), .ref 27]) (E' := E) (I' := I) (J' := J) (S' := S) am_e35 rfl rfl rfl rfl ?_
          refine w_st (i' := 11) (ls' := [.ref 18, .int p2, .int ((I 67) p2.toNatClampNeg)]) (st' := [.int ((I 67) p2.toNatClampNeg), .int (p2 * (nI 30)), .ref 27]) (E' := E) (I' := I) (J' := J) (S' := S) am_e35 rfl rfl rfl rfl ?_
          refine w_st (i' := 12) (ls' := [.ref 18, .int p2, .int ((I 67) p2.toNatClampNeg)]) (st' := [.int ((p2 * (nI 30)) + ((I 67) p2.toNatClampNeg)), .ref 27]) (E' := E) (I' := I) (J' := J) (S' := S) am_e35 rfl rfl rfl rfl ?_
          refine w_ia (k := 27) (n := 90) (jn := ((p2 * (nI 30)) + ((I 67) p2.toNatClampNeg)).toNatClampNeg) am_e35 rfl rfl (by decide) h.1 rfl ?_
          replace h := h.2
          show am_ww 35 13 [.ref 18, .int p2, .int ((I 67) p2.toNatClampNeg)] [.int ((I 27) (((p2 * (nI 30)) + ((I 67) p2.toNatClampNeg)).toNatClampNeg))] E I J S _
          refine w_st (i' := 15) (ls' := [.ref 18, .int p2, .int ((I 67) p2.toNatClampNeg)]) (st' := [.int ((I 27) (((p2 * (nI 30)) + ((I 67) p2.toNatClampNeg)).toNatClampNeg))]) (E' := E) (I' := I) (J' := J) (S' := S) am_e35 rfl rfl rfl rfl ?_
          first | exact hm | (simp only [if_neg m2, if_neg m3] at hm; exact hm)
    replace h := h.2
    refine w_var (fun w4 => am_ww 35 15 [.ref 18, .int p2, .int ((I 67) p2.toNatClampNeg)] [.int w4] E I J S _) (if ((I 67) p2.toNatClampNeg) < 0 then nI 0 else (if (nI 30) ≤ ((I 67) p2.toNatClampNeg) then nI 0 else ((I 27) (((p2 * (nI 30)) + ((I 67) p2.toNatClampNeg)).toNatClampNeg)))) (fun w4 hw4 => ?_)
    replace h := h w4 hw4
    refine w_ri am_e35 rfl rfl (q_mkI ?_)
    show am_ww 49 23 [.ref 60, .ref 18, .int p2, .int ((I 67) p2.toNatClampNeg)] [.int w4] E I J S _
    exact w_ri am_e49 rfl rfl h
  · replace h := h.1 (Decidable.not_not.mp (of_decide_eq_false c))
    refine w_st (i' := 13) (ls' := [.ref 60, .ref 18, .int p2, .int ((I 67) p2.toNatClampNeg)]) (st' := [.int ((I 67) p2.toNatClampNeg)]) (E' := E) (I' := I) (J' := J) (S' := S) am_e49 rfl rfl rfl rfl ?_
    refine w_st (i' := 14) (ls' := [.ref 60, .ref 18, .int p2, .int ((I 67) p2.toNatClampNeg)]) (st' := [.ref 60, .int ((I 67) p2.toNatClampNeg)]) (E' := E) (I' := I) (J' := J) (S' := S) am_e49 rfl rfl rfl rfl ?_
    refine w_st (i' := 15) (ls' := [.ref 60, .ref 18, .int p2, .int ((I 67) p2.toNatClampNeg)]) (st' := [.int ((I 60) 5), .int ((I 67) p2.toNatClampNeg)]) (E' := E) (I' := I) (J' := J) (S' := S) am_e49 rfl rfl rfl rfl ?_
    refine w_if2 am_e49 rfl rfl (fun c => ?_) (fun c => ?_)
    · replace h := h.2 (of_decide_eq_true c)
      refine w_st (i' := 20) (ls' := [.ref 60, .ref 18, .int p2, .int ((I 67) p2.toNatClampNeg)]) (st' := [.ref 18]) (E' := E) (I' := I) (J' := J) (S' := S) am_e49 rfl rfl rfl rfl ?_
      refine w_st (i' := 21) (ls' := [.ref 60, .ref 18, .int p2, .int ((I 67) p2.toNatClampNeg)]) (st' := [.int p2, .ref 18]) (E' := E) (I' := I) (J' := J) (S' := S) am_e49 rfl rfl rfl rfl ?_
      refine w_st (i' := 22) (ls' := [.ref 60, .ref 18, .int p2, .int ((I 67) p2.toNatClampNeg)]) (st' := [.int ((I 67) p2.toNatClampNeg), .int p2, .ref 18]) (E' := E) (I' := I) (J' := J) (S' := S) am_e49 rfl rfl rfl rfl ?_
      refine w_cI am_e49 rfl rfl (as := [.ref 18, .int p2, .int ((I 67) p2.toNatClampNeg)]) (rest := []) rfl rfl ?_
      show am_ww 35 0 [.ref 18, .int p2, .int ((I 67) p2.toNatClampNeg)] [] E I J S _
      refine w_st (i' := 1) (ls' := [.ref 18, .int p2, .int ((I 67) p2.toNatClampNeg)]) (st' := [.int ((I 67) p2.toNatClampNeg)]) (E' := E) (I' := I) (J' := J) (S' := S) am_e35 rfl rfl rfl rfl ?_
      refine w_mg (i := 15) (ls' := [.ref 18, .int p2, .int ((I 67) p2.toNatClampNeg)]) (st' := [.int (if ((I 67) p2.toNatClampNeg) < 0 then nI 0 else (if (nI 30) ≤ ((I 67) p2.toNatClampNeg) then nI 0 else ((I 27) (((p2 * (nI 30)) + ((I 67) p2.toNatClampNeg)).toNatClampNeg))))]) (fun hm => ?_) ?_
      · replace h := h.1
        refine w_if1 am_e35 rfl rfl (fun c => ?_) (fun c => ?_)
        · have m5 : ((I 67) p2.toNatClampNeg) < 0 := (of_decide_eq_true c)
          replace h := h.1 m5
          refine w_st (i' := 15) (ls' := [.ref 18, .int p2, .int ((I 67) p2.toNatClampNeg)]) (st' := [.int (nI 0)]) (E' := E) (I' := I) (J' := J) (S' := S) am_e35 rfl rfl rfl rfl ?_
          first | exact hm | (simp only [if_pos m5] at hm; exact hm)
        · have m5 : ¬ (((I 67) p2.toNatClampNeg) < 0) := (of_decide_eq_false c)
          replace h := h.2 m5
          refine w_st (i' := 3) (ls' := [.ref 18, .int p2, .int ((I 67) p2.toNatClampNeg)]) (st' := [.int ((I 67) p2.toNatClampNeg)]) (E' := E) (I' := I) (J' := J) (S' := S) am_e35 rfl rfl rfl rfl ?_
          refine w_st (i' := 4) (ls' := [.ref 18, .int p2, .int ((I 67) p2.toNatClampNeg)]) (st' := [.int (nI 30), .int ((I 67) p2.toNatClampNeg)]) (E' := E) (I' := I) (J' := J) (S' := S) am_e35 rfl rfl rfl rfl ?_
          refine w_if2 am_e35 rfl rfl (fun c => ?_) (fun c => ?_)
          · have m6 : (nI 30) ≤ ((I 67) p2.toNatClampNeg) := (of_decide_eq_true c)
            replace h := h.1 m6
            refine w_st (i' := 15) (ls' := [.ref 18, .int p2, .int ((I 67) p2.toNatClampNeg)]) (st' := [.int (nI 0)]) (E' := E) (I' := I) (J' := J) (S' := S) am_e35 rfl rfl rfl rfl ?_
            first | exact hm | (simp only [if_neg m5, if_pos m6] at hm; exact hm)
          · have m6 : ¬ ((nI 30) ≤ ((I 67) p2.toNatClampNeg)) := (of_decide_eq_false c)
            replace h := h.2 m6
            refine w_st (i' := 6) (ls' := [.ref 18, .int p2, .int ((I 67) p2.toNatClampNeg)]) (st' := [.ref 18]) (E' := E) (I' := I) (J' := J) (S' := S) am_e35 rfl rfl rfl rfl ?_
            refine w_st (i' := 7) (ls' := [.ref 18, .int p2, .int ((I 67) p2.toNatClampNeg)]) (st' := [.ref 27]) (E' := E) (I' := I) (J' := J) (S' := S) am_e35 rfl rfl rfl rfl ?_
            refine w_st (i' := 8) (ls' := [.ref 18, .int p2, .int ((I 67) p2.toNatClampNeg)]) (st' := [.int p2, .ref 27]) (E' := E) (I' := I) (J' := J) (S' := S) am_e35 rfl rfl rfl rfl ?_
            refine w_st (i' := 9) (ls' := [.ref 18, .int p2, .int ((I 67) p2.toNatClampNeg)]) (st' := [.int (nI 30), .int p2, .ref 27]) (E' := E) (I' := I) (J' := J) (S' := S) am_e35 rfl rfl rfl rfl ?_
            refine w_st (i' := 10) (ls' := [.ref 18, .int p2, .int ((I 67) p2.toNatClampNeg)]) (st' := [.int (p2 * (nI 30)), .ref 27]) (E' := E) (I' := I) (J' := J) (S' := S) am_e35 rfl rfl rfl rfl ?_
            refine w_st (i' := 11) (ls' := [.ref 18, .int p2, .int ((I 67) p2.toNatClampNeg)]) (st' := [.int ((I 67) p2.toNatClampNeg), .int (p2 * (nI 30)), .ref 27]) (E' := E) (I' := I) (J' := J) (S' := S) am_e35 rfl rfl rfl rfl ?_
            refine w_st (i' := 12) (ls' := [.ref 18, .int p2, .int ((I 67) p2.toNatClampNeg)]) (st' := [.int ((p2 * (nI 30)) + ((I 67) p2.toNatClampNeg)), .ref 27]) (E' := E) (I' := I) (J' := J) (S' := S) am_e35 rfl rfl rfl rfl ?_
            refine w_ia (k := 27) (n := 90) (jn := ((p2 * (nI 30)) + ((I 67) p2.toNatClampNeg)).toNatClampNeg) am_e35 rfl rfl (by decide) h.1 rfl ?_
            replace h := h.2
            show am_ww 35 13 [.ref 18, .int p2, .int ((I 67) p2.toNatClampNeg)] [.int ((I 27) (((p2 * (nI 30)) + ((I 67) p2.toNatClampNeg)).toNatClampNeg))] E I J S _
            refine w_st (i' := 15) (ls' := [.ref 18, .int p2, .int ((I 67) p2.toNatClampNeg)]) (st' := [.int ((I 27) (((p2 * (nI 30)) + ((I 67) p2.toNatClampNeg)).toNatClampNeg))]) (E' := E) (I' := I) (J' := J) (S' := S) am_e35 rfl rfl rfl rfl ?_
            first | exact hm | (simp only [if_neg m5, if_neg m6] at hm; exact hm)
      replace h := h.2
      refine w_var (fun w7 => am_ww 35 15 [.ref 18, .int p2, .int ((I 67) p2.toNatClampNeg)] [.int w7] E I J S _) (if ((I 67) p2.toNatClampNeg) < 0 then nI 0 else (if (nI 30) ≤ ((I 67) p2.toNatClampNeg) then nI 0 else ((I 27) (((p2 * (nI 30)) + ((I 67) p2.toNatClampNeg)).toNatClampNeg)))) (fun w7 hw7 => ?_)
      replace h := h w7 hw7
      refine w_ri am_e35 rfl rfl (q_mkI ?_)
      show am_ww 49 23 [.ref 60, .ref 18, .int p2, .int ((I 67) p2.toNatClampNeg)] [.int w7] E I J S _
      exact w_ri am_e49 rfl rfl h
    · replace h := h.1 (Decidable.not_not.mp (of_decide_eq_false c))
      refine w_st (i' := 17) (ls' := [.ref 60, .ref 18, .int p2, .int ((I 67) p2.toNatClampNeg)]) (st' := [.ref 60]) (E' := E) (I' := I) (J' := J) (S' := S) am_e49 rfl rfl rfl rfl ?_
      refine w_st (i' := 18) (ls' := [.ref 60, .ref 18, .int p2, .int ((I 67) p2.toNatClampNeg)]) (st' := [.int ((I 60) 6)]) (E' := E) (I' := I) (J' := J) (S' := S) am_e49 rfl rfl rfl rfl ?_
      refine w_st (i' := 23) (ls' := [.ref 60, .ref 18, .int p2, .int ((I 67) p2.toNatClampNeg)]) (st' := [.int ((I 60) 6)]) (E' := E) (I' := I) (J' := J) (S' := S) am_e49 rfl rfl rfl rfl ?_
      exact w_ri am_e49 rfl rfl h
-- 49 inputFrom
theorem g49_0_68 {p2 : Int32} {E : am_Ev} {I : Nat → Nat → Int32} {J : Nat → Nat → Int64} {S : Nat → Nat → Option Nat} {Q : am_Qt}  (h : vp_in p2 3 ∧ ((((I 68) 4) = ((nI 2) + p2) → ((((I 75) p2.toNatClampNeg) = ((I 68) 5) → (Q (.inl (some (.int ((I 68) 6)))) E I J S)) ∧ (¬ ((I 75) p2.toNatClampNeg) = ((I 68) 5) → (((((I 75) p2.toNatClampNeg) < 0 → (True)) ∧ (¬ ((I 75) p2.toNatClampNeg) < 0 → (((nI 30) ≤ ((I 75) p2.toNatClampNeg) → (True)) ∧ (¬ (nI 30) ≤ ((I 75) p2.toNatClampNeg) → (vp_in ((p2 * (nI 30)) + ((I 75) p2.toNatClampNeg)) 90 ∧ True))))) ∧ (∀ w7 : Int32, w7 = (if ((I 75) p2.toNatClampNeg) < 0 then nI 0 else (if (nI 30) ≤ ((I 75) p2.toNatClampNeg) then nI 0 else ((I 27) (((p2 * (nI 30)) + ((I 75) p2.toNatClampNeg)).toNatClampNeg)))) → (Q (.inl (some (.int w7))) E I J S)))))) ∧ (¬ ((I 68) 4) = ((nI 2) + p2) → (((((I 75) p2.toNatClampNeg) < 0 → (True)) ∧ (¬ ((I 75) p2.toNatClampNeg) < 0 → (((nI 30) ≤ ((I 75) p2.toNatClampNeg) → (True)) ∧ (¬ (nI 30) ≤ ((I 75) p2.toNatClampNeg) → (vp_in ((p2 * (nI 30)) + ((I 75) p2.toNatClampNeg)) 90 ∧ True))))) ∧ (∀ w4 : Int32, w4 = (if ((I 75) p2.toNatClampNeg) < 0 then nI 0 else (if (nI 30) ≤ ((I 75) p2.toNatClampNeg) then nI 0 else ((I 27) (((p2 * (nI 30)) + ((I 75) p2.toNatClampNeg)).toNatClampNeg)))) → (Q (.inl (some (.int w4))) E I J S)))))) : am_ww 49 0 [.ref 68, .ref 18, .int p2, am_U] [] E I J S Q := by
  refine w_st (i' := 1) (ls' := [.ref 68, .ref 18, .int p2, am_U]) (st' := [.ref 68]) (E' := E) (I' := I) (J' := J) (S' := S) am_e49 rfl rfl rfl rfl ?_
  refine w_st (i' := 2) (ls' := [.ref 68, .ref 18, .int p2, am_U]) (st' := [.ref 69]) (E' := E) (I' := I) (J' := J) (S' := S) am_e49 rfl rfl rfl rfl ?_
  refine w_st (i' := 3) (ls' := [.ref 68, .ref 18, .int p2, am_U]) (st' := [.ref 75]) (E' := E) (I' := I) (J' := J) (S' := S) am_e49 rfl rfl rfl rfl ?_
  refine w_st (i' := 4) (ls' := [.ref 68, .ref 18, .int p2, am_U]) (st' := [.int p2, .ref 75]) (E' := E) (I' := I) (J' := J) (S' := S) am_e49 rfl rfl rfl rfl ?_
  have hf1 := h.1
  replace h := h.2
  refine w_ia (k := 75) (n := 3) (jn := p2.toNatClampNeg) am_e49 rfl rfl (by decide) hf1 rfl ?_
  refine w_st (i' := 6) (ls' := [.ref 68, .ref 18, .int p2, .int ((I 75) p2.toNatClampNeg)]) (st' := []) (E' := E) (I' := I) (J' := J) (S' := S) am_e49 rfl rfl rfl rfl ?_
  refine w_st (i' := 7) (ls' := [.ref 68, .ref 18, .int p2, .int ((I 75) p2.toNatClampNeg)]) (st' := [.ref 68]) (E' := E) (I' := I) (J' := J) (S' := S) am_e49 rfl rfl rfl rfl ?_
  refine w_st (i' := 8) (ls' := [.ref 68, .ref 18, .int p2, .int ((I 75) p2.toNatClampNeg)]) (st' := [.int ((I 68) 4)]) (E' := E) (I' := I) (J' := J) (S' := S) am_e49 rfl rfl rfl rfl ?_
  refine w_st (i' := 9) (ls' := [.ref 68, .ref 18, .int p2, .int ((I 75) p2.toNatClampNeg)]) (st' := [.int (nI 2), .int ((I 68) 4)]) (E' := E) (I' := I) (J' := J) (S' := S) am_e49 rfl rfl rfl rfl ?_
  refine w_st (i' := 10) (ls' := [.ref 68, .ref 18, .int p2, .int ((I 75) p2.toNatClampNeg)]) (st' := [.int p2, .int (nI 2), .int ((I 68) 4)]) (E' := E) (I' := I) (J' := J) (S' := S) am_e49 rfl rfl rfl rfl ?_
  refine w_st (i' := 11) (ls' := [.ref 68, .ref 18, .int p2, .int ((I 75) p2.toNatClampNeg)]) (st' := [.int ((nI 2) + p2), .int ((I 68) 4)]) (E' := E) (I' := I) (J' := J) (S' := S) am_e49 rfl rfl rfl rfl ?_
  refine w_if2 am_e49 rfl rfl (fun c => ?_) (fun c => ?_)
  · replace h := h.2 (of_decide_eq_true c)
    refine w_st (i' := 20) (ls' := [.ref 68, .ref 18, .int p2, .int ((I 75) p2.toNatClampNeg)]) (st' := [.ref 18]) (E' := E) (I' := I) (J' := J) (S' := S) am_e49 rfl rfl rfl rfl ?_
    refine w_st (i' := 21) (ls' := [.ref 68, .ref 18, .int p2, .int ((I 75) p2.toNatClampNeg)]) (st' := [.int p2, .ref 18]) (E' := E) (I' := I) (J' := J) (S' := S) am_e49 rfl rfl rfl rfl ?_
    refine w_st (i' := 22) (ls' := [.ref 68, .ref 18, .int p2, .int ((I 75) p2.toNatClampNeg)]) (st' := [.int ((I 75) p2.toNatClampNeg), .int p2, .ref 18]) (E' := E) (I' := I) (J' := J) (S' := S) am_e49 rfl rfl rfl rfl ?_
    refine w_cI am_e49 rfl rfl (as := [.ref 18, .int p2, .int ((I 75) p2.toNatClampNeg)]) (rest := []) rfl rfl ?_
    show am_ww 35 0 [.ref 18, .int p2, .int ((I 75) p2.toNatClampNeg)] [] E I J S _
    refine w_st (i' := 1) (ls' := [.ref 18, .int p2, .int ((I 75) p2.toNatClampNeg)]) (st' := [.int ((I 75) p2.toNatClampNeg)]) (E' := E) (I' := I) (J' := J) (S' := S) am_e35 rfl rfl rfl rfl ?_
    refine w_mg (i := 15) (ls' := [.ref 18, .int p2, .int ((I 75) p2.toNatClampNeg)]) (st' := [.int (if ((I 75) p2.toNatClampNeg) < 0 then nI 0 else (if (nI 30) ≤ ((I 75) p2.toNatClampNeg) then nI 0 else ((I 27) (((p2 * (nI 30)) + ((I 75) p2.toNatClampNeg)).toNatClampNeg))))]) (fun hm => ?_) ?_
    · replace h := h.1
      refine w_if1 am_e35 rfl rfl (fun c => ?_) (fun c => ?_)
      · have m2 : ((I 75) p2.toNatClampNeg) < 0 := (of_decide_eq_true c)
        replace h := h.1 m2
        refine w_st (i' := 15) (ls' := [.ref 18, .int p2, .int ((I 75) p2.toNatClampNeg)]) (st' := [.int (nI 0)]) (E' := E) (I' := I) (J' := J) (S' := S) am_e35 rfl rfl rfl rfl ?_
        first | exact hm | (simp only [if_pos m2] at hm; exact hm)
      · have m2 : ¬ (((I 75) p2.toNatClampNeg) < 0) := (of_decide_eq_false c)
        replace h := h.2 m2
        refine w_st (i' := 3) (ls' := [.ref 18, .int p2, .int ((I 75) p2.toNatClampNeg)]) (st' := [.int ((I 75) p2.toNatClampNeg)]) (E' := E) (I' := I) (J' := J) (S' := S) am_e35 rfl rfl rfl rfl ?_
        refine w_st (i' := 4) (ls' := [.ref 18, .int p2, .int ((I 75) p2.toNatClampNeg)]) (st' := [.int (nI 30), .int ((I 75) p2.toNatClampNeg)]) (E' := E) (I' := I) (J' := J) (S' := S) am_e35 rfl rfl rfl rfl ?_
        refine w_if2 am_e35 rfl rfl (fun c => ?_) (fun c => ?_)
        · have m3 : (nI 30) ≤ ((I 75) p2.toNatClampNeg) := (of_decide_eq_true c)
          replace h := h.1 m3
          refine w_st (i' := 15) (ls' := [.ref 18, .int p2, .int ((I 75) p2.toNatClampNeg)]) (st' := [.int (nI 0)]) (E' := E) (I' := I) (J' := J) (S' := S) am_e35 rfl rfl rfl rfl ?_
          first | exact hm | (simp only [if_neg m2, if_pos m3] at hm; exact hm)
        · have m3 : ¬ ((nI 30) ≤ ((I 75) p2.toNatClampNeg)) := (of_decide_eq_false c)
          replace h := h.2 m3
          refine w_st (i' := 6) (ls' := [.ref 18, .int p2, .int ((I 75) p2.toNatClampNeg)]) (st' := [.ref 18]) (E' := E) (I' := I) (J' := J) (S' := S) am_e35 rfl rfl rfl rfl ?_
          refine w_st (i' := 7) (ls' := [.ref 18, .int p2, .int ((I 75) p2.toNatClampNeg)]) (st' := [.ref 27]) (E' := E) (I' := I) (J' := J) (S' := S) am_e35 rfl rfl rfl rfl ?_
          refine w_st (i' := 8) (ls' := [.ref 18, .int p2, .int ((I 75) p2.toNatClampNeg)]) (st' := [.int p2, .ref 27]) (E' := E) (I' := I) (J' := J) (S' := S) am_e35 rfl rfl rfl rfl ?_
          refine w_st (i' := 9) (ls' := [.ref 18, .int p2, .int ((I 75) p2.toNatClampNeg)]) (st' := [.int (nI 30), .int p2, .ref 27]) (E' := E) (I' := I) (J' := J) (S' := S) am_e35 rfl rfl rfl rfl ?_
          refine w_st (i' := 10) (ls' := [.ref 18, .int p2, .int ((I 75) p2.toNatClampNeg)]) (st' := [.int (p2 * (nI 30)), .ref 27]) (E' := E) (I' := I) (J' := J) (S' := S) am_e35 rfl rfl rfl rfl ?_
          refine w_st (i' := 11) (ls' := [.ref 18, .int p2, .int ((I 75) p2.toNatClampNeg)]) (st' := [.int ((I 75) p2.toNatClampNeg), .int (p2 * (nI 30)), .ref 27]) (E' := E) (I' := I) (J' := J) (S' := S) am_e35 rfl rfl rfl rfl ?_
          refine w_st (i' := 12) (ls' := [.ref 18, .int p2, .int ((I 75) p2.toNatClampNeg)]) (st' := [.int ((p2 * (nI 30)) + ((I 75) p2.toNatClampNeg)), .ref 27]) (E' := E) (I' := I) (J' := J) (S' := S) am_e35 rfl rfl rfl rfl ?_
          refine w_ia (k := 27) (n := 90) (jn := ((p2 * (nI 30)) + ((I 75) p2.toNatClampNeg)).toNatClampNeg) am_e35 rfl rfl (by decide) h.1 rfl ?_
          replace h := h.2
          show am_ww 35 13 [.ref 18, .int p2, .int ((I 75) p2.toNatClampNeg)] [.int ((I 27) (((p2 * (nI 30)) + ((I 75) p2.toNatClampNeg)).toNatClampNeg))] E I J S _
          refine w_st (i' := 15) (ls' := [.ref 18, .int p2, .int ((I 75) p2.toNatClampNeg)]) (st' := [.int ((I 27) (((p2 * (nI 30)) + ((I 75) p2.toNatClampNeg)).toNatClampNeg))]) (E' := E) (I' := I) (J' := J) (S' := S) am_e35 rfl rfl rfl rfl ?_
          first | exact hm | (simp only [if_neg m2, if_neg m3] at hm; exact hm)
    replace h := h.2
    refine w_var (fun w4 => am_ww 35 15 [.ref 18, .int p2, .int ((I 75) p2.toNatClampNeg)] [.int w4] E I J S _) (if ((I 75) p2.toNatClampNeg) < 0 then nI 0 else (if (nI 30) ≤ ((I 75) p2.toNatClampNeg) then nI 0 else ((I 27) (((p2 * (nI 30)) + ((I 75) p2.toNatClampNeg)).toNatClampNeg)))) (fun w4 hw4 => ?_)
    replace h := h w4 hw4
    refine w_ri am_e35 rfl rfl (q_mkI ?_)
    show am_ww 49 23 [.ref 68, .ref 18, .int p2, .int ((I 75) p2.toNatClampNeg)] [.int w4] E I J S _
    exact w_ri am_e49 rfl rfl h
  · replace h := h.1 (Decidable.not_not.mp (of_decide_eq_false c))
    refine w_st (i' := 13) (ls' := [.ref 68, .ref 18, .int p2, .int ((I 75) p2.toNatClampNeg)]) (st' := [.int ((I 75) p2.toNatClampNeg)]) (E' := E) (I' := I) (J' := J) (S' := S) am_e49 rfl rfl rfl rfl ?_
    refine w_st (i' := 14) (ls' := [.ref 68, .ref 18, .int p2, .int ((I 75) p2.toNatClampNeg)]) (st' := [.ref 68, .int ((I 75) p2.toNatClampNeg)]) (E' := E) (I' := I) (J' := J) (S' := S) am_e49 rfl rfl rfl rfl ?_
    refine w_st (i' := 15) (ls' := [.ref 68, .ref 18, .int p2, .int ((I 75) p2.toNatClampNeg)]) (st' := [.int ((I 68) 5), .int ((I 75) p2.toNatClampNeg)]) (E' := E) (I' := I) (J' := J) (S' := S) am_e49 rfl rfl rfl rfl ?_
    refine w_if2 am_e49 rfl rfl (fun c => ?_) (fun c => ?_)
    · replace h := h.2 (of_decide_eq_true c)
      refine w_st (i' := 20) (ls' := [.ref 68, .ref 18, .int p2, .int ((I 75) p2.toNatClampNeg)]) (st' := [.ref 18]) (E' := E) (I' := I) (J' := J) (S' := S) am_e49 rfl rfl rfl rfl ?_
      refine w_st (i' := 21) (ls' := [.ref 68, .ref 18, .int p2, .int ((I 75) p2.toNatClampNeg)]) (st' := [.int p2, .ref 18]) (E' := E) (I' := I) (J' := J) (S' := S) am_e49 rfl rfl rfl rfl ?_
      refine w_st (i' := 22) (ls' := [.ref 68, .ref 18, .int p2, .int ((I 75) p2.toNatClampNeg)]) (st' := [.int ((I 75) p2.toNatClampNeg), .int p2, .ref 18]) (E' := E) (I' := I) (J' := J) (S' := S) am_e49 rfl rfl rfl rfl ?_
      refine w_cI am_e49 rfl rfl (as := [.ref 18, .int p2, .int ((I 75) p2.toNatClampNeg)]) (rest := []) rfl rfl ?_
      show am_ww 35 0 [.ref 18, .int p2, .int ((I 75) p2.toNatClampNeg)] [] E I J S _
      refine w_st (i' := 1) (ls' := [.ref 18, .int p2, .int ((I 75) p2.toNatClampNeg)]) (st' := [.int ((I 75) p2.toNatClampNeg)]) (E' := E) (I' := I) (J' := J) (S' := S) am_e35 rfl rfl rfl rfl ?_
      refine w_mg (i := 15) (ls' := [.ref 18, .int p2, .int ((I 75) p2.toNatClampNeg)]) (st' := [.int (if ((I 75) p2.toNatClampNeg) < 0 then nI 0 else (if (nI 30) ≤ ((I 75) p2.toNatClampNeg) then nI 0 else ((I 27) (((p2 * (nI 30)) + ((I 75) p2.toNatClampNeg)).toNatClampNeg))))]) (fun hm => ?_) ?_
      · replace h := h.1
        refine w_if1 am_e35 rfl rfl (fun c => ?_) (fun c => ?_)
        · have m5 : ((I 75) p2.toNatClampNeg) < 0 := (of_decide_eq_true c)
          replace h := h.1 m5
          refine w_st (i' := 15) (ls' := [.ref 18, .int p2, .int ((I 75) p2.toNatClampNeg)]) (st' := [.int (nI 0)]) (E' := E) (I' := I) (J' := J) (S' := S) am_e35 rfl rfl rfl rfl ?_
          first | exact hm | (simp only [if_pos m5] at hm; exact hm)
        · have m5 : ¬ (((I 75) p2.toNatClampNeg) < 0) := (of_decide_eq_false c)
          replace h := h.2 m5
          refine w_st (i' := 3) (ls' := [.ref 18, .int p2, .int ((I 75) p2.toNatClampNeg)]) (st' := [.int ((I 75) p2.toNatClampNeg)]) (E' := E) (I' := I) (J' := J) (S' := S) am_e35 rfl rfl rfl rfl ?_
          refine w_st (i' := 4) (ls' := [.ref 18, .int p2, .int ((I 75) p2.toNatClampNeg)]) (st' := [.int (nI 30), .int ((I 75) p2.toNatClampNeg)]) (E' := E) (I' := I) (J' := J) (S' := S) am_e35 rfl rfl rfl rfl ?_
          refine w_if2 am_e35 rfl rfl (fun c => ?_) (fun c => ?_)
          · have m6 : (nI 30) ≤ ((I 75) p2.toNatClampNeg) := (of_decide_eq_true c)
            replace h := h.1 m6
            refine w_st (i' := 15) (ls' := [.ref 18, .int p2, .int ((I 75) p2.toNatClampNeg)]) (st' := [.int (nI 0)]) (E' := E) (I' := I) (J' := J) (S' := S) am_e35 rfl rfl rfl rfl ?_
            first | exact hm | (simp only [if_neg m5, if_pos m6] at hm; exact hm)
          · have m6 : ¬ ((nI 30) ≤ ((I 75) p2.toNatClampNeg)) := (of_decide_eq_false c)
            replace h := h.2 m6
            refine w_st (i' := 6) (ls' := [.ref 18, .int p2, .int ((I 75) p2.toNatClampNeg)]) (st' := [.ref 18]) (E' := E) (I' := I) (J' := J) (S' := S) am_e35 rfl rfl rfl rfl ?_
            refine w_st (i' := 7) (ls' := [.ref 18, .int p2, .int ((I 75) p2.toNatClampNeg)]) (st' := [.ref 27]) (E' := E) (I' := I) (J' := J) (S' := S) am_e35 rfl rfl rfl rfl ?_
            refine w_st (i' := 8) (ls' := [.ref 18, .int p2, .int ((I 75) p2.toNatClampNeg)]) (st' := [.int p2, .ref 27]) (E' := E) (I' := I) (J' := J) (S' := S) am_e35 rfl rfl rfl rfl ?_
            refine w_st (i' := 9) (ls' := [.ref 18, .int p2, .int ((I 75) p2.toNatClampNeg)]) (st' := [.int (nI 30), .int p2, .ref 27]) (E' := E) (I' := I) (J' := J) (S' := S) am_e35 rfl rfl rfl rfl ?_
            refine w_st (i' := 10) (ls' := [.ref 18, .int p2, .int ((I 75) p2.toNatClampNeg)]) (st' := [.int (p2 * (nI 30)), .ref 27]) (E' := E) (I' := I) (J' := J) (S' := S) am_e35 rfl rfl rfl rfl ?_
            refine w_st (i' := 11) (ls' := [.ref 18, .int p2, .int ((I 75) p2.toNatClampNeg)]) (st' := [.int ((I 75) p2.toNatClampNeg), .int (p2 * (nI 30)), .ref 27]) (E' := E) (I' := I) (J' := J) (S' := S) am_e35 rfl rfl rfl rfl ?_
            refine w_st (i' := 12) (ls' := [.ref 18, .int p2, .int ((I 75) p2.toNatClampNeg)]) (st' := [.int ((p2 * (nI 30)) + ((I 75) p2.toNatClampNeg)), .ref 27]) (E' := E) (I' := I) (J' := J) (S' := S) am_e35 rfl rfl rfl rfl ?_
            refine w_ia (k := 27) (n := 90) (jn := ((p2 * (nI 30)) + ((I 75) p2.toNatClampNeg)).toNatClampNeg) am_e35 rfl rfl (by decide) h.1 rfl ?_
            replace h := h.2
            show am_ww 35 13 [.ref 18, .int p2, .int ((I 75) p2.toNatClampNeg)] [.int ((I 27) (((p2 * (nI 30)) + ((I 75) p2.toNatClampNeg)).toNatClampNeg))] E I J S _
            refine w_st (i' := 15) (ls' := [.ref 18, .int p2, .int ((I 75) p2.toNatClampNeg)]) (st' := [.int ((I 27) (((p2 * (nI 30)) + ((I 75) p2.toNatClampNeg)).toNatClampNeg))]) (E' := E) (I' := I) (J' := J) (S' := S) am_e35 rfl rfl rfl rfl ?_
            first | exact hm | (simp only [if_neg m5, if_neg m6] at hm; exact hm)
      replace h := h.2
      refine w_var (fun w7 => am_ww 35 15 [.ref 18, .int p2, .int ((I 75) p2.toNatClampNeg)] [.int w7] E I J S _) (if ((I 75) p2.toNatClampNeg) < 0 then nI 0 else (if (nI 30) ≤ ((I 75) p2.toNatClampNeg) then nI 0 else ((I 27) (((p2 * (nI 30)) + ((I 75) p2.toNatClampNeg)).toNatClampNeg)))) (fun w7 hw7 => ?_)
      replace h := h w7 hw7
      refine w_ri am_e35 rfl rfl (q_mkI ?_)
      show am_ww 49 23 [.ref 68, .ref 18, .int p2, .int ((I 75) p2.toNatClampNeg)] [.int w7] E I J S _
      exact w_ri am_e49 rfl rfl h
    · replace h := h.1 (Decidable.not_not.mp (of_decide_eq_false c))
      refine w_st (i' := 17) (ls' := [.ref 68, .ref 18, .int p2, .int ((I 75) p2.toNatClampNeg)]) (st' := [.ref 68]) (E' := E) (I' := I) (J' := J) (S' := S) am_e49 rfl rfl rfl rfl ?_
      refine w_st (i' := 18) (ls' := [.ref 68, .ref 18, .int p2, .int ((I 75) p2.toNatClampNeg)]) (st' := [.int ((I 68) 6)]) (E' := E) (I' := I) (J' := J) (S' := S) am_e49 rfl rfl rfl rfl ?_
      refine w_st (i' := 23) (ls' := [.ref 68, .ref 18, .int p2, .int ((I 75) p2.toNatClampNeg)]) (st' := [.int ((I 68) 6)]) (E' := E) (I' := I) (J' := J) (S' := S) am_e49 rfl rfl rfl rfl ?_
      exact w_ri am_e49 rfl rfl h
-- 47 advance
theorem g47_0_60  {E : am_Ev} {I : Nat → Nat → Int32} {J : Nat → Nat → Int64} {S : Nat → Nat → Option Nat} {Q : am_Qt}  (h : (((I 60) 3) = 0 → (am_cl 48 [.ref 60, .ref 18] E I J S (q_V fun E1 I1 J1 S1 => am_cl 23 [.ref 61, .ref 12, .int ((I1 61) 6), .ref 26] E1 I1 J1 S1 (q_I fun v2 E2 I2 J2 S2 => (v2 = 0 → (Q (.inl (some (.int (nI 0)))) E2 (u_I I2 60 (upd (I2 60) 3 (nI 1))) J2 S2)) ∧ (¬ v2 = 0 → (am_cl 34 [.ref 61, .ref 12] E2 I2 J2 S2 (q_I fun v3 E3 I3 J3 S3 => (v3 = (-1) → (am_cl 36 [.ref 61, .ref 12, .int (nI 0)] E3 I3 J3 S3 (q_V fun E6 I6 J6 S6 => Q (.inl (some (.int (nI 1)))) E6 (u_I I6 60 (upd (I6 60) 1 (((I6 60) 1) + (nI 1)))) J6 S6))) ∧ (¬ v3 = (-1) → (am_cl 49 [.ref 60, .ref 18, .int v3] E3 I3 J3 S3 (q_I fun v4 E4 I4 J4 S4 => am_cl 36 [.ref 61, .ref 12, .int v4] E4 I4 J4 S4 (q_V fun E5 I5 J5 S5 => Q (.inl (some (.int (nI 1)))) E5 (u_I I5 60 (upd (I5 60) 1 (((I5 60) 1) + (nI 1)))) J5 S5))))))))))) ∧ (¬ ((I 60) 3) = 0 → (Q (.inl (some (.int (nI 0)))) E I J S))) : am_ww 47 0 [.ref 60, .ref 12, .ref 18, am_U] [] E I J S Q := by
  refine w_st (i' := 1) (ls' := [.ref 60, .ref 12, .ref 18, am_U]) (st' := [.ref 60]) (E' := E) (I' := I) (J' := J) (S' := S) am_e47 rfl rfl rfl rfl ?_
  refine w_st (i' := 2) (ls' := [.ref 60, .ref 12, .ref 18, am_U]) (st' := [.int ((I 60) 3)]) (E' := E) (I' := I) (J' := J) (S' := S) am_e47 rfl rfl rfl rfl ?_
  refine w_if1 am_e47 rfl rfl (fun c => ?_) (fun c => ?_)
  · replace h := h.1 (of_decide_eq_true c)
    refine w_st (i' := 6) (ls' := [.ref 60, .ref 12, .ref 18, am_U]) (st' := [.ref 60]) (E' := E) (I' := I) (J' := J) (S' := S) am_e47 rfl rfl rfl rfl ?_
    refine w_st (i' := 7) (ls' := [.ref 60, .ref 12, .ref 18, am_U]) (st' := [.ref 18, .ref 60]) (E' := E) (I' := I) (J' := J) (S' := S) am_e47 rfl rfl rfl rfl ?_
    refine w_cV am_e47 rfl rfl (as := [.ref 60, .ref 18]) (rest := []) rfl rfl (am_ww.mono h ?_)
    rintro _ E1 I1 J1 S1 ⟨rfl, h⟩
    refine q_mkV ?_
    refine w_st (i' := 9) (ls' := [.ref 60, .ref 12, .ref 18, am_U]) (st' := [.ref 60]) (E' := E1) (I' := I1) (J' := J1) (S' := S1) am_e47 rfl rfl rfl rfl ?_
    refine w_st (i' := 10) (ls' := [.ref 60, .ref 12, .ref 18, am_U]) (st' := [.ref 61]) (E' := E1) (I' := I1) (J' := J1) (S' := S1) am_e47 rfl rfl rfl rfl ?_
    refine w_st (i' := 11) (ls' := [.ref 60, .ref 12, .ref 18, am_U]) (st' := [.ref 12, .ref 61]) (E' := E1) (I' := I1) (J' := J1) (S' := S1) am_e47 rfl rfl rfl rfl ?_
    refine w_st (i' := 12) (ls' := [.ref 60, .ref 12, .ref 18, am_U]) (st' := [.ref 60, .ref 12, .ref 61]) (E' := E1) (I' := I1) (J' := J1) (S' := S1) am_e47 rfl rfl rfl rfl ?_
    refine w_st (i' := 13) (ls' := [.ref 60, .ref 12, .ref 18, am_U]) (st' := [.ref 61, .ref 12, .ref 61]) (E' := E1) (I' := I1) (J' := J1) (S' := S1) am_e47 rfl rfl rfl rfl ?_
    refine w_st (i' := 14) (ls' := [.ref 60, .ref 12, .ref 18, am_U]) (st' := [.int ((I1 61) 6), .ref 12, .ref 61]) (E' := E1) (I' := I1) (J' := J1) (S' := S1) am_e47 rfl rfl rfl rfl ?_
    refine w_st (i' := 15) (ls' := [.ref 60, .ref 12, .ref 18, am_U]) (st' := [.ref 18, .int ((I1 61) 6), .ref 12, .ref 61]) (E' := E1) (I' := I1) (J' := J1) (S' := S1) am_e47 rfl rfl rfl rfl ?_
    refine w_st (i' := 16) (ls' := [.ref 60, .ref 12, .ref 18, am_U]) (st' := [.ref 19, .int ((I1 61) 6), .ref 12, .ref 61]) (E' := E1) (I' := I1) (J' := J1) (S' := S1) am_e47 rfl rfl rfl rfl ?_
    refine w_st (i' := 17) (ls' := [.ref 60, .ref 12, .ref 18, am_U]) (st' := [.ref 20, .int ((I1 61) 6), .ref 12, .ref 61]) (E' := E1) (I' := I1) (J' := J1) (S' := S1) am_e47 rfl rfl rfl rfl ?_
    refine w_st (i' := 18) (ls' := [.ref 60, .ref 12, .ref 18, am_U]) (st' := [.ref 26, .int ((I1 61) 6), .ref 12, .ref 61]) (E' := E1) (I' := I1) (J' := J1) (S' := S1) am_e47 rfl rfl rfl rfl ?_
    refine w_cI am_e47 rfl rfl (as := [.ref 61, .ref 12, .int ((I1 61) 6), .ref 26]) (rest := []) rfl rfl (am_ww.mono h ?_)
    rintro _ E2 I2 J2 S2 ⟨v2, rfl, h⟩
    refine q_mkI ?_
    refine w_if1 am_e47 rfl rfl (fun c => ?_) (fun c => ?_)
    · replace h := h.2 (of_decide_eq_true c)
      refine w_st (i' := 26) (ls' := [.ref 60, .ref 12, .ref 18, am_U]) (st' := [.ref 60]) (E' := E2) (I' := I2) (J' := J2) (S' := S2) am_e47 rfl rfl rfl rfl ?_
      refine w_st (i' := 27) (ls' := [.ref 60, .ref 12, .ref 18, am_U]) (st' := [.ref 61]) (E' := E2) (I' := I2) (J' := J2) (S' := S2) am_e47 rfl rfl rfl rfl ?_
      refine w_st (i' := 28) (ls' := [.ref 60, .ref 12, .ref 18, am_U]) (st' := [.ref 12, .ref 61]) (E' := E2) (I' := I2) (J' := J2) (S' := S2) am_e47 rfl rfl rfl rfl ?_
      refine w_cI am_e47 rfl rfl (as := [.ref 61, .ref 12]) (rest := []) rfl rfl (am_ww.mono h ?_)
      rintro _ E3 I3 J3 S3 ⟨v3, rfl, h⟩
      refine q_mkI ?_
      refine w_st (i' := 30) (ls' := [.ref 60, .ref 12, .ref 18, .int v3]) (st' := []) (E' := E3) (I' := I3) (J' := J3) (S' := S3) am_e47 rfl rfl rfl rfl ?_
      refine w_st (i' := 31) (ls' := [.ref 60, .ref 12, .ref 18, .int v3]) (st' := [.ref 60]) (E' := E3) (I' := I3) (J' := J3) (S' := S3) am_e47 rfl rfl rfl rfl ?_
      refine w_st (i' := 32) (ls' := [.ref 60, .ref 12, .ref 18, .int v3]) (st' := [.ref 61]) (E' := E3) (I' := I3) (J' := J3) (S' := S3) am_e47 rfl rfl rfl rfl ?_
      refine w_st (i' := 33) (ls' := [.ref 60, .ref 12, .ref 18, .int v3]) (st' := [.ref 12, .ref 61]) (E' := E3) (I' := I3) (J' := J3) (S' := S3) am_e47 rfl rfl rfl rfl ?_
      refine w_st (i' := 34) (ls' := [.ref 60, .ref 12, .ref 18, .int v3]) (st' := [.int v3, .ref 12, .ref 61]) (E' := E3) (I' := I3) (J' := J3) (S' := S3) am_e47 rfl rfl rfl rfl ?_
      refine w_st (i' := 35) (ls' := [.ref 60, .ref 12, .ref 18, .int v3]) (st' := [.int (-1), .int v3, .ref 12, .ref 61]) (E' := E3) (I' := I3) (J' := J3) (S' := S3) am_e47 rfl rfl rfl rfl ?_
      refine w_if2 am_e47 rfl rfl (fun c => ?_) (fun c => ?_)
      · replace h := h.2 (of_decide_eq_true c)
        refine w_st (i' := 39) (ls' := [.ref 60, .ref 12, .ref 18, .int v3]) (st' := [.ref 60, .ref 12, .ref 61]) (E' := E3) (I' := I3) (J' := J3) (S' := S3) am_e47 rfl rfl rfl rfl ?_
        refine w_st (i' := 40) (ls' := [.ref 60, .ref 12, .ref 18, .int v3]) (st' := [.ref 18, .ref 60, .ref 12, .ref 61]) (E' := E3) (I' := I3) (J' := J3) (S' := S3) am_e47 rfl rfl rfl rfl ?_
        refine w_st (i' := 41) (ls' := [.ref 60, .ref 12, .ref 18, .int v3]) (st' := [.int v3, .ref 18, .ref 60, .ref 12, .ref 61]) (E' := E3) (I' := I3) (J' := J3) (S' := S3) am_e47 rfl rfl rfl rfl ?_
        refine w_cI am_e47 rfl rfl (as := [.ref 60, .ref 18, .int v3]) (rest := [.ref 12, .ref 61]) rfl rfl (am_ww.mono h ?_)
        rintro _ E4 I4 J4 S4 ⟨v4, rfl, h⟩
        refine q_mkI ?_
        refine w_cV am_e47 rfl rfl (as := [.ref 61, .ref 12, .int v4]) (rest := []) rfl rfl (am_ww.mono h ?_)
        rintro _ E5 I5 J5 S5 ⟨rfl, h⟩
        refine q_mkV ?_
        refine w_st (i' := 44) (ls' := [.ref 60, .ref 12, .ref 18, .int v3]) (st' := [.ref 60]) (E' := E5) (I' := I5) (J' := J5) (S' := S5) am_e47 rfl rfl rfl rfl ?_
        refine w_st (i' := 45) (ls' := [.ref 60, .ref 12, .ref 18, .int v3]) (st' := [.ref 60, .ref 60]) (E' := E5) (I' := I5) (J' := J5) (S' := S5) am_e47 rfl rfl rfl rfl ?_
        refine w_st (i' := 46) (ls' := [.ref 60, .ref 12, .ref 18, .int v3]) (st' := [.int ((I5 60) 1), .ref 60]) (E' := E5) (I' := I5) (J' := J5) (S' := S5) am_e47 rfl rfl rfl rfl ?_
        refine w_st (i' := 47) (ls' := [.ref 60, .ref 12, .ref 18, .int v3]) (st' := [.int (nI 1), .int ((I5 60) 1), .ref 60]) (E' := E5) (I' := I5) (J' := J5) (S' := S5) am_e47 rfl rfl rfl rfl ?_
        refine w_st (i' := 48) (ls' := [.ref 60, .ref 12, .ref 18, .int v3]) (st' := [.int (((I5 60) 1) + (nI 1)), .ref 60]) (E' := E5) (I' := I5) (J' := J5) (S' := S5) am_e47 rfl rfl rfl rfl ?_
        refine w_st (i' := 49) (ls' := [.ref 60, .ref 12, .ref 18, .int v3]) (st' := []) (E' := E5) (I' := (u_I I5 60 (upd (I5 60) 1 (((I5 60) 1) + (nI 1))))) (J' := J5) (S' := S5) am_e47 rfl rfl rfl rfl ?_
        refine w_st (i' := 50) (ls' := [.ref 60, .ref 12, .ref 18, .int v3]) (st' := [.int (nI 1)]) (E' := E5) (I' := (u_I I5 60 (upd (I5 60) 1 (((I5 60) 1) + (nI 1))))) (J' := J5) (S' := S5) am_e47 rfl rfl rfl rfl ?_
        exact w_end am_e47 rfl rfl rfl h
      · replace h := h.1 (Decidable.not_not.mp (of_decide_eq_false c))
        refine w_st (i' := 37) (ls' := [.ref 60, .ref 12, .ref 18, .int v3]) (st' := [.int (nI 0), .ref 12, .ref 61]) (E' := E3) (I' := I3) (J' := J3) (S' := S3) am_e47 rfl rfl rfl rfl ?_
        refine w_st (i' := 42) (ls' := [.ref 60, .ref 12, .ref 18, .int v3]) (st' := [.int (nI 0), .ref 12, .ref 61]) (E' := E3) (I' := I3) (J' := J3) (S' := S3) am_e47 rfl rfl rfl rfl ?_
        refine w_cV am_e47 rfl rfl (as := [.ref 61, .ref 12, .int (nI 0)]) (rest := []) rfl rfl (am_ww.mono h ?_)
        rintro _ E6 I6 J6 S6 ⟨rfl, h⟩
        refine q_mkV ?_
        refine w_st (i' := 44) (ls' := [.ref 60, .ref 12, .ref 18, .int v3]) (st' := [.ref 60]) (E' := E6) (I' := I6) (J' := J6) (S' := S6) am_e47 rfl rfl rfl rfl ?_
        refine w_st (i' := 45) (ls' := [.ref 60, .ref 12, .ref 18, .int v3]) (st' := [.ref 60, .ref 60]) (E' := E6) (I' := I6) (J' := J6) (S' := S6) am_e47 rfl rfl rfl rfl ?_
        refine w_st (i' := 46) (ls' := [.ref 60, .ref 12, .ref 18, .int v3]) (st' := [.int ((I6 60) 1), .ref 60]) (E' := E6) (I' := I6) (J' := J6) (S' := S6) am_e47 rfl rfl rfl rfl ?_
        refine w_st (i' := 47) (ls' := [.ref 60, .ref 12, .ref 18, .int v3]) (st' := [.int (nI 1), .int ((I6 60) 1), .ref 60]) (E' := E6) (I' := I6) (J' := J6) (S' := S6) am_e47 rfl rfl rfl rfl ?_
        refine w_st (i' := 48) (ls' := [.ref 60, .ref 12, .ref 18, .int v3]) (st' := [.int (((I6 60) 1) + (nI 1)), .ref 60]) (E' := E6) (I' := I6) (J' := J6) (S' := S6) am_e47 rfl rfl rfl rfl ?_
        refine w_st (i' := 49) (ls' := [.ref 60, .ref 12, .ref 18, .int v3]) (st' := []) (E' := E6) (I' := (u_I I6 60 (upd (I6 60) 1 (((I6 60) 1) + (nI 1))))) (J' := J6) (S' := S6) am_e47 rfl rfl rfl rfl ?_
        refine w_st (i' := 50) (ls' := [.ref 60, .ref 12, .ref 18, .int v3]) (st' := [.int (nI 1)]) (E' := E6) (I' := (u_I I6 60 (upd (I6 60) 1 (((I6 60) 1) + (nI 1))))) (J' := J6) (S' := S6) am_e47 rfl rfl rfl rfl ?_
        exact w_end am_e47 rfl rfl rfl h
    · replace h := h.1 (Decidable.not_not.mp (of_decide_eq_false c))
      refine w_st (i' := 21) (ls' := [.ref 60, .ref 12, .ref 18, am_U]) (st' := [.ref 60]) (E' := E2) (I' := I2) (J' := J2) (S' := S2) am_e47 rfl rfl rfl rfl ?_
      refine w_st (i' := 22) (ls' := [.ref 60, .ref 12, .ref 18, am_U]) (st' := [.int (nI 1), .ref 60]) (E' := E2) (I' := I2) (J' := J2) (S' := S2) am_e47 rfl rfl rfl rfl ?_
      refine w_st (i' := 23) (ls' := [.ref 60, .ref 12, .ref 18, am_U]) (st' := []) (E' := E2) (I' := (u_I I2 60 (upd (I2 60) 3 (nI 1)))) (J' := J2) (S' := S2) am_e47 rfl rfl rfl rfl ?_
      refine w_st (i' := 24) (ls' := [.ref 60, .ref 12, .ref 18, am_U]) (st' := [.int (nI 0)]) (E' := E2) (I' := (u_I I2 60 (upd (I2 60) 3 (nI 1)))) (J' := J2) (S' := S2) am_e47 rfl rfl rfl rfl ?_
      exact w_end am_e47 rfl rfl rfl h
  · replace h := h.2 (of_decide_eq_false c)
    refine w_st (i' := 4) (ls' := [.ref 60, .ref 12, .ref 18, am_U]) (st' := [.int (nI 0)]) (E' := E) (I' := I) (J' := J) (S' := S) am_e47 rfl rfl rfl rfl ?_
    exact w_end am_e47 rfl rfl rfl h
-- 47 advance
theorem g47_0_68  {E : am_Ev} {I : Nat → Nat → Int32} {J : Nat → Nat → Int64} {S : Nat → Nat → Option Nat} {Q : am_Qt}  (h : (((I 68) 3) = 0 → (am_cl 48 [.ref 68, .ref 18] E I J S (q_V fun E1 I1 J1 S1 => am_cl 23 [.ref 69, .ref 12, .int ((I1 69) 6), .ref 26] E1 I1 J1 S1 (q_I fun v2 E2 I2 J2 S2 => (v2 = 0 → (Q (.inl (some (.int (nI 0)))) E2 (u_I I2 68 (upd (I2 68) 3 (nI 1))) J2 S2)) ∧ (¬ v2 = 0 → (am_cl 34 [.ref 69, .ref 12] E2 I2 J2 S2 (q_I fun v3 E3 I3 J3 S3 => (v3 = (-1) → (am_cl 36 [.ref 69, .ref 12, .int (nI 0)] E3 I3 J3 S3 (q_V fun E6 I6 J6 S6 => Q (.inl (some (.int (nI 1)))) E6 (u_I I6 68 (upd (I6 68) 1 (((I6 68) 1) + (nI 1)))) J6 S6))) ∧ (¬ v3 = (-1) → (am_cl 49 [.ref 68, .ref 18, .int v3] E3 I3 J3 S3 (q_I fun v4 E4 I4 J4 S4 => am_cl 36 [.ref 69, .ref 12, .int v4] E4 I4 J4 S4 (q_V fun E5 I5 J5 S5 => Q (.inl (some (.int (nI 1)))) E5 (u_I I5 68 (upd (I5 68) 1 (((I5 68) 1) + (nI 1)))) J5 S5))))))))))) ∧ (¬ ((I 68) 3) = 0 → (Q (.inl (some (.int (nI 0)))) E I J S))) : am_ww 47 0 [.ref 68, .ref 12, .ref 18, am_U] [] E I J S Q := by
  refine w_st (i' := 1) (ls' := [.ref 68, .ref 12, .ref 18, am_U]) (st' := [.ref 68]) (E' := E) (I' := I) (J' := J) (S' := S) am_e47 rfl rfl rfl rfl ?_
  refine w_st (i' := 2) (ls' := [.ref 68, .ref 12, .ref 18, am_U]) (st' := [.int ((I 68) 3)]) (E' := E) (I' := I) (J' := J) (S' := S) am_e47 rfl rfl rfl rfl ?_
  refine w_if1 am_e47 rfl rfl (fun c => ?_) (fun c => ?_)
  · replace h := h.1 (of_decide_eq_true c)
    refine w_st (i' := 6) (ls' := [.ref 68, .ref 12, .ref 18, am_U]) (st' := [.ref 68]) (E' := E) (I' := I) (J' := J) (S' := S) am_e47 rfl rfl rfl rfl ?_
    refine w_st (i' := 7) (ls' := [.ref 68, .ref 12, .ref 18, am_U]) (st' := [.ref 18, .ref 68]) (E' := E) (I' := I) (J' := J) (S' := S) am_e47 rfl rfl rfl rfl ?_
    refine w_cV am_e47 rfl rfl (as := [.ref 68, .ref 18]) (rest := []) rfl rfl (am_ww.mono h ?_)
    rintro _ E1 I1 J1 S1 ⟨rfl, h⟩
    refine q_mkV ?_
    refine w_st (i' := 9) (ls' := [.ref 68, .ref 12, .ref 18, am_U]) (st' := [.ref 68]) (E' := E1) (I' := I1) (J' := J1) (S' := S1) am_e47 rfl rfl rfl rfl ?_
    refine w_st (i' := 10) (ls' := [.ref 68, .ref 12, .ref 18, am_U]) (st' := [.ref 69]) (E' := E1) (I' := I1) (J' := J1) (S' := S1) am_e47 rfl rfl rfl rfl ?_
    refine w_st (i' := 11) (ls' := [.ref 68, .ref 12, .ref 18, am_U]) (st' := [.ref 12, .ref 69]) (E' := E1) (I' := I1) (J' := J1) (S' := S1) am_e47 rfl rfl rfl rfl ?_
    refine w_st (i' := 12) (ls' := [.ref 68, .ref 12, .ref 18, am_U]) (st' := [.ref 68, .ref 12, .ref 69]) (E' := E1) (I' := I1) (J' := J1) (S' := S1) am_e47 rfl rfl rfl rfl ?_
    refine w_st (i' := 13) (ls' := [.ref 68, .ref 12, .ref 18, am_U]) (st' := [.ref 69, .ref 12, .ref 69]) (E' := E1) (I' := I1) (J' := J1) (S' := S1) am_e47 rfl rfl rfl rfl ?_
    refine w_st (i' := 14) (ls' := [.ref 68, .ref 12, .ref 18, am_U]) (st' := [.int ((I1 69) 6), .ref 12, .ref 69]) (E' := E1) (I' := I1) (J' := J1) (S' := S1) am_e47 rfl rfl rfl rfl ?_
    refine w_st (i' := 15) (ls' := [.ref 68, .ref 12, .ref 18, am_U]) (st' := [.ref 18, .int ((I1 69) 6), .ref 12, .ref 69]) (E' := E1) (I' := I1) (J' := J1) (S' := S1) am_e47 rfl rfl rfl rfl ?_
    refine w_st (i' := 16) (ls' := [.ref 68, .ref 12, .ref 18, am_U]) (st' := [.ref 19, .int ((I1 69) 6), .ref 12, .ref 69]) (E' := E1) (I' := I1) (J' := J1) (S' := S1) am_e47 rfl rfl rfl rfl ?_
    refine w_st (i' := 17) (ls' := [.ref 68, .ref 12, .ref 18, am_U]) (st' := [.ref 20, .int ((I1 69) 6), .ref 12, .ref 69]) (E' := E1) (I' := I1) (J' := J1) (S' := S1) am_e47 rfl rfl rfl rfl ?_
    refine w_st (i' := 18) (ls' := [.ref 68, .ref 12, .ref 18, am_U]) (st' := [.ref 26, .int ((I1 69) 6), .ref 12, .ref 69]) (E' := E1) (I' := I1) (J' := J1) (S' := S1) am_e47 rfl rfl rfl rfl ?_
    refine w_cI am_e47 rfl rfl (as := [.ref 69, .ref 12, .int ((I1 69) 6), .ref 26]) (rest := []) rfl rfl (am_ww.mono h ?_)
    rintro _ E2 I2 J2 S2 ⟨v2, rfl, h⟩
    refine q_mkI ?_
    refine w_if1 am_e47 rfl rfl (fun c => ?_) (fun c => ?_)
    · replace h := h.2 (of_decide_eq_true c)
      refine w_st (i' := 26) (ls' := [.ref 68, .ref 12, .ref 18, am_U]) (st' := [.ref 68]) (E' := E2) (I' := I2) (J' := J2) (S' := S2) am_e47 rfl rfl rfl rfl ?_
      refine w_st (i' := 27) (ls' := [.ref 68, .ref 12, .ref 18, am_U]) (st' := [.ref 69]) (E' := E2) (I' := I2) (J' := J2) (S' := S2) am_e47 rfl rfl rfl rfl ?_
      refine w_st (i' := 28) (ls' := [.ref 68, .ref 12, .ref 18, am_U]) (st' := [.ref 12, .ref 69]) (E' := E2) (I' := I2) (J' := J2) (S' := S2) am_e47 rfl rfl rfl rfl ?_
      refine w_cI am_e47 rfl rfl (as := [.ref 69, .ref 12]) (rest := []) rfl rfl (am_ww.mono h ?_)
      rintro _ E3 I3 J3 S3 ⟨v3, rfl, h⟩
      refine q_mkI ?_
      refine w_st (i' := 30) (ls' := [.ref 68, .ref 12, .ref 18, .int v3]) (st' := []) (E' := E3) (I' := I3) (J' := J3) (S' := S3) am_e47 rfl rfl rfl rfl ?_
      refine w_st (i' := 31) (ls' := [.ref 68, .ref 12, .ref 18, .int v3]) (st' := [.ref 68]) (E' := E3) (I' := I3) (J' := J3) (S' := S3) am_e47 rfl rfl rfl rfl ?_
      refine w_st (i' := 32) (ls' := [.ref 68, .ref 12, .ref 18, .int v3]) (st' := [.ref 69]) (E' := E3) (I' := I3) (J' := J3) (S' := S3) am_e47 rfl rfl rfl rfl ?_
      refine w_st (i' := 33) (ls' := [.ref 68, .ref 12, .ref 18, .int v3]) (st' := [.ref 12, .ref 69]) (E' := E3) (I' := I3) (J' := J3) (S' := S3) am_e47 rfl rfl rfl rfl ?_
      refine w_st (i' := 34) (ls' := [.ref 68, .ref 12, .ref 18, .int v3]) (st' := [.int v3, .ref 12, .ref 69]) (E' := E3) (I' := I3) (J' := J3) (S' := S3) am_e47 rfl rfl rfl rfl ?_
      refine w_st (i' := 35) (ls' := [.ref 68, .ref 12, .ref 18, .int v3]) (st' := [.int (-1), .int v3, .ref 12, .ref 69]) (E' := E3) (I' := I3) (J' := J3) (S' := S3) am_e47 rfl rfl rfl rfl ?_
      refine w_if2 am_e47 rfl rfl (fun c => ?_) (fun c => ?_)
      · replace h := h.2 (of_decide_eq_true c)
        refine w_st (i' := 39) (ls' := [.ref 68, .ref 12, .ref 18, .int v3]) (st' := [.ref 68, .ref 12, .ref 69]) (E' := E3) (I' := I3) (J' := J3) (S' := S3) am_e47 rfl rfl rfl rfl ?_
        refine w_st (i' := 40) (ls' := [.ref 68, .ref 12, .ref 18, .int v3]) (st' := [.ref 18, .ref 68, .ref 12, .ref 69]) (E' := E3) (I' := I3) (J' := J3) (S' := S3) am_e47 rfl rfl rfl rfl ?_
        refine w_st (i' := 41) (ls' := [.ref 68, .ref 12, .ref 18, .int v3]) (st' := [.int v3, .ref 18, .ref 68, .ref 12, .ref 69]) (E' := E3) (I' := I3) (J' := J3) (S' := S3) am_e47 rfl rfl rfl rfl ?_
        refine w_cI am_e47 rfl rfl (as := [.ref 68, .ref 18, .int v3]) (rest := [.ref 12, .ref 69]) rfl rfl (am_ww.mono h ?_)
        rintro _ E4 I4 J4 S4 ⟨v4, rfl, h⟩
        refine q_mkI ?_
        refine w_cV am_e47 rfl rfl (as := [.ref 69, .ref 12, .int v4]) (rest := []) rfl rfl (am_ww.mono h ?_)
        rintro _ E5 I5 J5 S5 ⟨rfl, h⟩
        refine q_mkV ?_
        refine w_st (i' := 44) (ls' := [.ref 68, .ref 12, .ref 18, .int v3]) (st' := [.ref 68]) (E' := E5) (I' := I5) (J' := J5) (S' := S5) am_e47 rfl rfl rfl rfl ?_
        refine w_st (i' := 45) (ls' := [.ref 68, .ref 12, .ref 18, .int v3]) (st' := [.ref 68, .ref 68]) (E' := E5) (I' := I5) (J' := J5) (S' := S5) am_e47 rfl rfl rfl rfl ?_
        refine w_st (i' := 46) (ls' := [.ref 68, .ref 12, .ref 18, .int v3]) (st' := [.int ((I5 68) 1), .ref 68]) (E' := E5) (I' := I5) (J' := J5) (S' := S5) am_e47 rfl rfl rfl rfl ?_
        refine w_st (i' := 47) (ls' := [.ref 68, .ref 12, .ref 18, .int v3]) (st' := [.int (nI 1), .int ((I5 68) 1), .ref 68]) (E' := E5) (I' := I5) (J' := J5) (S' := S5) am_e47 rfl rfl rfl rfl ?_
        refine w_st (i' := 48) (ls' := [.ref 68, .ref 12, .ref 18, .int v3]) (st' := [.int (((I5 68) 1) + (nI 1)), .ref 68]) (E' := E5) (I' := I5) (J' := J5) (S' := S5) am_e47 rfl rfl rfl rfl ?_
        refine w_st (i' := 49) (ls' := [.ref 68, .ref 12, .ref 18, .int v3]) (st' := []) (E' := E5) (I' := (u_I I5 68 (upd (I5 68) 1 (((I5 68) 1) + (nI 1))))) (J' := J5) (S' := S5) am_e47 rfl rfl rfl rfl ?_
        refine w_st (i' := 50) (ls' := [.ref 68, .ref 12, .ref 18, .int v3]) (st' := [.int (nI 1)]) (E' := E5) (I' := (u_I I5 68 (upd (I5 68) 1 (((I5 68) 1) + (nI 1))))) (J' := J5) (S' := S5) am_e47 rfl rfl rfl rfl ?_
        exact w_end am_e47 rfl rfl rfl h
      · replace h := h.1 (Decidable.not_not.mp (of_decide_eq_false c))
        refine w_st (i' := 37) (ls' := [.ref 68, .ref 12, .ref 18, .int v3]) (st' := [.int (nI 0), .ref 12, .ref 69]) (E' := E3) (I' := I3) (J' := J3) (S' := S3) am_e47 rfl rfl rfl rfl ?_
        refine w_st (i' := 42) (ls' := [.ref 68, .ref 12, .ref 18, .int v3]) (st' := [.int (nI 0), .ref 12, .ref 69]) (E' := E3) (I' := I3) (J' := J3) (S' := S3) am_e47 rfl rfl rfl rfl ?_
        refine w_cV am_e47 rfl rfl (as := [.ref 69, .ref 12, .int (nI 0)]) (rest := []) rfl rfl (am_ww.mono h ?_)
        rintro _ E6 I6 J6 S6 ⟨rfl, h⟩
        refine q_mkV ?_
        refine w_st (i' := 44) (ls' := [.ref 68, .ref 12, .ref 18, .int v3]) (st' := [.ref 68]) (E' := E6) (I' := I6) (J' := J6) (S' := S6) am_e47 rfl rfl rfl rfl ?_
        refine w_st (i' := 45) (ls' := [.ref 68, .ref 12, .ref 18, .int v3]) (st' := [.ref 68, .ref 68]) (E' := E6) (I' := I6) (J' := J6) (S' := S6) am_e47 rfl rfl rfl rfl ?_
        refine w_st (i' := 46) (ls' := [.ref 68, .ref 12, .ref 18, .int v3]) (st' := [.int ((I6 68) 1), .ref 68]) (E' := E6) (I' := I6) (J' := J6) (S' := S6) am_e47 rfl rfl rfl rfl ?_
        refine w_st (i' := 47) (ls' := [.ref 68, .ref 12, .ref 18, .int v3]) (st' := [.int (nI 1), .int ((I6 68) 1), .ref 68]) (E' := E6) (I' := I6) (J' := J6) (S' := S6) am_e47 rfl rfl rfl rfl ?_
        refine w_st (i' := 48) (ls' := [.ref 68, .ref 12, .ref 18, .int v3]) (st' := [.int (((I6 68) 1) + (nI 1)), .ref 68]) (E' := E6) (I' := I6) (J' := J6) (S' := S6) am_e47 rfl rfl rfl rfl ?_
        refine w_st (i' := 49) (ls' := [.ref 68, .ref 12, .ref 18, .int v3]) (st' := []) (E' := E6) (I' := (u_I I6 68 (upd (I6 68) 1 (((I6 68) 1) + (nI 1))))) (J' := J6) (S' := S6) am_e47 rfl rfl rfl rfl ?_
        refine w_st (i' := 50) (ls' := [.ref 68, .ref 12, .ref 18, .int v3]) (st' := [.int (nI 1)]) (E' := E6) (I' := (u_I I6 68 (upd (I6 68) 1 (((I6 68) 1) + (nI 1))))) (J' := J6) (S' := S6) am_e47 rfl rfl rfl rfl ?_
        exact w_end am_e47 rfl rfl rfl h
    · replace h := h.1 (Decidable.not_not.mp (of_decide_eq_false c))
      refine w_st (i' := 21) (ls' := [.ref 68, .ref 12, .ref 18, am_U]) (st' := [.ref 68]) (E' := E2) (I' := I2) (J' := J2) (S' := S2) am_e47 rfl rfl rfl rfl ?_
      refine w_st (i' := 22) (ls' := [.ref 68, .ref 12, .ref 18, am_U]) (st' := [.int (nI 1), .ref 68]) (E' := E2) (I' := I2) (J' := J2) (S' := S2) am_e47 rfl rfl rfl rfl ?_
      refine w_st (i' := 23) (ls' := [.ref 68, .ref 12, .ref 18, am_U]) (st' := []) (E' := E2) (I' := (u_I I2 68 (upd (I2 68) 3 (nI 1)))) (J' := J2) (S' := S2) am_e47 rfl rfl rfl rfl ?_
      refine w_st (i' := 24) (ls' := [.ref 68, .ref 12, .ref 18, am_U]) (st' := [.int (nI 0)]) (E' := E2) (I' := (u_I I2 68 (upd (I2 68) 3 (nI 1)))) (J' := J2) (S' := S2) am_e47 rfl rfl rfl rfl ?_
      exact w_end am_e47 rfl rfl rfl h
  · replace h := h.2 (of_decide_eq_false c)
    refine w_st (i' := 4) (ls' := [.ref 68, .ref 12, .ref 18, am_U]) (st' := [.int (nI 0)]) (E' := E) (I' := I) (J' := J) (S' := S) am_e47 rfl rfl rfl rfl ?_
    exact w_end am_e47 rfl rfl rfl h
-- 46 runTo
theorem g46_0_60 {p1 : Int32} {E : am_Ev} {I : Nat → Nat → Int32} {J : Nat → Nat → Int64} {S : Nat → Nat → Option Nat} {Q : am_Qt}  (h : am_ww 46 3 [.ref 60, .int p1, .ref 12, .ref 18, .int ((I 60) 1)] [] E I J S Q) : am_ww 46 0 [.ref 60, .int p1, .ref 12, .ref 18, am_U] [] E I J S Q := by
  refine w_st (i' := 1) (ls' := [.ref 60, .int p1, .ref 12, .ref 18, am_U]) (st' := [.ref 60]) (E' := E) (I' := I) (J' := J) (S' := S) am_e46 rfl rfl rfl rfl ?_
  refine w_st (i' := 2) (ls' := [.ref 60, .int p1, .ref 12, .ref 18, am_U]) (st' := [.int ((I 60) 1)]) (E' := E) (I' := I) (J' := J) (S' := S) am_e46 rfl rfl rfl rfl ?_
  refine w_st (i' := 3) (ls' := [.ref 60, .int p1, .ref 12, .ref 18, .int ((I 60) 1)]) (st' := []) (E' := E) (I' := I) (J' := J) (S' := S) am_e46 rfl rfl rfl rfl ?_
  exact h
theorem g46_3_60 {x1 : Int32} {x4 : Int32} {E : am_Ev} {I : Nat → Nat → Int32} {J : Nat → Nat → Int64} {S : Nat → Nat → Option Nat} {Q : am_Qt}  (h : (x1 ≤ x4 → (Q (.inl none) E I J S)) ∧ (¬ x1 ≤ x4 → (am_cl 47 [.ref 60, .ref 12, .ref 18] E I J S (q_I fun v1 E1 I1 J1 S1 => (v1 = 0 → (Q (.inl none) E1 I1 J1 S1)) ∧ (¬ v1 = 0 → (am_ww 46 3 [.ref 60, .int x1, .ref 12, .ref 18, .int (x4 + nI 1)] [] E1 I1 J1 S1 Q)))))) : am_ww 46 3 [.ref 60, .int x1, .ref 12, .ref 18, .int x4] [] E I J S Q := by
  refine w_st (i' := 4) (ls' := [.ref 60, .int x1, .ref 12, .ref 18, .int x4]) (st' := [.int x4]) (E' := E) (I' := I) (J' := J) (S' := S) am_e46 rfl rfl rfl rfl ?_
  refine w_st (i' := 5) (ls' := [.ref 60, .int x1, .ref 12, .ref 18, .int x4]) (st' := [.int x1, .int x4]) (E' := E) (I' := I) (J' := J) (S' := S) am_e46 rfl rfl rfl rfl ?_
  refine w_if2 am_e46 rfl rfl (fun c => ?_) (fun c => ?_)
  · replace h := h.1 (of_decide_eq_true c)
    exact w_end am_e46 rfl rfl rfl h
  · replace h := h.2 (of_decide_eq_false c)
    refine w_st (i' := 7) (ls' := [.ref 60, .int x1, .ref 12, .ref 18, .int x4]) (st' := [.ref 60]) (E' := E) (I' := I) (J' := J) (S' := S) am_e46 rfl rfl rfl rfl ?_
    refine w_st (i' := 8) (ls' := [.ref 60, .int x1, .ref 12, .ref 18, .int x4]) (st' := [.ref 12, .ref 60]) (E' := E) (I' := I) (J' := J) (S' := S) am_e46 rfl rfl rfl rfl ?_
    refine w_st (i' := 9) (ls' := [.ref 60, .int x1, .ref 12, .ref 18, .int x4]) (st' := [.ref 18, .ref 12, .ref 60]) (E' := E) (I' := I) (J' := J) (S' := S) am_e46 rfl rfl rfl rfl ?_
    refine w_cI am_e46 rfl rfl (as := [.ref 60, .ref 12, .ref 18]) (rest := []) rfl rfl (am_ww.mono h ?_)
    rintro _ E1 I1 J1 S1 ⟨v1, rfl, h⟩
    refine q_mkI ?_
    refine w_if1 am_e46 rfl rfl (fun c => ?_) (fun c => ?_)
    · replace h := h.2 (of_decide_eq_true c)
      refine w_st (i' := 13) (ls' := [.ref 60, .int x1, .ref 12, .ref 18, .int (x4 + nI 1)]) (st' := []) (E' := E1) (I' := I1) (J' := J1) (S' := S1) am_e46 rfl rfl rfl rfl ?_
      refine w_st (i' := 3) (ls' := [.ref 60, .int x1, .ref 12, .ref 18, .int (x4 + nI 1)]) (st' := []) (E' := E1) (I' := I1) (J' := J1) (S' := S1) am_e46 rfl rfl rfl rfl ?_
      exact h
    · replace h := h.1 (Decidable.not_not.mp (of_decide_eq_false c))
      exact w_end am_e46 rfl rfl rfl h
-- 46 runTo
theorem g46_0_68 {p1 : Int32} {E : am_Ev} {I : Nat → Nat → Int32} {J : Nat → Nat → Int64} {S : Nat → Nat → Option Nat} {Q : am_Qt}  (h : am_ww 46 3 [.ref 68, .int p1, .ref 12, .ref 18, .int ((I 68) 1)] [] E I J S Q) : am_ww 46 0 [.ref 68, .int p1, .ref 12, .ref 18, am_U] [] E I J S Q := by
  refine w_st (i' := 1) (ls' := [.ref 68, .int p1, .ref 12, .ref 18, am_U]) (st' := [.ref 68]) (E' := E) (I' := I) (J' := J) (S' := S) am_e46 rfl rfl rfl rfl ?_
  refine w_st (i' := 2) (ls' := [.ref 68, .int p1, .ref 12, .ref 18, am_U]) (st' := [.int ((I 68) 1)]) (E' := E) (I' := I) (J' := J) (S' := S) am_e46 rfl rfl rfl rfl ?_
  refine w_st (i' := 3) (ls' := [.ref 68, .int p1, .ref 12, .ref 18, .int ((I 68) 1)]) (st' := []) (E' := E) (I' := I) (J' := J) (S' := S) am_e46 rfl rfl rfl rfl ?_
  exact h
theorem g46_3_68 {x1 : Int32} {x4 : Int32} {E : am_Ev} {I : Nat → Nat → Int32} {J : Nat → Nat → Int64} {S : Nat → Nat → Option Nat} {Q : am_Qt}  (h : (x1 ≤ x4 → (Q (.inl none) E I J S)) ∧ (¬ x1 ≤ x4 → (am_cl 47 [.ref 68, .ref 12, .ref 18] E I J S (q_I fun v1 E1 I1 J1 S1 => (v1 = 0 → (Q (.inl none) E1 I1 J1 S1)) ∧ (¬ v1 = 0 → (am_ww 46 3 [.ref 68, .int x1, .ref 12, .ref 18, .int (x4 + nI 1)] [] E1 I1 J1 S1 Q)))))) : am_ww 46 3 [.ref 68, .int x1, .ref 12, .ref 18, .int x4] [] E I J S Q := by
  refine w_st (i' := 4) (ls' := [.ref 68, .int x1, .ref 12, .ref 18, .int x4]) (st' := [.int x4]) (E' := E) (I' := I) (J' := J) (S' := S) am_e46 rfl rfl rfl rfl ?_
  refine w_st (i' := 5) (ls' := [.ref 68, .int x1, .ref 12, .ref 18, .int x4]) (st' := [.int x1, .int x4]) (E' := E) (I' := I) (J' := J) (S' := S) am_e46 rfl rfl rfl rfl ?_
  refine w_if2 am_e46 rfl rfl (fun c => ?_) (fun c => ?_)
  · replace h := h.1 (of_decide_eq_true c)
    exact w_end am_e46 rfl rfl rfl h
  · replace h := h.2 (of_decide_eq_false c)
    refine w_st (i' := 7) (ls' := [.ref 68, .int x1, .ref 12, .ref 18, .int x4]) (st' := [.ref 68]) (E' := E) (I' := I) (J' := J) (S' := S) am_e46 rfl rfl rfl rfl ?_
    refine w_st (i' := 8) (ls' := [.ref 68, .int x1, .ref 12, .ref 18, .int x4]) (st' := [.ref 12, .ref 68]) (E' := E) (I' := I) (J' := J) (S' := S) am_e46 rfl rfl rfl rfl ?_
    refine w_st (i' := 9) (ls' := [.ref 68, .int x1, .ref 12, .ref 18, .int x4]) (st' := [.ref 18, .ref 12, .ref 68]) (E' := E) (I' := I) (J' := J) (S' := S) am_e46 rfl rfl rfl rfl ?_
    refine w_cI am_e46 rfl rfl (as := [.ref 68, .ref 12, .ref 18]) (rest := []) rfl rfl (am_ww.mono h ?_)
    rintro _ E1 I1 J1 S1 ⟨v1, rfl, h⟩
    refine q_mkI ?_
    refine w_if1 am_e46 rfl rfl (fun c => ?_) (fun c => ?_)
    · replace h := h.2 (of_decide_eq_true c)
      refine w_st (i' := 13) (ls' := [.ref 68, .int x1, .ref 12, .ref 18, .int (x4 + nI 1)]) (st' := []) (E' := E1) (I' := I1) (J' := J1) (S' := S1) am_e46 rfl rfl rfl rfl ?_
      refine w_st (i' := 3) (ls' := [.ref 68, .int x1, .ref 12, .ref 18, .int (x4 + nI 1)]) (st' := []) (E' := E1) (I' := I1) (J' := J1) (S' := S1) am_e46 rfl rfl rfl rfl ?_
      exact h
    · replace h := h.1 (Decidable.not_not.mp (of_decide_eq_false c))
      exact w_end am_e46 rfl rfl rfl h
-- 169 alter
theorem g169_0 {p1 : Int32} {p2 : Int32} {p3 : Int32} {E : am_Ev} {I : Nat → Nat → Int32} {J : Nat → Nat → Int64} {S : Nat → Nat → Option Nat} {Q : am_Qt}  (h : (p1 = (nI 5) → ((p2 < 0 → (Q (.inl none) E (u_I I 68 (upd (upd (upd (I 68) 4 p1) 5 p2) 6 p3)) J S)) ∧ (¬ p2 < 0 → (((nI 16) ≤ p2 → (Q (.inl none) E (u_I I 68 (upd (upd (upd (I 68) 4 p1) 5 p2) 6 p3)) J S)) ∧ (¬ (nI 16) ≤ p2 → (vp_in p2 16 ∧ (Q (.inl none) E (u_I (u_I I 68 (upd (upd (upd (I 68) 4 p1) 5 p2) 6 p3)) 70 (upd (I 70) p2.toNatClampNeg p3)) J S))))))) ∧ (¬ p1 = (nI 5) → (Q (.inl none) E (u_I I 68 (upd (upd (upd (I 68) 4 p1) 5 p2) 6 p3)) J S))) : am_ww 169 0 [.ref 68, .int p1, .int p2, .int p3] [] E I J S Q := by
  refine w_st (i' := 1) (ls' := [.ref 68, .int p1, .int p2, .int p3]) (st' := [.ref 68]) (E' := E) (I' := I) (J' := J) (S' := S) am_e169 rfl rfl rfl rfl ?_
  refine w_st (i' := 2) (ls' := [.ref 68, .int p1, .int p2, .int p3]) (st' := [.int p1, .ref 68]) (E' := E) (I' := I) (J' := J) (S' := S) am_e169 rfl rfl rfl rfl ?_
  refine w_st (i' := 3) (ls' := [.ref 68, .int p1, .int p2, .int p3]) (st' := []) (E' := E) (I' := (u_I I 68 (upd (I 68) 4 p1))) (J' := J) (S' := S) am_e169 rfl rfl rfl rfl ?_
  refine w_st (i' := 4) (ls' := [.ref 68, .int p1, .int p2, .int p3]) (st' := [.ref 68]) (E' := E) (I' := (u_I I 68 (upd (I 68) 4 p1))) (J' := J) (S' := S) am_e169 rfl rfl rfl rfl ?_
  refine w_st (i' := 5) (ls' := [.ref 68, .int p1, .int p2, .int p3]) (st' := [.int p2, .ref 68]) (E' := E) (I' := (u_I I 68 (upd (I 68) 4 p1))) (J' := J) (S' := S) am_e169 rfl rfl rfl rfl ?_
  refine w_st (i' := 6) (ls' := [.ref 68, .int p1, .int p2, .int p3]) (st' := []) (E' := E) (I' := (u_I (u_I I 68 (upd (I 68) 4 p1)) 68 (upd (upd (I 68) 4 p1) 5 p2))) (J' := J) (S' := S) am_e169 rfl rfl rfl rfl ?_
  refine w_eI (uI_0 ..) ?_
  show am_ww 169 6 [.ref 68, .int p1, .int p2, .int p3] [] E (u_I I 68 (upd (upd (I 68) 4 p1) 5 p2)) J S _
  refine w_st (i' := 7) (ls' := [.ref 68, .int p1, .int p2, .int p3]) (st' := [.ref 68]) (E' := E) (I' := (u_I I 68 (upd (upd (I 68) 4 p1) 5 p2))) (J' := J) (S' := S) am_e169 rfl rfl rfl rfl ?_
  refine w_st (i' := 8) (ls' := [.ref 68, .int p1, .int p2, .int p3]) (st' := [.int p3, .ref 68]) (E' := E) (I' := (u_I I 68 (upd (upd (I 68) 4 p1) 5 p2))) (J' := J) (S' := S) am_e169 rfl rfl rfl rfl ?_
  refine w_st (i' := 9) (ls' := [.ref 68, .int p1, .int p2, .int p3]) (st' := []) (E' := E) (I' := (u_I (u_I I 68 (upd (upd (I 68) 4 p1) 5 p2)) 68 (upd (upd (upd (I 68) 4 p1) 5 p2) 6 p3))) (J' := J) (S' := S) am_e169 rfl rfl rfl rfl ?_
  refine w_eI (uI_0 ..) ?_
  show am_ww 169 9 [.ref 68, .int p1, .int p2, .int p3] [] E (u_I I 68 (upd (upd (upd (I 68) 4 p1) 5 p2) 6 p3)) J S _
  refine w_st (i' := 10) (ls' := [.ref 68, .int p1, .int p2, .int p3]) (st' := [.ref 68]) (E' := E) (I' := (u_I I 68 (upd (upd (upd (I 68) 4 p1) 5 p2) 6 p3))) (J' := J) (S' := S) am_e169 rfl rfl rfl rfl ?_
  refine w_st (i' := 11) (ls' := [.ref 68, .int p1, .int p2, .int p3]) (st' := [.int p1]) (E' := E) (I' := (u_I I 68 (upd (upd (upd (I 68) 4 p1) 5 p2) 6 p3))) (J' := J) (S' := S) am_e169 rfl rfl rfl rfl ?_
  refine w_st (i' := 12) (ls' := [.ref 68, .int p1, .int p2, .int p3]) (st' := [.int (nI 5), .int p1]) (E' := E) (I' := (u_I I 68 (upd (upd (upd (I 68) 4 p1) 5 p2) 6 p3))) (J' := J) (S' := S) am_e169 rfl rfl rfl rfl ?_
  refine w_if2 am_e169 rfl rfl (fun c => ?_) (fun c => ?_)
  · replace h := h.2 (of_decide_eq_true c)
    exact w_end am_e169 rfl rfl rfl h
  · replace h := h.1 (Decidable.not_not.mp (of_decide_eq_false c))
    refine w_st (i' := 14) (ls' := [.ref 68, .int p1, .int p2, .int p3]) (st' := [.int p2]) (E' := E) (I' := (u_I I 68 (upd (upd (upd (I 68) 4 p1) 5 p2) 6 p3))) (J' := J) (S' := S) am_e169 rfl rfl rfl rfl ?_
    refine w_if1 am_e169 rfl rfl (fun c => ?_) (fun c => ?_)
    · replace h := h.1 (of_decide_eq_true c)
      exact w_end am_e169 rfl rfl rfl h
    · replace h := h.2 (of_decide_eq_false c)
      refine w_st (i' := 16) (ls' := [.ref 68, .int p1, .int p2, .int p3]) (st' := [.int p2]) (E' := E) (I' := (u_I I 68 (upd (upd (upd (I 68) 4 p1) 5 p2) 6 p3))) (J' := J) (S' := S) am_e169 rfl rfl rfl rfl ?_
      refine w_st (i' := 17) (ls' := [.ref 68, .int p1, .int p2, .int p3]) (st' := [.int (nI 16), .int p2]) (E' := E) (I' := (u_I I 68 (upd (upd (upd (I 68) 4 p1) 5 p2) 6 p3))) (J' := J) (S' := S) am_e169 rfl rfl rfl rfl ?_
      refine w_if2 am_e169 rfl rfl (fun c => ?_) (fun c => ?_)
      · replace h := h.1 (of_decide_eq_true c)
        exact w_end am_e169 rfl rfl rfl h
      · replace h := h.2 (of_decide_eq_false c)
        refine w_st (i' := 19) (ls' := [.ref 68, .int p1, .int p2, .int p3]) (st' := [.ref 68]) (E' := E) (I' := (u_I I 68 (upd (upd (upd (I 68) 4 p1) 5 p2) 6 p3))) (J' := J) (S' := S) am_e169 rfl rfl rfl rfl ?_
        refine w_st (i' := 20) (ls' := [.ref 68, .int p1, .int p2, .int p3]) (st' := [.ref 69]) (E' := E) (I' := (u_I I 68 (upd (upd (upd (I 68) 4 p1) 5 p2) 6 p3))) (J' := J) (S' := S) am_e169 rfl rfl rfl rfl ?_
        refine w_st (i' := 21) (ls' := [.ref 68, .int p1, .int p2, .int p3]) (st' := [.ref 70]) (E' := E) (I' := (u_I I 68 (upd (upd (upd (I 68) 4 p1) 5 p2) 6 p3))) (J' := J) (S' := S) am_e169 rfl rfl rfl rfl ?_
        refine w_st (i' := 22) (ls' := [.ref 68, .int p1, .int p2, .int p3]) (st' := [.int p2, .ref 70]) (E' := E) (I' := (u_I I 68 (upd (upd (upd (I 68) 4 p1) 5 p2) 6 p3))) (J' := J) (S' := S) am_e169 rfl rfl rfl rfl ?_
        refine w_st (i' := 23) (ls' := [.ref 68, .int p1, .int p2, .int p3]) (st' := [.int p3, .int p2, .ref 70]) (E' := E) (I' := (u_I I 68 (upd (upd (upd (I 68) 4 p1) 5 p2) 6 p3))) (J' := J) (S' := S) am_e169 rfl rfl rfl rfl ?_
        have hf1 := h.1
        replace h := h.2
        refine w_is (k := 70) (n := 16) (jn := p2.toNatClampNeg) am_e169 rfl rfl (by decide) hf1 rfl ?_
        show am_ww 169 24 [.ref 68, .int p1, .int p2, .int p3] [] E (u_I (u_I I 68 (upd (upd (upd (I 68) 4 p1) 5 p2) 6 p3)) 70 (upd (I 70) p2.toNatClampNeg p3)) J S _
        exact w_end am_e169 rfl rfl rfl h
-- 50 copy
theorem g50_0_20_61  {E : am_Ev} {I : Nat → Nat → Int32} {J : Nat → Nat → Int64} {S : Nat → Nat → Option Nat} {Q : am_Qt}  (h : Q (.inl none) E (u_I (u_I (u_I (u_I (u_I (u_I (u_I I 21 (va_cpy (I 62) (I 21) 0 0 16)) 22 (va_cpy (I 63) (I 22) 0 0 16)) 23 (va_cpy (I 64) (I 23) 0 0 4)) 24 (va_cpy (I 65) (I 24) 0 0 4)) 25 (va_cpy (I 66) (I 25) 0 0 4)) 26 (va_cpy (I 67) (I 26) 0 0 3)) 20 (upd (I 20) 6 ((I 61) 6))) J S) : am_ww 50 0 [.ref 20, .ref 61] [] E I J S Q := by
  refine w_st (i' := 1) (ls' := [.ref 20, .ref 61]) (st' := [.ref 61]) (E' := E) (I' := I) (J' := J) (S' := S) am_e50 rfl rfl rfl rfl ?_
  refine w_st (i' := 2) (ls' := [.ref 20, .ref 61]) (st' := [.ref 62]) (E' := E) (I' := I) (J' := J) (S' := S) am_e50 rfl rfl rfl rfl ?_
  refine w_st (i' := 3) (ls' := [.ref 20, .ref 61]) (st' := [.int (nI 0), .ref 62]) (E' := E) (I' := I) (J' := J) (S' := S) am_e50 rfl rfl rfl rfl ?_
  refine w_st (i' := 4) (ls' := [.ref 20, .ref 61]) (st' := [.ref 20, .int (nI 0), .ref 62]) (E' := E) (I' := I) (J' := J) (S' := S) am_e50 rfl rfl rfl rfl ?_
  refine w_st (i' := 5) (ls' := [.ref 20, .ref 61]) (st' := [.ref 21, .int (nI 0), .ref 62]) (E' := E) (I' := I) (J' := J) (S' := S) am_e50 rfl rfl rfl rfl ?_
  refine w_st (i' := 6) (ls' := [.ref 20, .ref 61]) (st' := [.int (nI 0), .ref 21, .int (nI 0), .ref 62]) (E' := E) (I' := I) (J' := J) (S' := S) am_e50 rfl rfl rfl rfl ?_
  refine w_st (i' := 7) (ls' := [.ref 20, .ref 61]) (st' := [.ref 20, .int (nI 0), .ref 21, .int (nI 0), .ref 62]) (E' := E) (I' := I) (J' := J) (S' := S) am_e50 rfl rfl rfl rfl ?_
  refine w_st (i' := 8) (ls' := [.ref 20, .ref 61]) (st' := [.ref 21, .int (nI 0), .ref 21, .int (nI 0), .ref 62]) (E' := E) (I' := I) (J' := J) (S' := S) am_e50 rfl rfl rfl rfl ?_
  refine w_st (i' := 9) (ls' := [.ref 20, .ref 61]) (st' := [.int (nI 16), .int (nI 0), .ref 21, .int (nI 0), .ref 62]) (E' := E) (I' := I) (J' := J) (S' := S) am_e50 rfl rfl rfl rfl ?_
  refine w_cp (k := 62) (a := 21) (nk := 16) (na := 16) am_e50 rfl (by decide) (by decide) rfl rfl (by decide) (by unfold am_cpOk; decide) ?_
  show am_ww 50 10 [.ref 20, .ref 61] [] E (u_I I 21 (va_cpy (I 62) (I 21) 0 0 16)) J S _
  refine w_st (i' := 11) (ls' := [.ref 20, .ref 61]) (st' := [.ref 61]) (E' := E) (I' := (u_I I 21 (va_cpy (I 62) (I 21) 0 0 16))) (J' := J) (S' := S) am_e50 rfl rfl rfl rfl ?_
  refine w_st (i' := 12) (ls' := [.ref 20, .ref 61]) (st' := [.ref 63]) (E' := E) (I' := (u_I I 21 (va_cpy (I 62) (I 21) 0 0 16))) (J' := J) (S' := S) am_e50 rfl rfl rfl rfl ?_
  refine w_st (i' := 13) (ls' := [.ref 20, .ref 61]) (st' := [.int (nI 0), .ref 63]) (E' := E) (I' := (u_I I 21 (va_cpy (I 62) (I 21) 0 0 16))) (J' := J) (S' := S) am_e50 rfl rfl rfl rfl ?_
  refine w_st (i' := 14) (ls' := [.ref 20, .ref 61]) (st' := [.ref 20, .int (nI 0), .ref 63]) (E' := E) (I' := (u_I I 21 (va_cpy (I 62) (I 21) 0 0 16))) (J' := J) (S' := S) am_e50 rfl rfl rfl rfl ?_
  refine w_st (i' := 15) (ls' := [.ref 20, .ref 61]) (st' := [.ref 22, .int (nI 0), .ref 63]) (E' := E) (I' := (u_I I 21 (va_cpy (I 62) (I 21) 0 0 16))) (J' := J) (S' := S) am_e50 rfl rfl rfl rfl ?_
  refine w_st (i' := 16) (ls' := [.ref 20, .ref 61]) (st' := [.int (nI 0), .ref 22, .int (nI 0), .ref 63]) (E' := E) (I' := (u_I I 21 (va_cpy (I 62) (I 21) 0 0 16))) (J' := J) (S' := S) am_e50 rfl rfl rfl rfl ?_
  refine w_st (i' := 17) (ls' := [.ref 20, .ref 61]) (st' := [.ref 20, .int (nI 0), .ref 22, .int (nI 0), .ref 63]) (E' := E) (I' := (u_I I 21 (va_cpy (I 62) (I 21) 0 0 16))) (J' := J) (S' := S) am_e50 rfl rfl rfl rfl ?_
  refine w_st (i' := 18) (ls' := [.ref 20, .ref 61]) (st' := [.ref 22, .int (nI 0), .ref 22, .int (nI 0), .ref 63]) (E' := E) (I' := (u_I I 21 (va_cpy (I 62) (I 21) 0 0 16))) (J' := J) (S' := S) am_e50 rfl rfl rfl rfl ?_
  refine w_st (i' := 19) (ls' := [.ref 20, .ref 61]) (st' := [.int (nI 16), .int (nI 0), .ref 22, .int (nI 0), .ref 63]) (E' := E) (I' := (u_I I 21 (va_cpy (I 62) (I 21) 0 0 16))) (J' := J) (S' := S) am_e50 rfl rfl rfl rfl ?_
  refine w_cp (k := 63) (a := 22) (nk := 16) (na := 16) am_e50 rfl (by decide) (by decide) rfl rfl (by decide) (by unfold am_cpOk; decide) ?_
  show am_ww 50 20 [.ref 20, .ref 61] [] E (u_I (u_I I 21 (va_cpy (I 62) (I 21) 0 0 16)) 22 (va_cpy (I 63) (I 22) 0 0 16)) J S _
  refine w_st (i' := 21) (ls' := [.ref 20, .ref 61]) (st' := [.ref 61]) (E' := E) (I' := (u_I (u_I I 21 (va_cpy (I 62) (I 21) 0 0 16)) 22 (va_cpy (I 63) (I 22) 0 0 16))) (J' := J) (S' := S) am_e50 rfl rfl rfl rfl ?_
  refine w_st (i' := 22) (ls' := [.ref 20, .ref 61]) (st' := [.ref 64]) (E' := E) (I' := (u_I (u_I I 21 (va_cpy (I 62) (I 21) 0 0 16)) 22 (va_cpy (I 63) (I 22) 0 0 16))) (J' := J) (S' := S) am_e50 rfl rfl rfl rfl ?_
  refine w_st (i' := 23) (ls' := [.ref 20, .ref 61]) (st' := [.int (nI 0), .ref 64]) (E' := E) (I' := (u_I (u_I I 21 (va_cpy (I 62) (I 21) 0 0 16)) 22 (va_cpy (I 63) (I 22) 0 0 16))) (J' := J) (S' := S) am_e50 rfl rfl rfl rfl ?_
  refine w_st (i' := 24) (ls' := [.ref 20, .ref 61]) (st' := [.ref 20, .int (nI 0), .ref 64]) (E' := E) (I' := (u_I (u_I I 21 (va_cpy (I 62) (I 21) 0 0 16)) 22 (va_cpy (I 63) (I 22) 0 0 16))) (J' := J) (S' := S) am_e50 rfl rfl rfl rfl ?_
  refine w_st (i' := 25) (ls' := [.ref 20, .ref 61]) (st' := [.ref 23, .int (nI 0), .ref 64]) (E' := E) (I' := (u_I (u_I I 21 (va_cpy (I 62) (I 21) 0 0 16)) 22 (va_cpy (I 63) (I 22) 0 0 16))) (J' := J) (S' := S) am_e50 rfl rfl rfl rfl ?_
  refine w_st (i' := 26) (ls' := [.ref 20, .ref 61]) (st' := [.int (nI 0), .ref 23, .int (nI 0), .ref 64]) (E' := E) (I' := (u_I (u_I I 21 (va_cpy (I 62) (I 21) 0 0 16)) 22 (va_cpy (I 63) (I 22) 0 0 16))) (J' := J) (S' := S) am_e50 rfl rfl rfl rfl ?_
  refine w_st (i' := 27) (ls' := [.ref 20, .ref 61]) (st' := [.ref 20, .int (nI 0), .ref 23, .int (nI 0), .ref 64]) (E' := E) (I' := (u_I (u_I I 21 (va_cpy (I 62) (I 21) 0 0 16)) 22 (va_cpy (I 63) (I 22) 0 0 16))) (J' := J) (S' := S) am_e50 rfl rfl rfl rfl ?_
  refine w_st (i' := 28) (ls' := [.ref 20, .ref 61]) (st' := [.ref 23, .int (nI 0), .ref 23, .int (nI 0), .ref 64]) (E' := E) (I' := (u_I (u_I I 21 (va_cpy (I 62) (I 21) 0 0 16)) 22 (va_cpy (I 63) (I 22) 0 0 16))) (J' := J) (S' := S) am_e50 rfl rfl rfl rfl ?_
  refine w_st (i' := 29) (ls' := [.ref 20, .ref 61]) (st' := [.int (nI 4), .int (nI 0), .ref 23, .int (nI 0), .ref 64]) (E' := E) (I' := (u_I (u_I I 21 (va_cpy (I 62) (I 21) 0 0 16)) 22 (va_cpy (I 63) (I 22) 0 0 16))) (J' := J) (S' := S) am_e50 rfl rfl rfl rfl ?_
  refine w_cp (k := 64) (a := 23) (nk := 4) (na := 4) am_e50 rfl (by decide) (by decide) rfl rfl (by decide) (by unfold am_cpOk; decide) ?_
  show am_ww 50 30 [.ref 20, .ref 61] [] E (u_I (u_I (u_I I 21 (va_cpy (I 62) (I 21) 0 0 16)) 22 (va_cpy (I 63) (I 22) 0 0 16)) 23 (va_cpy (I 64) (I 23) 0 0 4)) J S _
  refine w_st (i' := 31) (ls' := [.ref 20, .ref 61]) (st' := [.ref 61]) (E' := E) (I' := (u_I (u_I (u_I I 21 (va_cpy (I 62) (I 21) 0 0 16)) 22 (va_cpy (I 63) (I 22) 0 0 16)) 23 (va_cpy (I 64) (I 23) 0 0 4))) (J' := J) (S' := S) am_e50 rfl rfl rfl rfl ?_
  refine w_st (i' := 32) (ls' := [.ref 20, .ref 61]) (st' := [.ref 65]) (E' := E) (I' := (u_I (u_I (u_I I 21 (va_cpy (I 62) (I 21) 0 0 16)) 22 (va_cpy (I 63) (I 22) 0 0 16)) 23 (va_cpy (I 64) (I 23) 0 0 4))) (J' := J) (S' := S) am_e50 rfl rfl rfl rfl ?_
  refine w_st (i' := 33) (ls' := [.ref 20, .ref 61]) (st' := [.int (nI 0), .ref 65]) (E' := E) (I' := (u_I (u_I (u_I I 21 (va_cpy (I 62) (I 21) 0 0 16)) 22 (va_cpy (I 63) (I 22) 0 0 16)) 23 (va_cpy (I 64) (I 23) 0 0 4))) (J' := J) (S' := S) am_e50 rfl rfl rfl rfl ?_
  refine w_st (i' := 34) (ls' := [.ref 20, .ref 61]) (st' := [.ref 20, .int (nI 0), .ref 65]) (E' := E) (I' := (u_I (u_I (u_I I 21 (va_cpy (I 62) (I 21) 0 0 16)) 22 (va_cpy (I 63) (I 22) 0 0 16)) 23 (va_cpy (I 64) (I 23) 0 0 4))) (J' := J) (S' := S) am_e50 rfl rfl rfl rfl ?_
  refine w_st (i' := 35) (ls' := [.ref 20, .ref 61]) (st' := [.ref 24, .int (nI 0), .ref 65]) (E' := E) (I' := (u_I (u_I (u_I I 21 (va_cpy (I 62) (I 21) 0 0 16)) 22 (va_cpy (I 63) (I 22) 0 0 16)) 23 (va_cpy (I 64) (I 23) 0 0 4))) (J' := J) (S' := S) am_e50 rfl rfl rfl rfl ?_
  refine w_st (i' := 36) (ls' := [.ref 20, .ref 61]) (st' := [.int (nI 0), .ref 24, .int (nI 0), .ref 65]) (E' := E) (I' := (u_I (u_I (u_I I 21 (va_cpy (I 62) (I 21) 0 0 16)) 22 (va_cpy (I 63) (I 22) 0 0 16)) 23 (va_cpy (I 64) (I 23) 0 0 4))) (J' := J) (S' := S) am_e50 rfl rfl rfl rfl ?_
  refine w_st (i' := 37) (ls' := [.ref 20, .ref 61]) (st' := [.ref 20, .int (nI 0), .ref 24, .int (nI 0), .ref 65]) (E' := E) (I' := (u_I (u_I (u_I I 21 (va_cpy (I 62) (I 21) 0 0 16)) 22 (va_cpy (I 63) (I 22) 0 0 16)) 23 (va_cpy (I 64) (I 23) 0 0 4))) (J' := J) (S' := S) am_e50 rfl rfl rfl rfl ?_
  refine w_st (i' := 38) (ls' := [.ref 20, .ref 61]) (st' := [.ref 24, .int (nI 0), .ref 24, .int (nI 0), .ref 65]) (E' := E) (I' := (u_I (u_I (u_I I 21 (va_cpy (I 62) (I 21) 0 0 16)) 22 (va_cpy (I 63) (I 22) 0 0 16)) 23 (va_cpy (I 64) (I 23) 0 0 4))) (J' := J) (S' := S) am_e50 rfl rfl rfl rfl ?_
  refine w_st (i' := 39) (ls' := [.ref 20, .ref 61]) (st' := [.int (nI 4), .int (nI 0), .ref 24, .int (nI 0), .ref 65]) (E' := E) (I' := (u_I (u_I (u_I I 21 (va_cpy (I 62) (I 21) 0 0 16)) 22 (va_cpy (I 63) (I 22) 0 0 16)) 23 (va_cpy (I 64) (I 23) 0 0 4))) (J' := J) (S' := S) am_e50 rfl rfl rfl rfl ?_
  refine w_cp (k := 65) (a := 24) (nk := 4) (na := 4) am_e50 rfl (by decide) (by decide) rfl rfl (by decide) (by unfold am_cpOk; decide) ?_
  show am_ww 50 40 [.ref 20, .ref 61] [] E (u_I (u_I (u_I (u_I I 21 (va_cpy (I 62) (I 21) 0 0 16)) 22 (va_cpy (I 63) (I 22) 0 0 16)) 23 (va_cpy (I 64) (I 23) 0 0 4)) 24 (va_cpy (I 65) (I 24) 0 0 4)) J S _
  refine w_st (i' := 41) (ls' := [.ref 20, .ref 61]) (st' := [.ref 61]) (E' := E) (I' := (u_I (u_I (u_I (u_I I 21 (va_cpy (I 62) (I 21) 0 0 16)) 22 (va_cpy (I 63) (I 22) 0 0 16)) 23 (va_cpy (I 64) (I 23) 0 0 4)) 24 (va_cpy (I 65) (I 24) 0 0 4))) (J' := J) (S' := S) am_e50 rfl rfl rfl rfl ?_
  refine w_st (i' := 42) (ls' := [.ref 20, .ref 61]) (st' := [.ref 66]) (E' := E) (I' := (u_I (u_I (u_I (u_I I 21 (va_cpy (I 62) (I 21) 0 0 16)) 22 (va_cpy (I 63) (I 22) 0 0 16)) 23 (va_cpy (I 64) (I 23) 0 0 4)) 24 (va_cpy (I 65) (I 24) 0 0 4))) (J' := J) (S' := S) am_e50 rfl rfl rfl rfl ?_
  refine w_st (i' := 43) (ls' := [.ref 20, .ref 61]) (st' := [.int (nI 0), .ref 66]) (E' := E) (I' := (u_I (u_I (u_I (u_I I 21 (va_cpy (I 62) (I 21) 0 0 16)) 22 (va_cpy (I 63) (I 22) 0 0 16)) 23 (va_cpy (I 64) (I 23) 0 0 4)) 24 (va_cpy (I 65) (I 24) 0 0 4))) (J' := J) (S' := S) am_e50 rfl rfl rfl rfl ?_
  refine w_st (i' := 44) (ls' := [.ref 20, .ref 61]) (st' := [.ref 20, .int (nI 0), .ref 66]) (E' := E) (I' := (u_I (u_I (u_I (u_I I 21 (va_cpy (I 62) (I 21) 0 0 16)) 22 (va_cpy (I 63) (I 22) 0 0 16)) 23 (va_cpy (I 64) (I 23) 0 0 4)) 24 (va_cpy (I 65) (I 24) 0 0 4))) (J' := J) (S' := S) am_e50 rfl rfl rfl rfl ?_
  refine w_st (i' := 45) (ls' := [.ref 20, .ref 61]) (st' := [.ref 25, .int (nI 0), .ref 66]) (E' := E) (I' := (u_I (u_I (u_I (u_I I 21 (va_cpy (I 62) (I 21) 0 0 16)) 22 (va_cpy (I 63) (I 22) 0 0 16)) 23 (va_cpy (I 64) (I 23) 0 0 4)) 24 (va_cpy (I 65) (I 24) 0 0 4))) (J' := J) (S' := S) am_e50 rfl rfl rfl rfl ?_
  refine w_st (i' := 46) (ls' := [.ref 20, .ref 61]) (st' := [.int (nI 0), .ref 25, .int (nI 0), .ref 66]) (E' := E) (I' := (u_I (u_I (u_I (u_I I 21 (va_cpy (I 62) (I 21) 0 0 16)) 22 (va_cpy (I 63) (I 22) 0 0 16)) 23 (va_cpy (I 64) (I 23) 0 0 4)) 24 (va_cpy (I 65) (I 24) 0 0 4))) (J' := J) (S' := S) am_e50 rfl rfl rfl rfl ?_
  refine w_st (i' := 47) (ls' := [.ref 20, .ref 61]) (st' := [.ref 20, .int (nI 0), .ref 25, .int (nI 0), .ref 66]) (E' := E) (I' := (u_I (u_I (u_I (u_I I 21 (va_cpy (I 62) (I 21) 0 0 16)) 22 (va_cpy (I 63) (I 22) 0 0 16)) 23 (va_cpy (I 64) (I 23) 0 0 4)) 24 (va_cpy (I 65) (I 24) 0 0 4))) (J' := J) (S' := S) am_e50 rfl rfl rfl rfl ?_
  refine w_st (i' := 48) (ls' := [.ref 20, .ref 61]) (st' := [.ref 25, .int (nI 0), .ref 25, .int (nI 0), .ref 66]) (E' := E) (I' := (u_I (u_I (u_I (u_I I 21 (va_cpy (I 62) (I 21) 0 0 16)) 22 (va_cpy (I 63) (I 22) 0 0 16)) 23 (va_cpy (I 64) (I 23) 0 0 4)) 24 (va_cpy (I 65) (I 24) 0 0 4))) (J' := J) (S' := S) am_e50 rfl rfl rfl rfl ?_
  refine w_st (i' := 49) (ls' := [.ref 20, .ref 61]) (st' := [.int (nI 4), .int (nI 0), .ref 25, .int (nI 0), .ref 66]) (E' := E) (I' := (u_I (u_I (u_I (u_I I 21 (va_cpy (I 62) (I 21) 0 0 16)) 22 (va_cpy (I 63) (I 22) 0 0 16)) 23 (va_cpy (I 64) (I 23) 0 0 4)) 24 (va_cpy (I 65) (I 24) 0 0 4))) (J' := J) (S' := S) am_e50 rfl rfl rfl rfl ?_
  refine w_cp (k := 66) (a := 25) (nk := 4) (na := 4) am_e50 rfl (by decide) (by decide) rfl rfl (by decide) (by unfold am_cpOk; decide) ?_
  show am_ww 50 50 [.ref 20, .ref 61] [] E (u_I (u_I (u_I (u_I (u_I I 21 (va_cpy (I 62) (I 21) 0 0 16)) 22 (va_cpy (I 63) (I 22) 0 0 16)) 23 (va_cpy (I 64) (I 23) 0 0 4)) 24 (va_cpy (I 65) (I 24) 0 0 4)) 25 (va_cpy (I 66) (I 25) 0 0 4)) J S _
  refine w_st (i' := 51) (ls' := [.ref 20, .ref 61]) (st' := [.ref 61]) (E' := E) (I' := (u_I (u_I (u_I (u_I (u_I I 21 (va_cpy (I 62) (I 21) 0 0 16)) 22 (va_cpy (I 63) (I 22) 0 0 16)) 23 (va_cpy (I 64) (I 23) 0 0 4)) 24 (va_cpy (I 65) (I 24) 0 0 4)) 25 (va_cpy (I 66) (I 25) 0 0 4))) (J' := J) (S' := S) am_e50 rfl rfl rfl rfl ?_
  refine w_st (i' := 52) (ls' := [.ref 20, .ref 61]) (st' := [.ref 67]) (E' := E) (I' := (u_I (u_I (u_I (u_I (u_I I 21 (va_cpy (I 62) (I 21) 0 0 16)) 22 (va_cpy (I 63) (I 22) 0 0 16)) 23 (va_cpy (I 64) (I 23) 0 0 4)) 24 (va_cpy (I 65) (I 24) 0 0 4)) 25 (va_cpy (I 66) (I 25) 0 0 4))) (J' := J) (S' := S) am_e50 rfl rfl rfl rfl ?_
  refine w_st (i' := 53) (ls' := [.ref 20, .ref 61]) (st' := [.int (nI 0), .ref 67]) (E' := E) (I' := (u_I (u_I (u_I (u_I (u_I I 21 (va_cpy (I 62) (I 21) 0 0 16)) 22 (va_cpy (I 63) (I 22) 0 0 16)) 23 (va_cpy (I 64) (I 23) 0 0 4)) 24 (va_cpy (I 65) (I 24) 0 0 4)) 25 (va_cpy (I 66) (I 25) 0 0 4))) (J' := J) (S' := S) am_e50 rfl rfl rfl rfl ?_
  refine w_st (i' := 54) (ls' := [.ref 20, .ref 61]) (st' := [.ref 20, .int (nI 0), .ref 67]) (E' := E) (I' := (u_I (u_I (u_I (u_I (u_I I 21 (va_cpy (I 62) (I 21) 0 0 16)) 22 (va_cpy (I 63) (I 22) 0 0 16)) 23 (va_cpy (I 64) (I 23) 0 0 4)) 24 (va_cpy (I 65) (I 24) 0 0 4)) 25 (va_cpy (I 66) (I 25) 0 0 4))) (J' := J) (S' := S) am_e50 rfl rfl rfl rfl ?_
  refine w_st (i' := 55) (ls' := [.ref 20, .ref 61]) (st' := [.ref 26, .int (nI 0), .ref 67]) (E' := E) (I' := (u_I (u_I (u_I (u_I (u_I I 21 (va_cpy (I 62) (I 21) 0 0 16)) 22 (va_cpy (I 63) (I 22) 0 0 16)) 23 (va_cpy (I 64) (I 23) 0 0 4)) 24 (va_cpy (I 65) (I 24) 0 0 4)) 25 (va_cpy (I 66) (I 25) 0 0 4))) (J' := J) (S' := S) am_e50 rfl rfl rfl rfl ?_
  refine w_st (i' := 56) (ls' := [.ref 20, .ref 61]) (st' := [.int (nI 0), .ref 26, .int (nI 0), .ref 67]) (E' := E) (I' := (u_I (u_I (u_I (u_I (u_I I 21 (va_cpy (I 62) (I 21) 0 0 16)) 22 (va_cpy (I 63) (I 22) 0 0 16)) 23 (va_cpy (I 64) (I 23) 0 0 4)) 24 (va_cpy (I 65) (I 24) 0 0 4)) 25 (va_cpy (I 66) (I 25) 0 0 4))) (J' := J) (S' := S) am_e50 rfl rfl rfl rfl ?_
  refine w_st (i' := 57) (ls' := [.ref 20, .ref 61]) (st' := [.ref 20, .int (nI 0), .ref 26, .int (nI 0), .ref 67]) (E' := E) (I' := (u_I (u_I (u_I (u_I (u_I I 21 (va_cpy (I 62) (I 21) 0 0 16)) 22 (va_cpy (I 63) (I 22) 0 0 16)) 23 (va_cpy (I 64) (I 23) 0 0 4)) 24 (va_cpy (I 65) (I 24) 0 0 4)) 25 (va_cpy (I 66) (I 25) 0 0 4))) (J' := J) (S' := S) am_e50 rfl rfl rfl rfl ?_
  refine w_st (i' := 58) (ls' := [.ref 20, .ref 61]) (st' := [.ref 26, .int (nI 0), .ref 26, .int (nI 0), .ref 67]) (E' := E) (I' := (u_I (u_I (u_I (u_I (u_I I 21 (va_cpy (I 62) (I 21) 0 0 16)) 22 (va_cpy (I 63) (I 22) 0 0 16)) 23 (va_cpy (I 64) (I 23) 0 0 4)) 24 (va_cpy (I 65) (I 24) 0 0 4)) 25 (va_cpy (I 66) (I 25) 0 0 4))) (J' := J) (S' := S) am_e50 rfl rfl rfl rfl ?_
  refine w_st (i' := 59) (ls' := [.ref 20, .ref 61]) (st' := [.int (nI 3), .int (nI 0), .ref 26, .int (nI 0), .ref 67]) (E' := E) (I' := (u_I (u_I (u_I (u_I (u_I I 21 (va_cpy (I 62) (I 21) 0 0 16)) 22 (va_cpy (I 63) (I 22) 0 0 16)) 23 (va_cpy (I 64) (I 23) 0 0 4)) 24 (va_cpy (I 65) (I 24) 0 0 4)) 25 (va_cpy (I 66) (I 25) 0 0 4))) (J' := J) (S' := S) am_e50 rfl rfl rfl rfl ?_
  refine w_cp (k := 67) (a := 26) (nk := 3) (na := 3) am_e50 rfl (by decide) (by decide) rfl rfl (by decide) (by unfold am_cpOk; decide) ?_
  show am_ww 50 60 [.ref 20, .ref 61] [] E (u_I (u_I (u_I (u_I (u_I (u_I I 21 (va_cpy (I 62) (I 21) 0 0 16)) 22 (va_cpy (I 63) (I 22) 0 0 16)) 23 (va_cpy (I 64) (I 23) 0 0 4)) 24 (va_cpy (I 65) (I 24) 0 0 4)) 25 (va_cpy (I 66) (I 25) 0 0 4)) 26 (va_cpy (I 67) (I 26) 0 0 3)) J S _
  refine w_st (i' := 61) (ls' := [.ref 20, .ref 61]) (st' := [.ref 20]) (E' := E) (I' := (u_I (u_I (u_I (u_I (u_I (u_I I 21 (va_cpy (I 62) (I 21) 0 0 16)) 22 (va_cpy (I 63) (I 22) 0 0 16)) 23 (va_cpy (I 64) (I 23) 0 0 4)) 24 (va_cpy (I 65) (I 24) 0 0 4)) 25 (va_cpy (I 66) (I 25) 0 0 4)) 26 (va_cpy (I 67) (I 26) 0 0 3))) (J' := J) (S' := S) am_e50 rfl rfl rfl rfl ?_
  refine w_st (i' := 62) (ls' := [.ref 20, .ref 61]) (st' := [.ref 61, .ref 20]) (E' := E) (I' := (u_I (u_I (u_I (u_I (u_I (u_I I 21 (va_cpy (I 62) (I 21) 0 0 16)) 22 (va_cpy (I 63) (I 22) 0 0 16)) 23 (va_cpy (I 64) (I 23) 0 0 4)) 24 (va_cpy (I 65) (I 24) 0 0 4)) 25 (va_cpy (I 66) (I 25) 0 0 4)) 26 (va_cpy (I 67) (I 26) 0 0 3))) (J' := J) (S' := S) am_e50 rfl rfl rfl rfl ?_
  refine w_st (i' := 63) (ls' := [.ref 20, .ref 61]) (st' := [.int ((I 61) 6), .ref 20]) (E' := E) (I' := (u_I (u_I (u_I (u_I (u_I (u_I I 21 (va_cpy (I 62) (I 21) 0 0 16)) 22 (va_cpy (I 63) (I 22) 0 0 16)) 23 (va_cpy (I 64) (I 23) 0 0 4)) 24 (va_cpy (I 65) (I 24) 0 0 4)) 25 (va_cpy (I 66) (I 25) 0 0 4)) 26 (va_cpy (I 67) (I 26) 0 0 3))) (J' := J) (S' := S) am_e50 rfl rfl rfl rfl ?_
  refine w_st (i' := 64) (ls' := [.ref 20, .ref 61]) (st' := []) (E' := E) (I' := (u_I (u_I (u_I (u_I (u_I (u_I (u_I I 21 (va_cpy (I 62) (I 21) 0 0 16)) 22 (va_cpy (I 63) (I 22) 0 0 16)) 23 (va_cpy (I 64) (I 23) 0 0 4)) 24 (va_cpy (I 65) (I 24) 0 0 4)) 25 (va_cpy (I 66) (I 25) 0 0 4)) 26 (va_cpy (I 67) (I 26) 0 0 3)) 20 (upd (I 20) 6 ((I 61) 6)))) (J' := J) (S' := S) am_e50 rfl rfl rfl rfl ?_
  exact w_end am_e50 rfl rfl rfl h
-- 50 copy
theorem g50_0_20_41  {E : am_Ev} {I : Nat → Nat → Int32} {J : Nat → Nat → Int64} {S : Nat → Nat → Option Nat} {Q : am_Qt}  (h : Q (.inl none) E (u_I (u_I (u_I (u_I (u_I (u_I (u_I I 21 (va_cpy (I 42) (I 21) 0 0 16)) 22 (va_cpy (I 43) (I 22) 0 0 16)) 23 (va_cpy (I 44) (I 23) 0 0 4)) 24 (va_cpy (I 45) (I 24) 0 0 4)) 25 (va_cpy (I 46) (I 25) 0 0 4)) 26 (va_cpy (I 47) (I 26) 0 0 3)) 20 (upd (I 20) 6 ((I 41) 6))) J S) : am_ww 50 0 [.ref 20, .ref 41] [] E I J S Q := by
  refine w_st (i' := 1) (ls' := [.ref 20, .ref 41]) (st' := [.ref 41]) (E' := E) (I' := I) (J' := J) (S' := S) am_e50 rfl rfl rfl rfl ?_
  refine w_st (i' := 2) (ls' := [.ref 20, .ref 41]) (st' := [.ref 42]) (E' := E) (I' := I) (J' := J) (S' := S) am_e50 rfl rfl rfl rfl ?_
  refine w_st (i' := 3) (ls' := [.ref 20, .ref 41]) (st' := [.int (nI 0), .ref 42]) (E' := E) (I' := I) (J' := J) (S' := S) am_e50 rfl rfl rfl rfl ?_
  refine w_st (i' := 4) (ls' := [.ref 20, .ref 41]) (st' := [.ref 20, .int (nI 0), .ref 42]) (E' := E) (I' := I) (J' := J) (S' := S) am_e50 rfl rfl rfl rfl ?_
  refine w_st (i' := 5) (ls' := [.ref 20, .ref 41]) (st' := [.ref 21, .int (nI 0), .ref 42]) (E' := E) (I' := I) (J' := J) (S' := S) am_e50 rfl rfl rfl rfl ?_
  refine w_st (i' := 6) (ls' := [.ref 20, .ref 41]) (st' := [.int (nI 0), .ref 21, .int (nI 0), .ref 42]) (E' := E) (I' := I) (J' := J) (S' := S) am_e50 rfl rfl rfl rfl ?_
  refine w_st (i' := 7) (ls' := [.ref 20, .ref 41]) (st' := [.ref 20, .int (nI 0), .ref 21, .int (nI 0), .ref 42]) (E' := E) (I' := I) (J' := J) (S' := S) am_e50 rfl rfl rfl rfl ?_
  refine w_st (i' := 8) (ls' := [.ref 20, .ref 41]) (st' := [.ref 21, .int (nI 0), .ref 21, .int (nI 0), .ref 42]) (E' := E) (I' := I) (J' := J) (S' := S) am_e50 rfl rfl rfl rfl ?_
  refine w_st (i' := 9) (ls' := [.ref 20, .ref 41]) (st' := [.int (nI 16), .int (nI 0), .ref 21, .int (nI 0), .ref 42]) (E' := E) (I' := I) (J' := J) (S' := S) am_e50 rfl rfl rfl rfl ?_
  refine w_cp (k := 42) (a := 21) (nk := 16) (na := 16) am_e50 rfl (by decide) (by decide) rfl rfl (by decide) (by unfold am_cpOk; decide) ?_
  show am_ww 50 10 [.ref 20, .ref 41] [] E (u_I I 21 (va_cpy (I 42) (I 21) 0 0 16)) J S _
  refine w_st (i' := 11) (ls' := [.ref 20, .ref 41]) (st' := [.ref 41]) (E' := E) (I' := (u_I I 21 (va_cpy (I 42) (I 21) 0 0 16))) (J' := J) (S' := S) am_e50 rfl rfl rfl rfl ?_
  refine w_st (i' := 12) (ls' := [.ref 20, .ref 41]) (st' := [.ref 43]) (E' := E) (I' := (u_I I 21 (va_cpy (I 42) (I 21) 0 0 16))) (J' := J) (S' := S) am_e50 rfl rfl rfl rfl ?_
  refine w_st (i' := 13) (ls' := [.ref 20, .ref 41]) (st' := [.int (nI 0), .ref 43]) (E' := E) (I' := (u_I I 21 (va_cpy (I 42) (I 21) 0 0 16))) (J' := J) (S' := S) am_e50 rfl rfl rfl rfl ?_
  refine w_st (i' := 14) (ls' := [.ref 20, .ref 41]) (st' := [.ref 20, .int (nI 0), .ref 43]) (E' := E) (I' := (u_I I 21 (va_cpy (I 42) (I 21) 0 0 16))) (J' := J) (S' := S) am_e50 rfl rfl rfl rfl ?_
  refine w_st (i' := 15) (ls' := [.ref 20, .ref 41]) (st' := [.ref 22, .int (nI 0), .ref 43]) (E' := E) (I' := (u_I I 21 (va_cpy (I 42) (I 21) 0 0 16))) (J' := J) (S' := S) am_e50 rfl rfl rfl rfl ?_
  refine w_st (i' := 16) (ls' := [.ref 20, .ref 41]) (st' := [.int (nI 0), .ref 22, .int (nI 0), .ref 43]) (E' := E) (I' := (u_I I 21 (va_cpy (I 42) (I 21) 0 0 16))) (J' := J) (S' := S) am_e50 rfl rfl rfl rfl ?_
  refine w_st (i' := 17) (ls' := [.ref 20, .ref 41]) (st' := [.ref 20, .int (nI 0), .ref 22, .int (nI 0), .ref 43]) (E' := E) (I' := (u_I I 21 (va_cpy (I 42) (I 21) 0 0 16))) (J' := J) (S' := S) am_e50 rfl rfl rfl rfl ?_
  refine w_st (i' := 18) (ls' := [.ref 20, .ref 41]) (st' := [.ref 22, .int (nI 0), .ref 22, .int (nI 0), .ref 43]) (E' := E) (I' := (u_I I 21 (va_cpy (I 42) (I 21) 0 0 16))) (J' := J) (S' := S) am_e50 rfl rfl rfl rfl ?_
  refine w_st (i' := 19) (ls' := [.ref 20, .ref 41]) (st' := [.int (nI 16), .int (nI 0), .ref 22, .int (nI 0), .ref 43]) (E' := E) (I' := (u_I I 21 (va_cpy (I 42) (I 21) 0 0 16))) (J' := J) (S' := S) am_e50 rfl rfl rfl rfl ?_
  refine w_cp (k := 43) (a := 22) (nk := 16) (na := 16) am_e50 rfl (by decide) (by decide) rfl rfl (by decide) (by unfold am_cpOk; decide) ?_
  show am_ww 50 20 [.ref 20, .ref 41] [] E (u_I (u_I I 21 (va_cpy (I 42) (I 21) 0 0 16)) 22 (va_cpy (I 43) (I 22) 0 0 16)) J S _
  refine w_st (i' := 21) (ls' := [.ref 20, .ref 41]) (st' := [.ref 41]) (E' := E) (I' := (u_I (u_I I 21 (va_cpy (I 42) (I 21) 0 0 16)) 22 (va_cpy (I 43) (I 22) 0 0 16))) (J' := J) (S' := S) am_e50 rfl rfl rfl rfl ?_
  refine w_st (i' := 22) (ls' := [.ref 20, .ref 41]) (st' := [.ref 44]) (E' := E) (I' := (u_I (u_I I 21 (va_cpy (I 42) (I 21) 0 0 16)) 22 (va_cpy (I 43) (I 22) 0 0 16))) (J' := J) (S' := S) am_e50 rfl rfl rfl rfl ?_
  refine w_st (i' := 23) (ls' := [.ref 20, .ref 41]) (st' := [.int (nI 0), .ref 44]) (E' := E) (I' := (u_I (u_I I 21 (va_cpy (I 42) (I 21) 0 0 16)) 22 (va_cpy (I 43) (I 22) 0 0 16))) (J' := J) (S' := S) am_e50 rfl rfl rfl rfl ?_
  refine w_st (i' := 24) (ls' := [.ref 20, .ref 41]) (st' := [.ref 20, .int (nI 0), .ref 44]) (E' := E) (I' := (u_I (u_I I 21 (va_cpy (I 42) (I 21) 0 0 16)) 22 (va_cpy (I 43) (I 22) 0 0 16))) (J' := J) (S' := S) am_e50 rfl rfl rfl rfl ?_
  refine w_st (i' := 25) (ls' := [.ref 20, .ref 41]) (st' := [.ref 23, .int (nI 0), .ref 44]) (E' := E) (I' := (u_I (u_I I 21 (va_cpy (I 42) (I 21) 0 0 16)) 22 (va_cpy (I 43) (I 22) 0 0 16))) (J' := J) (S' := S) am_e50 rfl rfl rfl rfl ?_
  refine w_st (i' := 26) (ls' := [.ref 20, .ref 41]) (st' := [.int (nI 0), .ref 23, .int (nI 0), .ref 44]) (E' := E) (I' := (u_I (u_I I 21 (va_cpy (I 42) (I 21) 0 0 16)) 22 (va_cpy (I 43) (I 22) 0 0 16))) (J' := J) (S' := S) am_e50 rfl rfl rfl rfl ?_
  refine w_st (i' := 27) (ls' := [.ref 20, .ref 41]) (st' := [.ref 20, .int (nI 0), .ref 23, .int (nI 0), .ref 44]) (E' := E) (I' := (u_I (u_I I 21 (va_cpy (I 42) (I 21) 0 0 16)) 22 (va_cpy (I 43) (I 22) 0 0 16))) (J' := J) (S' := S) am_e50 rfl rfl rfl rfl ?_
  refine w_st (i' := 28) (ls' := [.ref 20, .ref 41]) (st' := [.ref 23, .int (nI 0), .ref 23, .int (nI 0), .ref 44]) (E' := E) (I' := (u_I (u_I I 21 (va_cpy (I 42) (I 21) 0 0 16)) 22 (va_cpy (I 43) (I 22) 0 0 16))) (J' := J) (S' := S) am_e50 rfl rfl rfl rfl ?_
  refine w_st (i' := 29) (ls' := [.ref 20, .ref 41]) (st' := [.int (nI 4), .int (nI 0), .ref 23, .int (nI 0), .ref 44]) (E' := E) (I' := (u_I (u_I I 21 (va_cpy (I 42) (I 21) 0 0 16)) 22 (va_cpy (I 43) (I 22) 0 0 16))) (J' := J) (S' := S) am_e50 rfl rfl rfl rfl ?_
  refine w_cp (k := 44) (a := 23) (nk := 4) (na := 4) am_e50 rfl (by decide) (by decide) rfl rfl (by decide) (by unfold am_cpOk; decide) ?_
  show am_ww 50 30 [.ref 20, .ref 41] [] E (u_I (u_I (u_I I 21 (va_cpy (I 42) (I 21) 0 0 16)) 22 (va_cpy (I 43) (I 22) 0 0 16)) 23 (va_cpy (I 44) (I 23) 0 0 4)) J S _
  refine w_st (i' := 31) (ls' := [.ref 20, .ref 41]) (st' := [.ref 41]) (E' := E) (I' := (u_I (u_I (u_I I 21 (va_cpy (I 42) (I 21) 0 0 16)) 22 (va_cpy (I 43) (I 22) 0 0 16)) 23 (va_cpy (I 44) (I 23) 0 0 4))) (J' := J) (S' := S) am_e50 rfl rfl rfl rfl ?_
  refine w_st (i' := 32) (ls' := [.ref 20, .ref 41]) (st' := [.ref 45]) (E' := E) (I' := (u_I (u_I (u_I I 21 (va_cpy (I 42) (I 21) 0 0 16)) 22 (va_cpy (I 43) (I 22) 0 0 16)) 23 (va_cpy (I 44) (I 23) 0 0 4))) (J' := J) (S' := S) am_e50 rfl rfl rfl rfl ?_
  refine w_st (i' := 33) (ls' := [.ref 20, .ref 41]) (st' := [.int (nI 0), .ref 45]) (E' := E) (I' := (u_I (u_I (u_I I 21 (va_cpy (I 42) (I 21) 0 0 16)) 22 (va_cpy (I 43) (I 22) 0 0 16)) 23 (va_cpy (I 44) (I 23) 0 0 4))) (J' := J) (S' := S) am_e50 rfl rfl rfl rfl ?_
  refine w_st (i' := 34) (ls' := [.ref 20, .ref 41]) (st' := [.ref 20, .int (nI 0), .ref 45]) (E' := E) (I' := (u_I (u_I (u_I I 21 (va_cpy (I 42) (I 21) 0 0 16)) 22 (va_cpy (I 43) (I 22) 0 0 16)) 23 (va_cpy (I 44) (I 23) 0 0 4))) (J' := J) (S' := S) am_e50 rfl rfl rfl rfl ?_
  refine w_st (i' := 35) (ls' := [.ref 20, .ref 41]) (st' := [.ref 24, .int (nI 0), .ref 45]) (E' := E) (I' := (u_I (u_I (u_I I 21 (va_cpy (I 42) (I 21) 0 0 16)) 22 (va_cpy (I 43) (I 22) 0 0 16)) 23 (va_cpy (I 44) (I 23) 0 0 4))) (J' := J) (S' := S) am_e50 rfl rfl rfl rfl ?_
  refine w_st (i' := 36) (ls' := [.ref 20, .ref 41]) (st' := [.int (nI 0), .ref 24, .int (nI 0), .ref 45]) (E' := E) (I' := (u_I (u_I (u_I I 21 (va_cpy (I 42) (I 21) 0 0 16)) 22 (va_cpy (I 43) (I 22) 0 0 16)) 23 (va_cpy (I 44) (I 23) 0 0 4))) (J' := J) (S' := S) am_e50 rfl rfl rfl rfl ?_
  refine w_st (i' := 37) (ls' := [.ref 20, .ref 41]) (st' := [.ref 20, .int (nI 0), .ref 24, .int (nI 0), .ref 45]) (E' := E) (I' := (u_I (u_I (u_I I 21 (va_cpy (I 42) (I 21) 0 0 16)) 22 (va_cpy (I 43) (I 22) 0 0 16)) 23 (va_cpy (I 44) (I 23) 0 0 4))) (J' := J) (S' := S) am_e50 rfl rfl rfl rfl ?_
  refine w_st (i' := 38) (ls' := [.ref 20, .ref 41]) (st' := [.ref 24, .int (nI 0), .ref 24, .int (nI 0), .ref 45]) (E' := E) (I' := (u_I (u_I (u_I I 21 (va_cpy (I 42) (I 21) 0 0 16)) 22 (va_cpy (I 43) (I 22) 0 0 16)) 23 (va_cpy (I 44) (I 23) 0 0 4))) (J' := J) (S' := S) am_e50 rfl rfl rfl rfl ?_
  refine w_st (i' := 39) (ls' := [.ref 20, .ref 41]) (st' := [.int (nI 4), .int (nI 0), .ref 24, .int (nI 0), .ref 45]) (E' := E) (I' := (u_I (u_I (u_I I 21 (va_cpy (I 42) (I 21) 0 0 16)) 22 (va_cpy (I 43) (I 22) 0 0 16)) 23 (va_cpy (I 44) (I 23) 0 0 4))) (J' := J) (S' := S) am_e50 rfl rfl rfl rfl ?_
  refine w_cp (k := 45) (a := 24) (nk := 4) (na := 4) am_e50 rfl (by decide) (by decide) rfl rfl (by decide) (by unfold am_cpOk; decide) ?_
  show am_ww 50 40 [.ref 20, .ref 41] [] E (u_I (u_I (u_I (u_I I 21 (va_cpy (I 42) (I 21) 0 0 16)) 22 (va_cpy (I 43) (I 22) 0 0 16)) 23 (va_cpy (I 44) (I 23) 0 0 4)) 24 (va_cpy (I 45) (I 24) 0 0 4)) J S _
  refine w_st (i' := 41) (ls' := [.ref 20, .ref 41]) (st' := [.ref 41]) (E' := E) (I' := (u_I (u_I (u_I (u_I I 21 (va_cpy (I 42) (I 21) 0 0 16)) 22 (va_cpy (I 43) (I 22) 0 0 16)) 23 (va_cpy (I 44) (I 23) 0 0 4)) 24 (va_cpy (I 45) (I 24) 0 0 4))) (J' := J) (S' := S) am_e50 rfl rfl rfl rfl ?_
  refine w_st (i' := 42) (ls' := [.ref 20, .ref 41]) (st' := [.ref 46]) (E' := E) (I' := (u_I (u_I (u_I (u_I I 21 (va_cpy (I 42) (I 21) 0 0 16)) 22 (va_cpy (I 43) (I 22) 0 0 16)) 23 (va_cpy (I 44) (I 23) 0 0 4)) 24 (va_cpy (I 45) (I 24) 0 0 4))) (J' := J) (S' := S) am_e50 rfl rfl rfl rfl ?_
  refine w_st (i' := 43) (ls' := [.ref 20, .ref 41]) (st' := [.int (nI 0), .ref 46]) (E' := E) (I' := (u_I (u_I (u_I (u_I I 21 (va_cpy (I 42) (I 21) 0 0 16)) 22 (va_cpy (I 43) (I 22) 0 0 16)) 23 (va_cpy (I 44) (I 23) 0 0 4)) 24 (va_cpy (I 45) (I 24) 0 0 4))) (J' := J) (S' := S) am_e50 rfl rfl rfl rfl ?_
  refine w_st (i' := 44) (ls' := [.ref 20, .ref 41]) (st' := [.ref 20, .int (nI 0), .ref 46]) (E' := E) (I' := (u_I (u_I (u_I (u_I I 21 (va_cpy (I 42) (I 21) 0 0 16)) 22 (va_cpy (I 43) (I 22) 0 0 16)) 23 (va_cpy (I 44) (I 23) 0 0 4)) 24 (va_cpy (I 45) (I 24) 0 0 4))) (J' := J) (S' := S) am_e50 rfl rfl rfl rfl ?_
  refine w_st (i' := 45) (ls' := [.ref 20, .ref 41]) (st' := [.ref 25, .int (nI 0), .ref 46]) (E' := E) (I' := (u_I (u_I (u_I (u_I I 21 (va_cpy (I 42) (I 21) 0 0 16)) 22 (va_cpy (I 43) (I 22) 0 0 16)) 23 (va_cpy (I 44) (I 23) 0 0 4)) 24 (va_cpy (I 45) (I 24) 0 0 4))) (J' := J) (S' := S) am_e50 rfl rfl rfl rfl ?_
  refine w_st (i' := 46) (ls' := [.ref 20, .ref 41]) (st' := [.int (nI 0), .ref 25, .int (nI 0), .ref 46]) (E' := E) (I' := (u_I (u_I (u_I (u_I I 21 (va_cpy (I 42) (I 21) 0 0 16)) 22 (va_cpy (I 43) (I 22) 0 0 16)) 23 (va_cpy (I 44) (I 23) 0 0 4)) 24 (va_cpy (I 45) (I 24) 0 0 4))) (J' := J) (S' := S) am_e50 rfl rfl rfl rfl ?_
  refine w_st (i' := 47) (ls' := [.ref 20, .ref 41]) (st' := [.ref 20, .int (nI 0), .ref 25, .int (nI 0), .ref 46]) (E' := E) (I' := (u_I (u_I (u_I (u_I I 21 (va_cpy (I 42) (I 21) 0 0 16)) 22 (va_cpy (I 43) (I 22) 0 0 16)) 23 (va_cpy (I 44) (I 23) 0 0 4)) 24 (va_cpy (I 45) (I 24) 0 0 4))) (J' := J) (S' := S) am_e50 rfl rfl rfl rfl ?_
  refine w_st (i' := 48) (ls' := [.ref 20, .ref 41]) (st' := [.ref 25, .int (nI 0), .ref 25, .int (nI 0), .ref 46]) (E' := E) (I' := (u_I (u_I (u_I (u_I I 21 (va_cpy (I 42) (I 21) 0 0 16)) 22 (va_cpy (I 43) (I 22) 0 0 16)) 23 (va_cpy (I 44) (I 23) 0 0 4)) 24 (va_cpy (I 45) (I 24) 0 0 4))) (J' := J) (S' := S) am_e50 rfl rfl rfl rfl ?_
  refine w_st (i' := 49) (ls' := [.ref 20, .ref 41]) (st' := [.int (nI 4), .int (nI 0), .ref 25, .int (nI 0), .ref 46]) (E' := E) (I' := (u_I (u_I (u_I (u_I I 21 (va_cpy (I 42) (I 21) 0 0 16)) 22 (va_cpy (I 43) (I 22) 0 0 16)) 23 (va_cpy (I 44) (I 23) 0 0 4)) 24 (va_cpy (I 45) (I 24) 0 0 4))) (J' := J) (S' := S) am_e50 rfl rfl rfl rfl ?_
  refine w_cp (k := 46) (a := 25) (nk := 4) (na := 4) am_e50 rfl (by decide) (by decide) rfl rfl (by decide) (by unfold am_cpOk; decide) ?_
  show am_ww 50 50 [.ref 20, .ref 41] [] E (u_I (u_I (u_I (u_I (u_I I 21 (va_cpy (I 42) (I 21) 0 0 16)) 22 (va_cpy (I 43) (I 22) 0 0 16)) 23 (va_cpy (I 44) (I 23) 0 0 4)) 24 (va_cpy (I 45) (I 24) 0 0 4)) 25 (va_cpy (I 46) (I 25) 0 0 4)) J S _
  refine w_st (i' := 51) (ls' := [.ref 20, .ref 41]) (st' := [.ref 41]) (E' := E) (I' := (u_I (u_I (u_I (u_I (u_I I 21 (va_cpy (I 42) (I 21) 0 0 16)) 22 (va_cpy (I 43) (I 22) 0 0 16)) 23 (va_cpy (I 44) (I 23) 0 0 4)) 24 (va_cpy (I 45) (I 24) 0 0 4)) 25 (va_cpy (I 46) (I 25) 0 0 4))) (J' := J) (S' := S) am_e50 rfl rfl rfl rfl ?_
  refine w_st (i' := 52) (ls' := [.ref 20, .ref 41]) (st' := [.ref 47]) (E' := E) (I' := (u_I (u_I (u_I (u_I (u_I I 21 (va_cpy (I 42) (I 21) 0 0 16)) 22 (va_cpy (I 43) (I 22) 0 0 16)) 23 (va_cpy (I 44) (I 23) 0 0 4)) 24 (va_cpy (I 45) (I 24) 0 0 4)) 25 (va_cpy (I 46) (I 25) 0 0 4))) (J' := J) (S' := S) am_e50 rfl rfl rfl rfl ?_
  refine w_st (i' := 53) (ls' := [.ref 20, .ref 41]) (st' := [.int (nI 0), .ref 47]) (E' := E) (I' := (u_I (u_I (u_I (u_I (u_I I 21 (va_cpy (I 42) (I 21) 0 0 16)) 22 (va_cpy (I 43) (I 22) 0 0 16)) 23 (va_cpy (I 44) (I 23) 0 0 4)) 24 (va_cpy (I 45) (I 24) 0 0 4)) 25 (va_cpy (I 46) (I 25) 0 0 4))) (J' := J) (S' := S) am_e50 rfl rfl rfl rfl ?_
  refine w_st (i' := 54) (ls' := [.ref 20, .ref 41]) (st' := [.ref 20, .int (nI 0), .ref 47]) (E' := E) (I' := (u_I (u_I (u_I (u_I (u_I I 21 (va_cpy (I 42) (I 21) 0 0 16)) 22 (va_cpy (I 43) (I 22) 0 0 16)) 23 (va_cpy (I 44) (I 23) 0 0 4)) 24 (va_cpy (I 45) (I 24) 0 0 4)) 25 (va_cpy (I 46) (I 25) 0 0 4))) (J' := J) (S' := S) am_e50 rfl rfl rfl rfl ?_
  refine w_st (i' := 55) (ls' := [.ref 20, .ref 41]) (st' := [.ref 26, .int (nI 0), .ref 47]) (E' := E) (I' := (u_I (u_I (u_I (u_I (u_I I 21 (va_cpy (I 42) (I 21) 0 0 16)) 22 (va_cpy (I 43) (I 22) 0 0 16)) 23 (va_cpy (I 44) (I 23) 0 0 4)) 24 (va_cpy (I 45) (I 24) 0 0 4)) 25 (va_cpy (I 46) (I 25) 0 0 4))) (J' := J) (S' := S) am_e50 rfl rfl rfl rfl ?_
  refine w_st (i' := 56) (ls' := [.ref 20, .ref 41]) (st' := [.int (nI 0), .ref 26, .int (nI 0), .ref 47]) (E' := E) (I' := (u_I (u_I (u_I (u_I (u_I I 21 (va_cpy (I 42) (I 21) 0 0 16)) 22 (va_cpy (I 43) (I 22) 0 0 16)) 23 (va_cpy (I 44) (I 23) 0 0 4)) 24 (va_cpy (I 45) (I 24) 0 0 4)) 25 (va_cpy (I 46) (I 25) 0 0 4))) (J' := J) (S' := S) am_e50 rfl rfl rfl rfl ?_
  refine w_st (i' := 57) (ls' := [.ref 20, .ref 41]) (st' := [.ref 20, .int (nI 0), .ref 26, .int (nI 0), .ref 47]) (E' := E) (I' := (u_I (u_I (u_I (u_I (u_I I 21 (va_cpy (I 42) (I 21) 0 0 16)) 22 (va_cpy (I 43) (I 22) 0 0 16)) 23 (va_cpy (I 44) (I 23) 0 0 4)) 24 (va_cpy (I 45) (I 24) 0 0 4)) 25 (va_cpy (I 46) (I 25) 0 0 4))) (J' := J) (S' := S) am_e50 rfl rfl rfl rfl ?_
  refine w_st (i' := 58) (ls' := [.ref 20, .ref 41]) (st' := [.ref 26, .int (nI 0), .ref 26, .int (nI 0), .ref 47]) (E' := E) (I' := (u_I (u_I (u_I (u_I (u_I I 21 (va_cpy (I 42) (I 21) 0 0 16)) 22 (va_cpy (I 43) (I 22) 0 0 16)) 23 (va_cpy (I 44) (I 23) 0 0 4)) 24 (va_cpy (I 45) (I 24) 0 0 4)) 25 (va_cpy (I 46) (I 25) 0 0 4))) (J' := J) (S' := S) am_e50 rfl rfl rfl rfl ?_
  refine w_st (i' := 59) (ls' := [.ref 20, .ref 41]) (st' := [.int (nI 3), .int (nI 0), .ref 26, .int (nI 0), .ref 47]) (E' := E) (I' := (u_I (u_I (u_I (u_I (u_I I 21 (va_cpy (I 42) (I 21) 0 0 16)) 22 (va_cpy (I 43) (I 22) 0 0 16)) 23 (va_cpy (I 44) (I 23) 0 0 4)) 24 (va_cpy (I 45) (I 24) 0 0 4)) 25 (va_cpy (I 46) (I 25) 0 0 4))) (J' := J) (S' := S) am_e50 rfl rfl rfl rfl ?_
  refine w_cp (k := 47) (a := 26) (nk := 3) (na := 3) am_e50 rfl (by decide) (by decide) rfl rfl (by decide) (by unfold am_cpOk; decide) ?_
  show am_ww 50 60 [.ref 20, .ref 41] [] E (u_I (u_I (u_I (u_I (u_I (u_I I 21 (va_cpy (I 42) (I 21) 0 0 16)) 22 (va_cpy (I 43) (I 22) 0 0 16)) 23 (va_cpy (I 44) (I 23) 0 0 4)) 24 (va_cpy (I 45) (I 24) 0 0 4)) 25 (va_cpy (I 46) (I 25) 0 0 4)) 26 (va_cpy (I 47) (I 26) 0 0 3)) J S _
  refine w_st (i' := 61) (ls' := [.ref 20, .ref 41]) (st' := [.ref 20]) (E' := E) (I' := (u_I (u_I (u_I (u_I (u_I (u_I I 21 (va_cpy (I 42) (I 21) 0 0 16)) 22 (va_cpy (I 43) (I 22) 0 0 16)) 23 (va_cpy (I 44) (I 23) 0 0 4)) 24 (va_cpy (I 45) (I 24) 0 0 4)) 25 (va_cpy (I 46) (I 25) 0 0 4)) 26 (va_cpy (I 47) (I 26) 0 0 3))) (J' := J) (S' := S) am_e50 rfl rfl rfl rfl ?_
  refine w_st (i' := 62) (ls' := [.ref 20, .ref 41]) (st' := [.ref 41, .ref 20]) (E' := E) (I' := (u_I (u_I (u_I (u_I (u_I (u_I I 21 (va_cpy (I 42) (I 21) 0 0 16)) 22 (va_cpy (I 43) (I 22) 0 0 16)) 23 (va_cpy (I 44) (I 23) 0 0 4)) 24 (va_cpy (I 45) (I 24) 0 0 4)) 25 (va_cpy (I 46) (I 25) 0 0 4)) 26 (va_cpy (I 47) (I 26) 0 0 3))) (J' := J) (S' := S) am_e50 rfl rfl rfl rfl ?_
  refine w_st (i' := 63) (ls' := [.ref 20, .ref 41]) (st' := [.int ((I 41) 6), .ref 20]) (E' := E) (I' := (u_I (u_I (u_I (u_I (u_I (u_I I 21 (va_cpy (I 42) (I 21) 0 0 16)) 22 (va_cpy (I 43) (I 22) 0 0 16)) 23 (va_cpy (I 44) (I 23) 0 0 4)) 24 (va_cpy (I 45) (I 24) 0 0 4)) 25 (va_cpy (I 46) (I 25) 0 0 4)) 26 (va_cpy (I 47) (I 26) 0 0 3))) (J' := J) (S' := S) am_e50 rfl rfl rfl rfl ?_
  refine w_st (i' := 64) (ls' := [.ref 20, .ref 41]) (st' := []) (E' := E) (I' := (u_I (u_I (u_I (u_I (u_I (u_I (u_I I 21 (va_cpy (I 42) (I 21) 0 0 16)) 22 (va_cpy (I 43) (I 22) 0 0 16)) 23 (va_cpy (I 44) (I 23) 0 0 4)) 24 (va_cpy (I 45) (I 24) 0 0 4)) 25 (va_cpy (I 46) (I 25) 0 0 4)) 26 (va_cpy (I 47) (I 26) 0 0 3)) 20 (upd (I 20) 6 ((I 41) 6)))) (J' := J) (S' := S) am_e50 rfl rfl rfl rfl ?_
  exact w_end am_e50 rfl rfl rfl h
-- 50 copy
theorem g50_0_41_20  {E : am_Ev} {I : Nat → Nat → Int32} {J : Nat → Nat → Int64} {S : Nat → Nat → Option Nat} {Q : am_Qt}  (h : Q (.inl none) E (u_I (u_I (u_I (u_I (u_I (u_I (u_I I 42 (va_cpy (I 21) (I 42) 0 0 16)) 43 (va_cpy (I 22) (I 43) 0 0 16)) 44 (va_cpy (I 23) (I 44) 0 0 4)) 45 (va_cpy (I 24) (I 45) 0 0 4)) 46 (va_cpy (I 25) (I 46) 0 0 4)) 47 (va_cpy (I 26) (I 47) 0 0 3)) 41 (upd (I 41) 6 ((I 20) 6))) J S) : am_ww 50 0 [.ref 41, .ref 20] [] E I J S Q := by
  refine w_st (i' := 1) (ls' := [.ref 41, .ref 20]) (st' := [.ref 20]) (E' := E) (I' := I) (J' := J) (S' := S) am_e50 rfl rfl rfl rfl ?_
  refine w_st (i' := 2) (ls' := [.ref 41, .ref 20]) (st' := [.ref 21]) (E' := E) (I' := I) (J' := J) (S' := S) am_e50 rfl rfl rfl rfl ?_
  refine w_st (i' := 3) (ls' := [.ref 41, .ref 20]) (st' := [.int (nI 0), .ref 21]) (E' := E) (I' := I) (J' := J) (S' := S) am_e50 rfl rfl rfl rfl ?_
  refine w_st (i' := 4) (ls' := [.ref 41, .ref 20]) (st' := [.ref 41, .int (nI 0), .ref 21]) (E' := E) (I' := I) (J' := J) (S' := S) am_e50 rfl rfl rfl rfl ?_
  refine w_st (i' := 5) (ls' := [.ref 41, .ref 20]) (st' := [.ref 42, .int (nI 0), .ref 21]) (E' := E) (I' := I) (J' := J) (S' := S) am_e50 rfl rfl rfl rfl ?_
  refine w_st (i' := 6) (ls' := [.ref 41, .ref 20]) (st' := [.int (nI 0), .ref 42, .int (nI 0), .ref 21]) (E' := E) (I' := I) (J' := J) (S' := S) am_e50 rfl rfl rfl rfl ?_
  refine w_st (i' := 7) (ls' := [.ref 41, .ref 20]) (st' := [.ref 41, .int (nI 0), .ref 42, .int (nI 0), .ref 21]) (E' := E) (I' := I) (J' := J) (S' := S) am_e50 rfl rfl rfl rfl ?_
  refine w_st (i' := 8) (ls' := [.ref 41, .ref 20]) (st' := [.ref 42, .int (nI 0), .ref 42, .int (nI 0), .ref 21]) (E' := E) (I' := I) (J' := J) (S' := S) am_e50 rfl rfl rfl rfl ?_
  refine w_st (i' := 9) (ls' := [.ref 41, .ref 20]) (st' := [.int (nI 16), .int (nI 0), .ref 42, .int (nI 0), .ref 21]) (E' := E) (I' := I) (J' := J) (S' := S) am_e50 rfl rfl rfl rfl ?_
  refine w_cp (k := 21) (a := 42) (nk := 16) (na := 16) am_e50 rfl (by decide) (by decide) rfl rfl (by decide) (by unfold am_cpOk; decide) ?_
  show am_ww 50 10 [.ref 41, .ref 20] [] E (u_I I 42 (va_cpy (I 21) (I 42) 0 0 16)) J S _
  refine w_st (i' := 11) (ls' := [.ref 41, .ref 20]) (st' := [.ref 20]) (E' := E) (I' := (u_I I 42 (va_cpy (I 21) (I 42) 0 0 16))) (J' := J) (S' := S) am_e50 rfl rfl rfl rfl ?_
  refine w_st (i' := 12) (ls' := [.ref 41, .ref 20]) (st' := [.ref 22]) (E' := E) (I' := (u_I I 42 (va_cpy (I 21) (I 42) 0 0 16))) (J' := J) (S' := S) am_e50 rfl rfl rfl rfl ?_
  refine w_st (i' := 13) (ls' := [.ref 41, .ref 20]) (st' := [.int (nI 0), .ref 22]) (E' := E) (I' := (u_I I 42 (va_cpy (I 21) (I 42) 0 0 16))) (J' := J) (S' := S) am_e50 rfl rfl rfl rfl ?_
  refine w_st (i' := 14) (ls' := [.ref 41, .ref 20]) (st' := [.ref 41, .int (nI 0), .ref 22]) (E' := E) (I' := (u_I I 42 (va_cpy (I 21) (I 42) 0 0 16))) (J' := J) (S' := S) am_e50 rfl rfl rfl rfl ?_
  refine w_st (i' := 15) (ls' := [.ref 41, .ref 20]) (st' := [.ref 43, .int (nI 0), .ref 22]) (E' := E) (I' := (u_I I 42 (va_cpy (I 21) (I 42) 0 0 16))) (J' := J) (S' := S) am_e50 rfl rfl rfl rfl ?_
  refine w_st (i' := 16) (ls' := [.ref 41, .ref 20]) (st' := [.int (nI 0), .ref 43, .int (nI 0), .ref 22]) (E' := E) (I' := (u_I I 42 (va_cpy (I 21) (I 42) 0 0 16))) (J' := J) (S' := S) am_e50 rfl rfl rfl rfl ?_
  refine w_st (i' := 17) (ls' := [.ref 41, .ref 20]) (st' := [.ref 41, .int (nI 0), .ref 43, .int (nI 0), .ref 22]) (E' := E) (I' := (u_I I 42 (va_cpy (I 21) (I 42) 0 0 16))) (J' := J) (S' := S) am_e50 rfl rfl rfl rfl ?_
  refine w_st (i' := 18) (ls' := [.ref 41, .ref 20]) (st' := [.ref 43, .int (nI 0), .ref 43, .int (nI 0), .ref 22]) (E' := E) (I' := (u_I I 42 (va_cpy (I 21) (I 42) 0 0 16))) (J' := J) (S' := S) am_e50 rfl rfl rfl rfl ?_
  refine w_st (i' := 19) (ls' := [.ref 41, .ref 20]) (st' := [.int (nI 16), .int (nI 0), .ref 43, .int (nI 0), .ref 22]) (E' := E) (I' := (u_I I 42 (va_cpy (I 21) (I 42) 0 0 16))) (J' := J) (S' := S) am_e50 rfl rfl rfl rfl ?_
  refine w_cp (k := 22) (a := 43) (nk := 16) (na := 16) am_e50 rfl (by decide) (by decide) rfl rfl (by decide) (by unfold am_cpOk; decide) ?_
  show am_ww 50 20 [.ref 41, .ref 20] [] E (u_I (u_I I 42 (va_cpy (I 21) (I 42) 0 0 16)) 43 (va_cpy (I 22) (I 43) 0 0 16)) J S _
  refine w_st (i' := 21) (ls' := [.ref 41, .ref 20]) (st' := [.ref 20]) (E' := E) (I' := (u_I (u_I I 42 (va_cpy (I 21) (I 42) 0 0 16)) 43 (va_cpy (I 22) (I 43) 0 0 16))) (J' := J) (S' := S) am_e50 rfl rfl rfl rfl ?_
  refine w_st (i' := 22) (ls' := [.ref 41, .ref 20]) (st' := [.ref 23]) (E' := E) (I' := (u_I (u_I I 42 (va_cpy (I 21) (I 42) 0 0 16)) 43 (va_cpy (I 22) (I 43) 0 0 16))) (J' := J) (S' := S) am_e50 rfl rfl rfl rfl ?_
  refine w_st (i' := 23) (ls' := [.ref 41, .ref 20]) (st' := [.int (nI 0), .ref 23]) (E' := E) (I' := (u_I (u_I I 42 (va_cpy (I 21) (I 42) 0 0 16)) 43 (va_cpy (I 22) (I 43) 0 0 16))) (J' := J) (S' := S) am_e50 rfl rfl rfl rfl ?_
  refine w_st (i' := 24) (ls' := [.ref 41, .ref 20]) (st' := [.ref 41, .int (nI 0), .ref 23]) (E' := E) (I' := (u_I (u_I I 42 (va_cpy (I 21) (I 42) 0 0 16)) 43 (va_cpy (I 22) (I 43) 0 0 16))) (J' := J) (S' := S) am_e50 rfl rfl rfl rfl ?_
  refine w_st (i' := 25) (ls' := [.ref 41, .ref 20]) (st' := [.ref 44, .int (nI 0), .ref 23]) (E' := E) (I' := (u_I (u_I I 42 (va_cpy (I 21) (I 42) 0 0 16)) 43 (va_cpy (I 22) (I 43) 0 0 16))) (J' := J) (S' := S) am_e50 rfl rfl rfl rfl ?_
  refine w_st (i' := 26) (ls' := [.ref 41, .ref 20]) (st' := [.int (nI 0), .ref 44, .int (nI 0), .ref 23]) (E' := E) (I' := (u_I (u_I I 42 (va_cpy (I 21) (I 42) 0 0 16)) 43 (va_cpy (I 22) (I 43) 0 0 16))) (J' := J) (S' := S) am_e50 rfl rfl rfl rfl ?_
  refine w_st (i' := 27) (ls' := [.ref 41, .ref 20]) (st' := [.ref 41, .int (nI 0), .ref 44, .int (nI 0), .ref 23]) (E' := E) (I' := (u_I (u_I I 42 (va_cpy (I 21) (I 42) 0 0 16)) 43 (va_cpy (I 22) (I 43) 0 0 16))) (J' := J) (S' := S) am_e50 rfl rfl rfl rfl ?_
  refine w_st (i' := 28) (ls' := [.ref 41, .ref 20]) (st' := [.ref 44, .int (nI 0), .ref 44, .int (nI 0), .ref 23]) (E' := E) (I' := (u_I (u_I I 42 (va_cpy (I 21) (I 42) 0 0 16)) 43 (va_cpy (I 22) (I 43) 0 0 16))) (J' := J) (S' := S) am_e50 rfl rfl rfl rfl ?_
  refine w_st (i' := 29) (ls' := [.ref 41, .ref 20]) (st' := [.int (nI 4), .int (nI 0), .ref 44, .int (nI 0), .ref 23]) (E' := E) (I' := (u_I (u_I I 42 (va_cpy (I 21) (I 42) 0 0 16)) 43 (va_cpy (I 22) (I 43) 0 0 16))) (J' := J) (S' := S) am_e50 rfl rfl rfl rfl ?_
  refine w_cp (k := 23) (a := 44) (nk := 4) (na := 4) am_e50 rfl (by decide) (by decide) rfl rfl (by decide) (by unfold am_cpOk; decide) ?_
  show am_ww 50 30 [.ref 41, .ref 20] [] E (u_I (u_I (u_I I 42 (va_cpy (I 21) (I 42) 0 0 16)) 43 (va_cpy (I 22) (I 43) 0 0 16)) 44 (va_cpy (I 23) (I 44) 0 0 4)) J S _
  refine w_st (i' := 31) (ls' := [.ref 41, .ref 20]) (st' := [.ref 20]) (E' := E) (I' := (u_I (u_I (u_I I 42 (va_cpy (I 21) (I 42) 0 0 16)) 43 (va_cpy (I 22) (I 43) 0 0 16)) 44 (va_cpy (I 23) (I 44) 0 0 4))) (J' := J) (S' := S) am_e50 rfl rfl rfl rfl ?_
  refine w_st (i' := 32) (ls' := [.ref 41, .ref 20]) (st' := [.ref 24]) (E' := E) (I' := (u_I (u_I (u_I I 42 (va_cpy (I 21) (I 42) 0 0 16)) 43 (va_cpy (I 22) (I 43) 0 0 16)) 44 (va_cpy (I 23) (I 44) 0 0 4))) (J' := J) (S' := S) am_e50 rfl rfl rfl rfl ?_
  refine w_st (i' := 33) (ls' := [.ref 41, .ref 20]) (st' := [.int (nI 0), .ref 24]) (E' := E) (I' := (u_I (u_I (u_I I 42 (va_cpy (I 21) (I 42) 0 0 16)) 43 (va_cpy (I 22) (I 43) 0 0 16)) 44 (va_cpy (I 23) (I 44) 0 0 4))) (J' := J) (S' := S) am_e50 rfl rfl rfl rfl ?_
  refine w_st (i' := 34) (ls' := [.ref 41, .ref 20]) (st' := [.ref 41, .int (nI 0), .ref 24]) (E' := E) (I' := (u_I (u_I (u_I I 42 (va_cpy (I 21) (I 42) 0 0 16)) 43 (va_cpy (I 22) (I 43) 0 0 16)) 44 (va_cpy (I 23) (I 44) 0 0 4))) (J' := J) (S' := S) am_e50 rfl rfl rfl rfl ?_
  refine w_st (i' := 35) (ls' := [.ref 41, .ref 20]) (st' := [.ref 45, .int (nI 0), .ref 24]) (E' := E) (I' := (u_I (u_I (u_I I 42 (va_cpy (I 21) (I 42) 0 0 16)) 43 (va_cpy (I 22) (I 43) 0 0 16)) 44 (va_cpy (I 23) (I 44) 0 0 4))) (J' := J) (S' := S) am_e50 rfl rfl rfl rfl ?_
  refine w_st (i' := 36) (ls' := [.ref 41, .ref 20]) (st' := [.int (nI 0), .ref 45, .int (nI 0), .ref 24]) (E' := E) (I' := (u_I (u_I (u_I I 42 (va_cpy (I 21) (I 42) 0 0 16)) 43 (va_cpy (I 22) (I 43) 0 0 16)) 44 (va_cpy (I 23) (I 44) 0 0 4))) (J' := J) (S' := S) am_e50 rfl rfl rfl rfl ?_
  refine w_st (i' := 37) (ls' := [.ref 41, .ref 20]) (st' := [.ref 41, .int (nI 0), .ref 45, .int (nI 0), .ref 24]) (E' := E) (I' := (u_I (u_I (u_I I 42 (va_cpy (I 21) (I 42) 0 0 16)) 43 (va_cpy (I 22) (I 43) 0 0 16)) 44 (va_cpy (I 23) (I 44) 0 0 4))) (J' := J) (S' := S) am_e50 rfl rfl rfl rfl ?_
  refine w_st (i' := 38) (ls' := [.ref 41, .ref 20]) (st' := [.ref 45, .int (nI 0), .ref 45, .int (nI 0), .ref 24]) (E' := E) (I' := (u_I (u_I (u_I I 42 (va_cpy (I 21) (I 42) 0 0 16)) 43 (va_cpy (I 22) (I 43) 0 0 16)) 44 (va_cpy (I 23) (I 44) 0 0 4))) (J' := J) (S' := S) am_e50 rfl rfl rfl rfl ?_
  refine w_st (i' := 39) (ls' := [.ref 41, .ref 20]) (st' := [.int (nI 4), .int (nI 0), .ref 45, .int (nI 0), .ref 24]) (E' := E) (I' := (u_I (u_I (u_I I 42 (va_cpy (I 21) (I 42) 0 0 16)) 43 (va_cpy (I 22) (I 43) 0 0 16)) 44 (va_cpy (I 23) (I 44) 0 0 4))) (J' := J) (S' := S) am_e50 rfl rfl rfl rfl ?_
  refine w_cp (k := 24) (a := 45) (nk := 4) (na := 4) am_e50 rfl (by decide) (by decide) rfl rfl (by decide) (by unfold am_cpOk; decide) ?_
  show am_ww 50 40 [.ref 41, .ref 20] [] E (u_I (u_I (u_I (u_I I 42 (va_cpy (I 21) (I 42) 0 0 16)) 43 (va_cpy (I 22) (I 43) 0 0 16)) 44 (va_cpy (I 23) (I 44) 0 0 4)) 45 (va_cpy (I 24) (I 45) 0 0 4)) J S _
  refine w_st (i' := 41) (ls' := [.ref 41, .ref 20]) (st' := [.ref 20]) (E' := E) (I' := (u_I (u_I (u_I (u_I I 42 (va_cpy (I 21) (I 42) 0 0 16)) 43 (va_cpy (I 22) (I 43) 0 0 16)) 44 (va_cpy (I 23) (I 44) 0 0 4)) 45 (va_cpy (I 24) (I 45) 0 0 4))) (J' := J) (S' := S) am_e50 rfl rfl rfl rfl ?_
  refine w_st (i' := 42) (ls' := [.ref 41, .ref 20]) (st' := [.ref 25]) (E' := E) (I' := (u_I (u_I (u_I (u_I I 42 (va_cpy (I 21) (I 42) 0 0 16)) 43 (va_cpy (I 22) (I 43) 0 0 16)) 44 (va_cpy (I 23) (I 44) 0 0 4)) 45 (va_cpy (I 24) (I 45) 0 0 4))) (J' := J) (S' := S) am_e50 rfl rfl rfl rfl ?_
  refine w_st (i' := 43) (ls' := [.ref 41, .ref 20]) (st' := [.int (nI 0), .ref 25]) (E' := E) (I' := (u_I (u_I (u_I (u_I I 42 (va_cpy (I 21) (I 42) 0 0 16)) 43 (va_cpy (I 22) (I 43) 0 0 16)) 44 (va_cpy (I 23) (I 44) 0 0 4)) 45 (va_cpy (I 24) (I 45) 0 0 4))) (J' := J) (S' := S) am_e50 rfl rfl rfl rfl ?_
  refine w_st (i' := 44) (ls' := [.ref 41, .ref 20]) (st' := [.ref 41, .int (nI 0), .ref 25]) (E' := E) (I' := (u_I (u_I (u_I (u_I I 42 (va_cpy (I 21) (I 42) 0 0 16)) 43 (va_cpy (I 22) (I 43) 0 0 16)) 44 (va_cpy (I 23) (I 44) 0 0 4)) 45 (va_cpy (I 24) (I 45) 0 0 4))) (J' := J) (S' := S) am_e50 rfl rfl rfl rfl ?_
  refine w_st (i' := 45) (ls' := [.ref 41, .ref 20]) (st' := [.ref 46, .int (nI 0), .ref 25]) (E' := E) (I' := (u_I (u_I (u_I (u_I I 42 (va_cpy (I 21) (I 42) 0 0 16)) 43 (va_cpy (I 22) (I 43) 0 0 16)) 44 (va_cpy (I 23) (I 44) 0 0 4)) 45 (va_cpy (I 24) (I 45) 0 0 4))) (J' := J) (S' := S) am_e50 rfl rfl rfl rfl ?_
  refine w_st (i' := 46) (ls' := [.ref 41, .ref 20]) (st' := [.int (nI 0), .ref 46, .int (nI 0), .ref 25]) (E' := E) (I' := (u_I (u_I (u_I (u_I I 42 (va_cpy (I 21) (I 42) 0 0 16)) 43 (va_cpy (I 22) (I 43) 0 0 16)) 44 (va_cpy (I 23) (I 44) 0 0 4)) 45 (va_cpy (I 24) (I 45) 0 0 4))) (J' := J) (S' := S) am_e50 rfl rfl rfl rfl ?_
  refine w_st (i' := 47) (ls' := [.ref 41, .ref 20]) (st' := [.ref 41, .int (nI 0), .ref 46, .int (nI 0), .ref 25]) (E' := E) (I' := (u_I (u_I (u_I (u_I I 42 (va_cpy (I 21) (I 42) 0 0 16)) 43 (va_cpy (I 22) (I 43) 0 0 16)) 44 (va_cpy (I 23) (I 44) 0 0 4)) 45 (va_cpy (I 24) (I 45) 0 0 4))) (J' := J) (S' := S) am_e50 rfl rfl rfl rfl ?_
  refine w_st (i' := 48) (ls' := [.ref 41, .ref 20]) (st' := [.ref 46, .int (nI 0), .ref 46, .int (nI 0), .ref 25]) (E' := E) (I' := (u_I (u_I (u_I (u_I I 42 (va_cpy (I 21) (I 42) 0 0 16)) 43 (va_cpy (I 22) (I 43) 0 0 16)) 44 (va_cpy (I 23) (I 44) 0 0 4)) 45 (va_cpy (I 24) (I 45) 0 0 4))) (J' := J) (S' := S) am_e50 rfl rfl rfl rfl ?_
  refine w_st (i' := 49) (ls' := [.ref 41, .ref 20]) (st' := [.int (nI 4), .int (nI 0), .ref 46, .int (nI 0), .ref 25]) (E' := E) (I' := (u_I (u_I (u_I (u_I I 42 (va_cpy (I 21) (I 42) 0 0 16)) 43 (va_cpy (I 22) (I 43) 0 0 16)) 44 (va_cpy (I 23) (I 44) 0 0 4)) 45 (va_cpy (I 24) (I 45) 0 0 4))) (J' := J) (S' := S) am_e50 rfl rfl rfl rfl ?_
  refine w_cp (k := 25) (a := 46) (nk := 4) (na := 4) am_e50 rfl (by decide) (by decide) rfl rfl (by decide) (by unfold am_cpOk; decide) ?_
  show am_ww 50 50 [.ref 41, .ref 20] [] E (u_I (u_I (u_I (u_I (u_I I 42 (va_cpy (I 21) (I 42) 0 0 16)) 43 (va_cpy (I 22) (I 43) 0 0 16)) 44 (va_cpy (I 23) (I 44) 0 0 4)) 45 (va_cpy (I 24) (I 45) 0 0 4)) 46 (va_cpy (I 25) (I 46) 0 0 4)) J S _
  refine w_st (i' := 51) (ls' := [.ref 41, .ref 20]) (st' := [.ref 20]) (E' := E) (I' := (u_I (u_I (u_I (u_I (u_I I 42 (va_cpy (I 21) (I 42) 0 0 16)) 43 (va_cpy (I 22) (I 43) 0 0 16)) 44 (va_cpy (I 23) (I 44) 0 0 4)) 45 (va_cpy (I 24) (I 45) 0 0 4)) 46 (va_cpy (I 25) (I 46) 0 0 4))) (J' := J) (S' := S) am_e50 rfl rfl rfl rfl ?_
  refine w_st (i' := 52) (ls' := [.ref 41, .ref 20]) (st' := [.ref 26]) (E' := E) (I' := (u_I (u_I (u_I (u_I (u_I I 42 (va_cpy (I 21) (I 42) 0 0 16)) 43 (va_cpy (I 22) (I 43) 0 0 16)) 44 (va_cpy (I 23) (I 44) 0 0 4)) 45 (va_cpy (I 24) (I 45) 0 0 4)) 46 (va_cpy (I 25) (I 46) 0 0 4))) (J' := J) (S' := S) am_e50 rfl rfl rfl rfl ?_
  refine w_st (i' := 53) (ls' := [.ref 41, .ref 20]) (st' := [.int (nI 0), .ref 26]) (E' := E) (I' := (u_I (u_I (u_I (u_I (u_I I 42 (va_cpy (I 21) (I 42) 0 0 16)) 43 (va_cpy (I 22) (I 43) 0 0 16)) 44 (va_cpy (I 23) (I 44) 0 0 4)) 45 (va_cpy (I 24) (I 45) 0 0 4)) 46 (va_cpy (I 25) (I 46) 0 0 4))) (J' := J) (S' := S) am_e50 rfl rfl rfl rfl ?_
  refine w_st (i' := 54) (ls' := [.ref 41, .ref 20]) (st' := [.ref 41, .int (nI 0), .ref 26]) (E' := E) (I' := (u_I (u_I (u_I (u_I (u_I I 42 (va_cpy (I 21) (I 42) 0 0 16)) 43 (va_cpy (I 22) (I 43) 0 0 16)) 44 (va_cpy (I 23) (I 44) 0 0 4)) 45 (va_cpy (I 24) (I 45) 0 0 4)) 46 (va_cpy (I 25) (I 46) 0 0 4))) (J' := J) (S' := S) am_e50 rfl rfl rfl rfl ?_
  refine w_st (i' := 55) (ls' := [.ref 41, .ref 20]) (st' := [.ref 47, .int (nI 0), .ref 26]) (E' := E) (I' := (u_I (u_I (u_I (u_I (u_I I 42 (va_cpy (I 21) (I 42) 0 0 16)) 43 (va_cpy (I 22) (I 43) 0 0 16)) 44 (va_cpy (I 23) (I 44) 0 0 4)) 45 (va_cpy (I 24) (I 45) 0 0 4)) 46 (va_cpy (I 25) (I 46) 0 0 4))) (J' := J) (S' := S) am_e50 rfl rfl rfl rfl ?_
  refine w_st (i' := 56) (ls' := [.ref 41, .ref 20]) (st' := [.int (nI 0), .ref 47, .int (nI 0), .ref 26]) (E' := E) (I' := (u_I (u_I (u_I (u_I (u_I I 42 (va_cpy (I 21) (I 42) 0 0 16)) 43 (va_cpy (I 22) (I 43) 0 0 16)) 44 (va_cpy (I 23) (I 44) 0 0 4)) 45 (va_cpy (I 24) (I 45) 0 0 4)) 46 (va_cpy (I 25) (I 46) 0 0 4))) (J' := J) (S' := S) am_e50 rfl rfl rfl rfl ?_
  refine w_st (i' := 57) (ls' := [.ref 41, .ref 20]) (st' := [.ref 41, .int (nI 0), .ref 47, .int (nI 0), .ref 26]) (E' := E) (I' := (u_I (u_I (u_I (u_I (u_I I 42 (va_cpy (I 21) (I 42) 0 0 16)) 43 (va_cpy (I 22) (I 43) 0 0 16)) 44 (va_cpy (I 23) (I 44) 0 0 4)) 45 (va_cpy (I 24) (I 45) 0 0 4)) 46 (va_cpy (I 25) (I 46) 0 0 4))) (J' := J) (S' := S) am_e50 rfl rfl rfl rfl ?_
  refine w_st (i' := 58) (ls' := [.ref 41, .ref 20]) (st' := [.ref 47, .int (nI 0), .ref 47, .int (nI 0), .ref 26]) (E' := E) (I' := (u_I (u_I (u_I (u_I (u_I I 42 (va_cpy (I 21) (I 42) 0 0 16)) 43 (va_cpy (I 22) (I 43) 0 0 16)) 44 (va_cpy (I 23) (I 44) 0 0 4)) 45 (va_cpy (I 24) (I 45) 0 0 4)) 46 (va_cpy (I 25) (I 46) 0 0 4))) (J' := J) (S' := S) am_e50 rfl rfl rfl rfl ?_
  refine w_st (i' := 59) (ls' := [.ref 41, .ref 20]) (st' := [.int (nI 3), .int (nI 0), .ref 47, .int (nI 0), .ref 26]) (E' := E) (I' := (u_I (u_I (u_I (u_I (u_I I 42 (va_cpy (I 21) (I 42) 0 0 16)) 43 (va_cpy (I 22) (I 43) 0 0 16)) 44 (va_cpy (I 23) (I 44) 0 0 4)) 45 (va_cpy (I 24) (I 45) 0 0 4)) 46 (va_cpy (I 25) (I 46) 0 0 4))) (J' := J) (S' := S) am_e50 rfl rfl rfl rfl ?_
  refine w_cp (k := 26) (a := 47) (nk := 3) (na := 3) am_e50 rfl (by decide) (by decide) rfl rfl (by decide) (by unfold am_cpOk; decide) ?_
  show am_ww 50 60 [.ref 41, .ref 20] [] E (u_I (u_I (u_I (u_I (u_I (u_I I 42 (va_cpy (I 21) (I 42) 0 0 16)) 43 (va_cpy (I 22) (I 43) 0 0 16)) 44 (va_cpy (I 23) (I 44) 0 0 4)) 45 (va_cpy (I 24) (I 45) 0 0 4)) 46 (va_cpy (I 25) (I 46) 0 0 4)) 47 (va_cpy (I 26) (I 47) 0 0 3)) J S _
  refine w_st (i' := 61) (ls' := [.ref 41, .ref 20]) (st' := [.ref 41]) (E' := E) (I' := (u_I (u_I (u_I (u_I (u_I (u_I I 42 (va_cpy (I 21) (I 42) 0 0 16)) 43 (va_cpy (I 22) (I 43) 0 0 16)) 44 (va_cpy (I 23) (I 44) 0 0 4)) 45 (va_cpy (I 24) (I 45) 0 0 4)) 46 (va_cpy (I 25) (I 46) 0 0 4)) 47 (va_cpy (I 26) (I 47) 0 0 3))) (J' := J) (S' := S) am_e50 rfl rfl rfl rfl ?_
  refine w_st (i' := 62) (ls' := [.ref 41, .ref 20]) (st' := [.ref 20, .ref 41]) (E' := E) (I' := (u_I (u_I (u_I (u_I (u_I (u_I I 42 (va_cpy (I 21) (I 42) 0 0 16)) 43 (va_cpy (I 22) (I 43) 0 0 16)) 44 (va_cpy (I 23) (I 44) 0 0 4)) 45 (va_cpy (I 24) (I 45) 0 0 4)) 46 (va_cpy (I 25) (I 46) 0 0 4)) 47 (va_cpy (I 26) (I 47) 0 0 3))) (J' := J) (S' := S) am_e50 rfl rfl rfl rfl ?_
  refine w_st (i' := 63) (ls' := [.ref 41, .ref 20]) (st' := [.int ((I 20) 6), .ref 41]) (E' := E) (I' := (u_I (u_I (u_I (u_I (u_I (u_I I 42 (va_cpy (I 21) (I 42) 0 0 16)) 43 (va_cpy (I 22) (I 43) 0 0 16)) 44 (va_cpy (I 23) (I 44) 0 0 4)) 45 (va_cpy (I 24) (I 45) 0 0 4)) 46 (va_cpy (I 25) (I 46) 0 0 4)) 47 (va_cpy (I 26) (I 47) 0 0 3))) (J' := J) (S' := S) am_e50 rfl rfl rfl rfl ?_
  refine w_st (i' := 64) (ls' := [.ref 41, .ref 20]) (st' := []) (E' := E) (I' := (u_I (u_I (u_I (u_I (u_I (u_I (u_I I 42 (va_cpy (I 21) (I 42) 0 0 16)) 43 (va_cpy (I 22) (I 43) 0 0 16)) 44 (va_cpy (I 23) (I 44) 0 0 4)) 45 (va_cpy (I 24) (I 45) 0 0 4)) 46 (va_cpy (I 25) (I 46) 0 0 4)) 47 (va_cpy (I 26) (I 47) 0 0 3)) 41 (upd (I 41) 6 ((I 20) 6)))) (J' := J) (S' := S) am_e50 rfl rfl rfl rfl ?_
  exact w_end am_e50 rfl rfl rfl h
-- 55 copy
theorem g55_0_19_40  {E : am_Ev} {I : Nat → Nat → Int32} {J : Nat → Nat → Int64} {S : Nat → Nat → Option Nat} {Q : am_Qt}  (h : am_cl 50 [.ref 20, .ref 41] E I J S (q_V fun E1 I1 J1 S1 => Q (.inl none) E1 (u_I I1 19 (upd (upd (I1 19) 1 ((I1 40) 1)) 2 ((I1 40) 2))) J1 S1)) : am_ww 55 0 [.ref 19, .ref 40] [] E I J S Q := by
  refine w_st (i' := 1) (ls' := [.ref 19, .ref 40]) (st' := [.ref 19]) (E' := E) (I' := I) (J' := J) (S' := S) am_e55 rfl rfl rfl rfl ?_
  refine w_st (i' := 2) (ls' := [.ref 19, .ref 40]) (st' := [.ref 20]) (E' := E) (I' := I) (J' := J) (S' := S) am_e55 rfl rfl rfl rfl ?_
  refine w_st (i' := 3) (ls' := [.ref 19, .ref 40]) (st' := [.ref 40, .ref 20]) (E' := E) (I' := I) (J' := J) (S' := S) am_e55 rfl rfl rfl rfl ?_
  refine w_st (i' := 4) (ls' := [.ref 19, .ref 40]) (st' := [.ref 41, .ref 20]) (E' := E) (I' := I) (J' := J) (S' := S) am_e55 rfl rfl rfl rfl ?_
  refine w_cV am_e55 rfl rfl (as := [.ref 20, .ref 41]) (rest := []) rfl rfl (am_ww.mono h ?_)
  rintro _ E1 I1 J1 S1 ⟨rfl, h⟩
  refine q_mkV ?_
  refine w_st (i' := 6) (ls' := [.ref 19, .ref 40]) (st' := [.ref 19]) (E' := E1) (I' := I1) (J' := J1) (S' := S1) am_e55 rfl rfl rfl rfl ?_
  refine w_st (i' := 7) (ls' := [.ref 19, .ref 40]) (st' := [.ref 40, .ref 19]) (E' := E1) (I' := I1) (J' := J1) (S' := S1) am_e55 rfl rfl rfl rfl ?_
  refine w_st (i' := 8) (ls' := [.ref 19, .ref 40]) (st' := [.int ((I1 40) 1), .ref 19]) (E' := E1) (I' := I1) (J' := J1) (S' := S1) am_e55 rfl rfl rfl rfl ?_
  refine w_st (i' := 9) (ls' := [.ref 19, .ref 40]) (st' := []) (E' := E1) (I' := (u_I I1 19 (upd (I1 19) 1 ((I1 40) 1)))) (J' := J1) (S' := S1) am_e55 rfl rfl rfl rfl ?_
  refine w_st (i' := 10) (ls' := [.ref 19, .ref 40]) (st' := [.ref 19]) (E' := E1) (I' := (u_I I1 19 (upd (I1 19) 1 ((I1 40) 1)))) (J' := J1) (S' := S1) am_e55 rfl rfl rfl rfl ?_
  refine w_st (i' := 11) (ls' := [.ref 19, .ref 40]) (st' := [.ref 40, .ref 19]) (E' := E1) (I' := (u_I I1 19 (upd (I1 19) 1 ((I1 40) 1)))) (J' := J1) (S' := S1) am_e55 rfl rfl rfl rfl ?_
  refine w_st (i' := 12) (ls' := [.ref 19, .ref 40]) (st' := [.int ((I1 40) 2), .ref 19]) (E' := E1) (I' := (u_I I1 19 (upd (I1 19) 1 ((I1 40) 1)))) (J' := J1) (S' := S1) am_e55 rfl rfl rfl rfl ?_
  refine w_st (i' := 13) (ls' := [.ref 19, .ref 40]) (st' := []) (E' := E1) (I' := (u_I (u_I I1 19 (upd (I1 19) 1 ((I1 40) 1))) 19 (upd (upd (I1 19) 1 ((I1 40) 1)) 2 ((I1 40) 2)))) (J' := J1) (S' := S1) am_e55 rfl rfl rfl rfl ?_
  refine w_eI (uI_0 ..) ?_
  show am_ww 55 13 [.ref 19, .ref 40] [] E1 (u_I I1 19 (upd (upd (I1 19) 1 ((I1 40) 1)) 2 ((I1 40) 2))) J1 S1 _
  exact w_end am_e55 rfl rfl rfl h
-- 55 copy
theorem g55_0_40_19  {E : am_Ev} {I : Nat → Nat → Int32} {J : Nat → Nat → Int64} {S : Nat → Nat → Option Nat} {Q : am_Qt}  (h : am_cl 50 [.ref 41, .ref 20] E I J S (q_V fun E1 I1 J1 S1 => Q (.inl none) E1 (u_I I1 40 (upd (upd (I1 40) 1 ((I1 19) 1)) 2 ((I1 19) 2))) J1 S1)) : am_ww 55 0 [.ref 40, .ref 19] [] E I J S Q := by
  refine w_st (i' := 1) (ls' := [.ref 40, .ref 19]) (st' := [.ref 40]) (E' := E) (I' := I) (J' := J) (S' := S) am_e55 rfl rfl rfl rfl ?_
  refine w_st (i' := 2) (ls' := [.ref 40, .ref 19]) (st' := [.ref 41]) (E' := E) (I' := I) (J' := J) (S' := S) am_e55 rfl rfl rfl rfl ?_
  refine w_st (i' := 3) (ls' := [.ref 40, .ref 19]) (st' := [.ref 19, .ref 41]) (E' := E) (I' := I) (J' := J) (S' := S) am_e55 rfl rfl rfl rfl ?_
  refine w_st (i' := 4) (ls' := [.ref 40, .ref 19]) (st' := [.ref 20, .ref 41]) (E' := E) (I' := I) (J' := J) (S' := S) am_e55 rfl rfl rfl rfl ?_
  refine w_cV am_e55 rfl rfl (as := [.ref 41, .ref 20]) (rest := []) rfl rfl (am_ww.mono h ?_)
  rintro _ E1 I1 J1 S1 ⟨rfl, h⟩
  refine q_mkV ?_
  refine w_st (i' := 6) (ls' := [.ref 40, .ref 19]) (st' := [.ref 40]) (E' := E1) (I' := I1) (J' := J1) (S' := S1) am_e55 rfl rfl rfl rfl ?_
  refine w_st (i' := 7) (ls' := [.ref 40, .ref 19]) (st' := [.ref 19, .ref 40]) (E' := E1) (I' := I1) (J' := J1) (S' := S1) am_e55 rfl rfl rfl rfl ?_
  refine w_st (i' := 8) (ls' := [.ref 40, .ref 19]) (st' := [.int ((I1 19) 1), .ref 40]) (E' := E1) (I' := I1) (J' := J1) (S' := S1) am_e55 rfl rfl rfl rfl ?_
  refine w_st (i' := 9) (ls' := [.ref 40, .ref 19]) (st' := []) (E' := E1) (I' := (u_I I1 40 (upd (I1 40) 1 ((I1 19) 1)))) (J' := J1) (S' := S1) am_e55 rfl rfl rfl rfl ?_
  refine w_st (i' := 10) (ls' := [.ref 40, .ref 19]) (st' := [.ref 40]) (E' := E1) (I' := (u_I I1 40 (upd (I1 40) 1 ((I1 19) 1)))) (J' := J1) (S' := S1) am_e55 rfl rfl rfl rfl ?_
  refine w_st (i' := 11) (ls' := [.ref 40, .ref 19]) (st' := [.ref 19, .ref 40]) (E' := E1) (I' := (u_I I1 40 (upd (I1 40) 1 ((I1 19) 1)))) (J' := J1) (S' := S1) am_e55 rfl rfl rfl rfl ?_
  refine w_st (i' := 12) (ls' := [.ref 40, .ref 19]) (st' := [.int ((I1 19) 2), .ref 40]) (E' := E1) (I' := (u_I I1 40 (upd (I1 40) 1 ((I1 19) 1)))) (J' := J1) (S' := S1) am_e55 rfl rfl rfl rfl ?_
  refine w_st (i' := 13) (ls' := [.ref 40, .ref 19]) (st' := []) (E' := E1) (I' := (u_I (u_I I1 40 (upd (I1 40) 1 ((I1 19) 1))) 40 (upd (upd (I1 40) 1 ((I1 19) 1)) 2 ((I1 19) 2)))) (J' := J1) (S' := S1) am_e55 rfl rfl rfl rfl ?_
  refine w_eI (uI_0 ..) ?_
  show am_ww 55 13 [.ref 40, .ref 19] [] E1 (u_I I1 40 (upd (upd (I1 40) 1 ((I1 19) 1)) 2 ((I1 19) 2))) J1 S1 _
  exact w_end am_e55 rfl rfl rfl h
-- 56 copy
theorem g56_0_34_55  {E : am_Ev} {I : Nat → Nat → Int32} {J : Nat → Nat → Int64} {S : Nat → Nat → Option Nat} {Q : am_Qt}  (h : Q (.inl none) E (u_I (u_I (u_I (u_I (u_I I 35 (va_cpy (I 56) (I 35) 0 0 40)) 36 (va_cpy (I 57) (I 36) 0 0 40)) 37 (va_cpy (I 58) (I 37) 0 0 40)) 38 (va_cpy (I 59) (I 38) 0 0 40)) 34 (upd (I 34) 4 ((I 55) 4))) J S) : am_ww 56 0 [.ref 34, .ref 55] [] E I J S Q := by
  refine w_st (i' := 1) (ls' := [.ref 34, .ref 55]) (st' := [.ref 55]) (E' := E) (I' := I) (J' := J) (S' := S) am_e56 rfl rfl rfl rfl ?_
  refine w_st (i' := 2) (ls' := [.ref 34, .ref 55]) (st' := [.ref 56]) (E' := E) (I' := I) (J' := J) (S' := S) am_e56 rfl rfl rfl rfl ?_
  refine w_st (i' := 3) (ls' := [.ref 34, .ref 55]) (st' := [.int (nI 0), .ref 56]) (E' := E) (I' := I) (J' := J) (S' := S) am_e56 rfl rfl rfl rfl ?_
  refine w_st (i' := 4) (ls' := [.ref 34, .ref 55]) (st' := [.ref 34, .int (nI 0), .ref 56]) (E' := E) (I' := I) (J' := J) (S' := S) am_e56 rfl rfl rfl rfl ?_
  refine w_st (i' := 5) (ls' := [.ref 34, .ref 55]) (st' := [.ref 35, .int (nI 0), .ref 56]) (E' := E) (I' := I) (J' := J) (S' := S) am_e56 rfl rfl rfl rfl ?_
  refine w_st (i' := 6) (ls' := [.ref 34, .ref 55]) (st' := [.int (nI 0), .ref 35, .int (nI 0), .ref 56]) (E' := E) (I' := I) (J' := J) (S' := S) am_e56 rfl rfl rfl rfl ?_
  refine w_st (i' := 7) (ls' := [.ref 34, .ref 55]) (st' := [.int (nI 40), .int (nI 0), .ref 35, .int (nI 0), .ref 56]) (E' := E) (I' := I) (J' := J) (S' := S) am_e56 rfl rfl rfl rfl ?_
  refine w_cp (k := 56) (a := 35) (nk := 40) (na := 40) am_e56 rfl (by decide) (by decide) rfl rfl (by decide) (by unfold am_cpOk; decide) ?_
  show am_ww 56 8 [.ref 34, .ref 55] [] E (u_I I 35 (va_cpy (I 56) (I 35) 0 0 40)) J S _
  refine w_st (i' := 9) (ls' := [.ref 34, .ref 55]) (st' := [.ref 55]) (E' := E) (I' := (u_I I 35 (va_cpy (I 56) (I 35) 0 0 40))) (J' := J) (S' := S) am_e56 rfl rfl rfl rfl ?_
  refine w_st (i' := 10) (ls' := [.ref 34, .ref 55]) (st' := [.ref 57]) (E' := E) (I' := (u_I I 35 (va_cpy (I 56) (I 35) 0 0 40))) (J' := J) (S' := S) am_e56 rfl rfl rfl rfl ?_
  refine w_st (i' := 11) (ls' := [.ref 34, .ref 55]) (st' := [.int (nI 0), .ref 57]) (E' := E) (I' := (u_I I 35 (va_cpy (I 56) (I 35) 0 0 40))) (J' := J) (S' := S) am_e56 rfl rfl rfl rfl ?_
  refine w_st (i' := 12) (ls' := [.ref 34, .ref 55]) (st' := [.ref 34, .int (nI 0), .ref 57]) (E' := E) (I' := (u_I I 35 (va_cpy (I 56) (I 35) 0 0 40))) (J' := J) (S' := S) am_e56 rfl rfl rfl rfl ?_
  refine w_st (i' := 13) (ls' := [.ref 34, .ref 55]) (st' := [.ref 36, .int (nI 0), .ref 57]) (E' := E) (I' := (u_I I 35 (va_cpy (I 56) (I 35) 0 0 40))) (J' := J) (S' := S) am_e56 rfl rfl rfl rfl ?_
  refine w_st (i' := 14) (ls' := [.ref 34, .ref 55]) (st' := [.int (nI 0), .ref 36, .int (nI 0), .ref 57]) (E' := E) (I' := (u_I I 35 (va_cpy (I 56) (I 35) 0 0 40))) (J' := J) (S' := S) am_e56 rfl rfl rfl rfl ?_
  refine w_st (i' := 15) (ls' := [.ref 34, .ref 55]) (st' := [.int (nI 40), .int (nI 0), .ref 36, .int (nI 0), .ref 57]) (E' := E) (I' := (u_I I 35 (va_cpy (I 56) (I 35) 0 0 40))) (J' := J) (S' := S) am_e56 rfl rfl rfl rfl ?_
  refine w_cp (k := 57) (a := 36) (nk := 40) (na := 40) am_e56 rfl (by decide) (by decide) rfl rfl (by decide) (by unfold am_cpOk; decide) ?_
  show am_ww 56 16 [.ref 34, .ref 55] [] E (u_I (u_I I 35 (va_cpy (I 56) (I 35) 0 0 40)) 36 (va_cpy (I 57) (I 36) 0 0 40)) J S _
  refine w_st (i' := 17) (ls' := [.ref 34, .ref 55]) (st' := [.ref 55]) (E' := E) (I' := (u_I (u_I I 35 (va_cpy (I 56) (I 35) 0 0 40)) 36 (va_cpy (I 57) (I 36) 0 0 40))) (J' := J) (S' := S) am_e56 rfl rfl rfl rfl ?_
  refine w_st (i' := 18) (ls' := [.ref 34, .ref 55]) (st' := [.ref 58]) (E' := E) (I' := (u_I (u_I I 35 (va_cpy (I 56) (I 35) 0 0 40)) 36 (va_cpy (I 57) (I 36) 0 0 40))) (J' := J) (S' := S) am_e56 rfl rfl rfl rfl ?_
  refine w_st (i' := 19) (ls' := [.ref 34, .ref 55]) (st' := [.int (nI 0), .ref 58]) (E' := E) (I' := (u_I (u_I I 35 (va_cpy (I 56) (I 35) 0 0 40)) 36 (va_cpy (I 57) (I 36) 0 0 40))) (J' := J) (S' := S) am_e56 rfl rfl rfl rfl ?_
  refine w_st (i' := 20) (ls' := [.ref 34, .ref 55]) (st' := [.ref 34, .int (nI 0), .ref 58]) (E' := E) (I' := (u_I (u_I I 35 (va_cpy (I 56) (I 35) 0 0 40)) 36 (va_cpy (I 57) (I 36) 0 0 40))) (J' := J) (S' := S) am_e56 rfl rfl rfl rfl ?_
  refine w_st (i' := 21) (ls' := [.ref 34, .ref 55]) (st' := [.ref 37, .int (nI 0), .ref 58]) (E' := E) (I' := (u_I (u_I I 35 (va_cpy (I 56) (I 35) 0 0 40)) 36 (va_cpy (I 57) (I 36) 0 0 40))) (J' := J) (S' := S) am_e56 rfl rfl rfl rfl ?_
  refine w_st (i' := 22) (ls' := [.ref 34, .ref 55]) (st' := [.int (nI 0), .ref 37, .int (nI 0), .ref 58]) (E' := E) (I' := (u_I (u_I I 35 (va_cpy (I 56) (I 35) 0 0 40)) 36 (va_cpy (I 57) (I 36) 0 0 40))) (J' := J) (S' := S) am_e56 rfl rfl rfl rfl ?_
  refine w_st (i' := 23) (ls' := [.ref 34, .ref 55]) (st' := [.int (nI 40), .int (nI 0), .ref 37, .int (nI 0), .ref 58]) (E' := E) (I' := (u_I (u_I I 35 (va_cpy (I 56) (I 35) 0 0 40)) 36 (va_cpy (I 57) (I 36) 0 0 40))) (J' := J) (S' := S) am_e56 rfl rfl rfl rfl ?_
  refine w_cp (k := 58) (a := 37) (nk := 40) (na := 40) am_e56 rfl (by decide) (by decide) rfl rfl (by decide) (by unfold am_cpOk; decide) ?_
  show am_ww 56 24 [.ref 34, .ref 55] [] E (u_I (u_I (u_I I 35 (va_cpy (I 56) (I 35) 0 0 40)) 36 (va_cpy (I 57) (I 36) 0 0 40)) 37 (va_cpy (I 58) (I 37) 0 0 40)) J S _
  refine w_st (i' := 25) (ls' := [.ref 34, .ref 55]) (st' := [.ref 55]) (E' := E) (I' := (u_I (u_I (u_I I 35 (va_cpy (I 56) (I 35) 0 0 40)) 36 (va_cpy (I 57) (I 36) 0 0 40)) 37 (va_cpy (I 58) (I 37) 0 0 40))) (J' := J) (S' := S) am_e56 rfl rfl rfl rfl ?_
  refine w_st (i' := 26) (ls' := [.ref 34, .ref 55]) (st' := [.ref 59]) (E' := E) (I' := (u_I (u_I (u_I I 35 (va_cpy (I 56) (I 35) 0 0 40)) 36 (va_cpy (I 57) (I 36) 0 0 40)) 37 (va_cpy (I 58) (I 37) 0 0 40))) (J' := J) (S' := S) am_e56 rfl rfl rfl rfl ?_
  refine w_st (i' := 27) (ls' := [.ref 34, .ref 55]) (st' := [.int (nI 0), .ref 59]) (E' := E) (I' := (u_I (u_I (u_I I 35 (va_cpy (I 56) (I 35) 0 0 40)) 36 (va_cpy (I 57) (I 36) 0 0 40)) 37 (va_cpy (I 58) (I 37) 0 0 40))) (J' := J) (S' := S) am_e56 rfl rfl rfl rfl ?_
  refine w_st (i' := 28) (ls' := [.ref 34, .ref 55]) (st' := [.ref 34, .int (nI 0), .ref 59]) (E' := E) (I' := (u_I (u_I (u_I I 35 (va_cpy (I 56) (I 35) 0 0 40)) 36 (va_cpy (I 57) (I 36) 0 0 40)) 37 (va_cpy (I 58) (I 37) 0 0 40))) (J' := J) (S' := S) am_e56 rfl rfl rfl rfl ?_
  refine w_st (i' := 29) (ls' := [.ref 34, .ref 55]) (st' := [.ref 38, .int (nI 0), .ref 59]) (E' := E) (I' := (u_I (u_I (u_I I 35 (va_cpy (I 56) (I 35) 0 0 40)) 36 (va_cpy (I 57) (I 36) 0 0 40)) 37 (va_cpy (I 58) (I 37) 0 0 40))) (J' := J) (S' := S) am_e56 rfl rfl rfl rfl ?_
  refine w_st (i' := 30) (ls' := [.ref 34, .ref 55]) (st' := [.int (nI 0), .ref 38, .int (nI 0), .ref 59]) (E' := E) (I' := (u_I (u_I (u_I I 35 (va_cpy (I 56) (I 35) 0 0 40)) 36 (va_cpy (I 57) (I 36) 0 0 40)) 37 (va_cpy (I 58) (I 37) 0 0 40))) (J' := J) (S' := S) am_e56 rfl rfl rfl rfl ?_
  refine w_st (i' := 31) (ls' := [.ref 34, .ref 55]) (st' := [.int (nI 40), .int (nI 0), .ref 38, .int (nI 0), .ref 59]) (E' := E) (I' := (u_I (u_I (u_I I 35 (va_cpy (I 56) (I 35) 0 0 40)) 36 (va_cpy (I 57) (I 36) 0 0 40)) 37 (va_cpy (I 58) (I 37) 0 0 40))) (J' := J) (S' := S) am_e56 rfl rfl rfl rfl ?_
  refine w_cp (k := 59) (a := 38) (nk := 40) (na := 40) am_e56 rfl (by decide) (by decide) rfl rfl (by decide) (by unfold am_cpOk; decide) ?_
  show am_ww 56 32 [.ref 34, .ref 55] [] E (u_I (u_I (u_I (u_I I 35 (va_cpy (I 56) (I 35) 0 0 40)) 36 (va_cpy (I 57) (I 36) 0 0 40)) 37 (va_cpy (I 58) (I 37) 0 0 40)) 38 (va_cpy (I 59) (I 38) 0 0 40)) J S _
  refine w_st (i' := 33) (ls' := [.ref 34, .ref 55]) (st' := [.ref 34]) (E' := E) (I' := (u_I (u_I (u_I (u_I I 35 (va_cpy (I 56) (I 35) 0 0 40)) 36 (va_cpy (I 57) (I 36) 0 0 40)) 37 (va_cpy (I 58) (I 37) 0 0 40)) 38 (va_cpy (I 59) (I 38) 0 0 40))) (J' := J) (S' := S) am_e56 rfl rfl rfl rfl ?_
  refine w_st (i' := 34) (ls' := [.ref 34, .ref 55]) (st' := [.ref 55, .ref 34]) (E' := E) (I' := (u_I (u_I (u_I (u_I I 35 (va_cpy (I 56) (I 35) 0 0 40)) 36 (va_cpy (I 57) (I 36) 0 0 40)) 37 (va_cpy (I 58) (I 37) 0 0 40)) 38 (va_cpy (I 59) (I 38) 0 0 40))) (J' := J) (S' := S) am_e56 rfl rfl rfl rfl ?_
  refine w_st (i' := 35) (ls' := [.ref 34, .ref 55]) (st' := [.int ((I 55) 4), .ref 34]) (E' := E) (I' := (u_I (u_I (u_I (u_I I 35 (va_cpy (I 56) (I 35) 0 0 40)) 36 (va_cpy (I 57) (I 36) 0 0 40)) 37 (va_cpy (I 58) (I 37) 0 0 40)) 38 (va_cpy (I 59) (I 38) 0 0 40))) (J' := J) (S' := S) am_e56 rfl rfl rfl rfl ?_
  refine w_st (i' := 36) (ls' := [.ref 34, .ref 55]) (st' := []) (E' := E) (I' := (u_I (u_I (u_I (u_I (u_I I 35 (va_cpy (I 56) (I 35) 0 0 40)) 36 (va_cpy (I 57) (I 36) 0 0 40)) 37 (va_cpy (I 58) (I 37) 0 0 40)) 38 (va_cpy (I 59) (I 38) 0 0 40)) 34 (upd (I 34) 4 ((I 55) 4)))) (J' := J) (S' := S) am_e56 rfl rfl rfl rfl ?_
  exact w_end am_e56 rfl rfl rfl h
-- 56 copy
theorem g56_0_55_34  {E : am_Ev} {I : Nat → Nat → Int32} {J : Nat → Nat → Int64} {S : Nat → Nat → Option Nat} {Q : am_Qt}  (h : Q (.inl none) E (u_I (u_I (u_I (u_I (u_I I 56 (va_cpy (I 35) (I 56) 0 0 40)) 57 (va_cpy (I 36) (I 57) 0 0 40)) 58 (va_cpy (I 37) (I 58) 0 0 40)) 59 (va_cpy (I 38) (I 59) 0 0 40)) 55 (upd (I 55) 4 ((I 34) 4))) J S) : am_ww 56 0 [.ref 55, .ref 34] [] E I J S Q := by
  refine w_st (i' := 1) (ls' := [.ref 55, .ref 34]) (st' := [.ref 34]) (E' := E) (I' := I) (J' := J) (S' := S) am_e56 rfl rfl rfl rfl ?_
  refine w_st (i' := 2) (ls' := [.ref 55, .ref 34]) (st' := [.ref 35]) (E' := E) (I' := I) (J' := J) (S' := S) am_e56 rfl rfl rfl rfl ?_
  refine w_st (i' := 3) (ls' := [.ref 55, .ref 34]) (st' := [.int (nI 0), .ref 35]) (E' := E) (I' := I) (J' := J) (S' := S) am_e56 rfl rfl rfl rfl ?_
  refine w_st (i' := 4) (ls' := [.ref 55, .ref 34]) (st' := [.ref 55, .int (nI 0), .ref 35]) (E' := E) (I' := I) (J' := J) (S' := S) am_e56 rfl rfl rfl rfl ?_
  refine w_st (i' := 5) (ls' := [.ref 55, .ref 34]) (st' := [.ref 56, .int (nI 0), .ref 35]) (E' := E) (I' := I) (J' := J) (S' := S) am_e56 rfl rfl rfl rfl ?_
  refine w_st (i' := 6) (ls' := [.ref 55, .ref 34]) (st' := [.int (nI 0), .ref 56, .int (nI 0), .ref 35]) (E' := E) (I' := I) (J' := J) (S' := S) am_e56 rfl rfl rfl rfl ?_
  refine w_st (i' := 7) (ls' := [.ref 55, .ref 34]) (st' := [.int (nI 40), .int (nI 0), .ref 56, .int (nI 0), .ref 35]) (E' := E) (I' := I) (J' := J) (S' := S) am_e56 rfl rfl rfl rfl ?_
  refine w_cp (k := 35) (a := 56) (nk := 40) (na := 40) am_e56 rfl (by decide) (by decide) rfl rfl (by decide) (by unfold am_cpOk; decide) ?_
  show am_ww 56 8 [.ref 55, .ref 34] [] E (u_I I 56 (va_cpy (I 35) (I 56) 0 0 40)) J S _
  refine w_st (i' := 9) (ls' := [.ref 55, .ref 34]) (st' := [.ref 34]) (E' := E) (I' := (u_I I 56 (va_cpy (I 35) (I 56) 0 0 40))) (J' := J) (S' := S) am_e56 rfl rfl rfl rfl ?_
  refine w_st (i' := 10) (ls' := [.ref 55, .ref 34]) (st' := [.ref 36]) (E' := E) (I' := (u_I I 56 (va_cpy (I 35) (I 56) 0 0 40))) (J' := J) (S' := S) am_e56 rfl rfl rfl rfl ?_
  refine w_st (i' := 11) (ls' := [.ref 55, .ref 34]) (st' := [.int (nI 0), .ref 36]) (E' := E) (I' := (u_I I 56 (va_cpy (I 35) (I 56) 0 0 40))) (J' := J) (S' := S) am_e56 rfl rfl rfl rfl ?_
  refine w_st (i' := 12) (ls' := [.ref 55, .ref 34]) (st' := [.ref 55, .int (nI 0), .ref 36]) (E' := E) (I' := (u_I I 56 (va_cpy (I 35) (I 56) 0 0 40))) (J' := J) (S' := S) am_e56 rfl rfl rfl rfl ?_
  refine w_st (i' := 13) (ls' := [.ref 55, .ref 34]) (st' := [.ref 57, .int (nI 0), .ref 36]) (E' := E) (I' := (u_I I 56 (va_cpy (I 35) (I 56) 0 0 40))) (J' := J) (S' := S) am_e56 rfl rfl rfl rfl ?_
  refine w_st (i' := 14) (ls' := [.ref 55, .ref 34]) (st' := [.int (nI 0), .ref 57, .int (nI 0), .ref 36]) (E' := E) (I' := (u_I I 56 (va_cpy (I 35) (I 56) 0 0 40))) (J' := J) (S' := S) am_e56 rfl rfl rfl rfl ?_
  refine w_st (i' := 15) (ls' := [.ref 55, .ref 34]) (st' := [.int (nI 40), .int (nI 0), .ref 57, .int (nI 0), .ref 36]) (E' := E) (I' := (u_I I 56 (va_cpy (I 35) (I 56) 0 0 40))) (J' := J) (S' := S) am_e56 rfl rfl rfl rfl ?_
  refine w_cp (k := 36) (a := 57) (nk := 40) (na := 40) am_e56 rfl (by decide) (by decide) rfl rfl (by decide) (by unfold am_cpOk; decide) ?_
  show am_ww 56 16 [.ref 55, .ref 34] [] E (u_I (u_I I 56 (va_cpy (I 35) (I 56) 0 0 40)) 57 (va_cpy (I 36) (I 57) 0 0 40)) J S _
  refine w_st (i' := 17) (ls' := [.ref 55, .ref 34]) (st' := [.ref 34]) (E' := E) (I' := (u_I (u_I I 56 (va_cpy (I 35) (I 56) 0 0 40)) 57 (va_cpy (I 36) (I 57) 0 0 40))) (J' := J) (S' := S) am_e56 rfl rfl rfl rfl ?_
  refine w_st (i' := 18) (ls' := [.ref 55, .ref 34]) (st' := [.ref 37]) (E' := E) (I' := (u_I (u_I I 56 (va_cpy (I 35) (I 56) 0 0 40)) 57 (va_cpy (I 36) (I 57) 0 0 40))) (J' := J) (S' := S) am_e56 rfl rfl rfl rfl ?_
  refine w_st (i' := 19) (ls' := [.ref 55, .ref 34]) (st' := [.int (nI 0), .ref 37]) (E' := E) (I' := (u_I (u_I I 56 (va_cpy (I 35) (I 56) 0 0 40)) 57 (va_cpy (I 36) (I 57) 0 0 40))) (J' := J) (S' := S) am_e56 rfl rfl rfl rfl ?_
  refine w_st (i' := 20) (ls' := [.ref 55, .ref 34]) (st' := [.ref 55, .int (nI 0), .ref 37]) (E' := E) (I' := (u_I (u_I I 56 (va_cpy (I 35) (I 56) 0 0 40)) 57 (va_cpy (I 36) (I 57) 0 0 40))) (J' := J) (S' := S) am_e56 rfl rfl rfl rfl ?_
  refine w_st (i' := 21) (ls' := [.ref 55, .ref 34]) (st' := [.ref 58, .int (nI 0), .ref 37]) (E' := E) (I' := (u_I (u_I I 56 (va_cpy (I 35) (I 56) 0 0 40)) 57 (va_cpy (I 36) (I 57) 0 0 40))) (J' := J) (S' := S) am_e56 rfl rfl rfl rfl ?_
  refine w_st (i' := 22) (ls' := [.ref 55, .ref 34]) (st' := [.int (nI 0), .ref 58, .int (nI 0), .ref 37]) (E' := E) (I' := (u_I (u_I I 56 (va_cpy (I 35) (I 56) 0 0 40)) 57 (va_cpy (I 36) (I 57) 0 0 40))) (J' := J) (S' := S) am_e56 rfl rfl rfl rfl ?_
  refine w_st (i' := 23) (ls' := [.ref 55, .ref 34]) (st' := [.int (nI 40), .int (nI 0), .ref 58, .int (nI 0), .ref 37]) (E' := E) (I' := (u_I (u_I I 56 (va_cpy (I 35) (I 56) 0 0 40)) 57 (va_cpy (I 36) (I 57) 0 0 40))) (J' := J) (S' := S) am_e56 rfl rfl rfl rfl ?_
  refine w_cp (k := 37) (a := 58) (nk := 40) (na := 40) am_e56 rfl (by decide) (by decide) rfl rfl (by decide) (by unfold am_cpOk; decide) ?_
  show am_ww 56 24 [.ref 55, .ref 34] [] E (u_I (u_I (u_I I 56 (va_cpy (I 35) (I 56) 0 0 40)) 57 (va_cpy (I 36) (I 57) 0 0 40)) 58 (va_cpy (I 37) (I 58) 0 0 40)) J S _
  refine w_st (i' := 25) (ls' := [.ref 55, .ref 34]) (st' := [.ref 34]) (E' := E) (I' := (u_I (u_I (u_I I 56 (va_cpy (I 35) (I 56) 0 0 40)) 57 (va_cpy (I 36) (I 57) 0 0 40)) 58 (va_cpy (I 37) (I 58) 0 0 40))) (J' := J) (S' := S) am_e56 rfl rfl rfl rfl ?_
  refine w_st (i' := 26) (ls' := [.ref 55, .ref 34]) (st' := [.ref 38]) (E' := E) (I' := (u_I (u_I (u_I I 56 (va_cpy (I 35) (I 56) 0 0 40)) 57 (va_cpy (I 36) (I 57) 0 0 40)) 58 (va_cpy (I 37) (I 58) 0 0 40))) (J' := J) (S' := S) am_e56 rfl rfl rfl rfl ?_
  refine w_st (i' := 27) (ls' := [.ref 55, .ref 34]) (st' := [.int (nI 0), .ref 38]) (E' := E) (I' := (u_I (u_I (u_I I 56 (va_cpy (I 35) (I 56) 0 0 40)) 57 (va_cpy (I 36) (I 57) 0 0 40)) 58 (va_cpy (I 37) (I 58) 0 0 40))) (J' := J) (S' := S) am_e56 rfl rfl rfl rfl ?_
  refine w_st (i' := 28) (ls' := [.ref 55, .ref 34]) (st' := [.ref 55, .int (nI 0), .ref 38]) (E' := E) (I' := (u_I (u_I (u_I I 56 (va_cpy (I 35) (I 56) 0 0 40)) 57 (va_cpy (I 36) (I 57) 0 0 40)) 58 (va_cpy (I 37) (I 58) 0 0 40))) (J' := J) (S' := S) am_e56 rfl rfl rfl rfl ?_
  refine w_st (i' := 29) (ls' := [.ref 55, .ref 34]) (st' := [.ref 59, .int (nI 0), .ref 38]) (E' := E) (I' := (u_I (u_I (u_I I 56 (va_cpy (I 35) (I 56) 0 0 40)) 57 (va_cpy (I 36) (I 57) 0 0 40)) 58 (va_cpy (I 37) (I 58) 0 0 40))) (J' := J) (S' := S) am_e56 rfl rfl rfl rfl ?_
  refine w_st (i' := 30) (ls' := [.ref 55, .ref 34]) (st' := [.int (nI 0), .ref 59, .int (nI 0), .ref 38]) (E' := E) (I' := (u_I (u_I (u_I I 56 (va_cpy (I 35) (I 56) 0 0 40)) 57 (va_cpy (I 36) (I 57) 0 0 40)) 58 (va_cpy (I 37) (I 58) 0 0 40))) (J' := J) (S' := S) am_e56 rfl rfl rfl rfl ?_
  refine w_st (i' := 31) (ls' := [.ref 55, .ref 34]) (st' := [.int (nI 40), .int (nI 0), .ref 59, .int (nI 0), .ref 38]) (E' := E) (I' := (u_I (u_I (u_I I 56 (va_cpy (I 35) (I 56) 0 0 40)) 57 (va_cpy (I 36) (I 57) 0 0 40)) 58 (va_cpy (I 37) (I 58) 0 0 40))) (J' := J) (S' := S) am_e56 rfl rfl rfl rfl ?_
  refine w_cp (k := 38) (a := 59) (nk := 40) (na := 40) am_e56 rfl (by decide) (by decide) rfl rfl (by decide) (by unfold am_cpOk; decide) ?_
  show am_ww 56 32 [.ref 55, .ref 34] [] E (u_I (u_I (u_I (u_I I 56 (va_cpy (I 35) (I 56) 0 0 40)) 57 (va_cpy (I 36) (I 57) 0 0 40)) 58 (va_cpy (I 37) (I 58) 0 0 40)) 59 (va_cpy (I 38) (I 59) 0 0 40)) J S _
  refine w_st (i' := 33) (ls' := [.ref 55, .ref 34]) (st' := [.ref 55]) (E' := E) (I' := (u_I (u_I (u_I (u_I I 56 (va_cpy (I 35) (I 56) 0 0 40)) 57 (va_cpy (I 36) (I 57) 0 0 40)) 58 (va_cpy (I 37) (I 58) 0 0 40)) 59 (va_cpy (I 38) (I 59) 0 0 40))) (J' := J) (S' := S) am_e56 rfl rfl rfl rfl ?_
  refine w_st (i' := 34) (ls' := [.ref 55, .ref 34]) (st' := [.ref 34, .ref 55]) (E' := E) (I' := (u_I (u_I (u_I (u_I I 56 (va_cpy (I 35) (I 56) 0 0 40)) 57 (va_cpy (I 36) (I 57) 0 0 40)) 58 (va_cpy (I 37) (I 58) 0 0 40)) 59 (va_cpy (I 38) (I 59) 0 0 40))) (J' := J) (S' := S) am_e56 rfl rfl rfl rfl ?_
  refine w_st (i' := 35) (ls' := [.ref 55, .ref 34]) (st' := [.int ((I 34) 4), .ref 55]) (E' := E) (I' := (u_I (u_I (u_I (u_I I 56 (va_cpy (I 35) (I 56) 0 0 40)) 57 (va_cpy (I 36) (I 57) 0 0 40)) 58 (va_cpy (I 37) (I 58) 0 0 40)) 59 (va_cpy (I 38) (I 59) 0 0 40))) (J' := J) (S' := S) am_e56 rfl rfl rfl rfl ?_
  refine w_st (i' := 36) (ls' := [.ref 55, .ref 34]) (st' := []) (E' := E) (I' := (u_I (u_I (u_I (u_I (u_I I 56 (va_cpy (I 35) (I 56) 0 0 40)) 57 (va_cpy (I 36) (I 57) 0 0 40)) 58 (va_cpy (I 37) (I 58) 0 0 40)) 59 (va_cpy (I 38) (I 59) 0 0 40)) 55 (upd (I 55) 4 ((I 34) 4)))) (J' := J) (S' := S) am_e56 rfl rfl rfl rfl ?_
  exact w_end am_e56 rfl rfl rfl h
-- 54 copy
theorem g54_0_18_39  {E : am_Ev} {I : Nat → Nat → Int32} {J : Nat → Nat → Int64} {S : Nat → Nat → Option Nat} {Q : am_Qt}  (h : am_cl 55 [.ref 19, .ref 40] E I J S (q_V fun E1 I1 J1 S1 => am_cl 56 [.ref 34, .ref 55] E1 (u_I (u_I (u_I (u_I (u_I (u_I (u_I I1 27 (va_cpy (I1 48) (I1 27) 0 0 90)) 28 (va_cpy (I1 49) (I1 28) 0 0 3)) 29 (va_cpy (I1 50) (I1 29) 0 0 400)) 30 (va_cpy (I1 51) (I1 30) 0 0 400)) 31 (va_cpy (I1 52) (I1 31) 0 0 400)) 32 (va_cpy (I1 53) (I1 32) 0 0 400)) 33 (va_cpy (I1 54) (I1 33) 0 0 401)) J1 S1 (q_V fun E2 I2 J2 S2 => Q (.inl none) E2 (u_I I2 18 (upd (upd (upd (upd (upd (I2 18) 9 ((I2 39) 9)) 10 ((I2 39) 10)) 11 ((I2 39) 11)) 12 ((I2 39) 12)) 13 ((I2 39) 13))) J2 S2))) : am_ww 54 0 [.ref 18, .ref 39] [] E I J S Q := by
  refine w_st (i' := 1) (ls' := [.ref 18, .ref 39]) (st' := [.ref 18]) (E' := E) (I' := I) (J' := J) (S' := S) am_e54 rfl rfl rfl rfl ?_
  refine w_st (i' := 2) (ls' := [.ref 18, .ref 39]) (st' := [.ref 19]) (E' := E) (I' := I) (J' := J) (S' := S) am_e54 rfl rfl rfl rfl ?_
  refine w_st (i' := 3) (ls' := [.ref 18, .ref 39]) (st' := [.ref 39, .ref 19]) (E' := E) (I' := I) (J' := J) (S' := S) am_e54 rfl rfl rfl rfl ?_
  refine w_st (i' := 4) (ls' := [.ref 18, .ref 39]) (st' := [.ref 40, .ref 19]) (E' := E) (I' := I) (J' := J) (S' := S) am_e54 rfl rfl rfl rfl ?_
  refine w_cV am_e54 rfl rfl (as := [.ref 19, .ref 40]) (rest := []) rfl rfl (am_ww.mono h ?_)
  rintro _ E1 I1 J1 S1 ⟨rfl, h⟩
  refine q_mkV ?_
  refine w_st (i' := 6) (ls' := [.ref 18, .ref 39]) (st' := [.ref 39]) (E' := E1) (I' := I1) (J' := J1) (S' := S1) am_e54 rfl rfl rfl rfl ?_
  refine w_st (i' := 7) (ls' := [.ref 18, .ref 39]) (st' := [.ref 48]) (E' := E1) (I' := I1) (J' := J1) (S' := S1) am_e54 rfl rfl rfl rfl ?_
  refine w_st (i' := 8) (ls' := [.ref 18, .ref 39]) (st' := [.int (nI 0), .ref 48]) (E' := E1) (I' := I1) (J' := J1) (S' := S1) am_e54 rfl rfl rfl rfl ?_
  refine w_st (i' := 9) (ls' := [.ref 18, .ref 39]) (st' := [.ref 18, .int (nI 0), .ref 48]) (E' := E1) (I' := I1) (J' := J1) (S' := S1) am_e54 rfl rfl rfl rfl ?_
  refine w_st (i' := 10) (ls' := [.ref 18, .ref 39]) (st' := [.ref 27, .int (nI 0), .ref 48]) (E' := E1) (I' := I1) (J' := J1) (S' := S1) am_e54 rfl rfl rfl rfl ?_
  refine w_st (i' := 11) (ls' := [.ref 18, .ref 39]) (st' := [.int (nI 0), .ref 27, .int (nI 0), .ref 48]) (E' := E1) (I' := I1) (J' := J1) (S' := S1) am_e54 rfl rfl rfl rfl ?_
  refine w_st (i' := 12) (ls' := [.ref 18, .ref 39]) (st' := [.ref 18, .int (nI 0), .ref 27, .int (nI 0), .ref 48]) (E' := E1) (I' := I1) (J' := J1) (S' := S1) am_e54 rfl rfl rfl rfl ?_
  refine w_st (i' := 13) (ls' := [.ref 18, .ref 39]) (st' := [.ref 27, .int (nI 0), .ref 27, .int (nI 0), .ref 48]) (E' := E1) (I' := I1) (J' := J1) (S' := S1) am_e54 rfl rfl rfl rfl ?_
  refine w_st (i' := 14) (ls' := [.ref 18, .ref 39]) (st' := [.int (nI 90), .int (nI 0), .ref 27, .int (nI 0), .ref 48]) (E' := E1) (I' := I1) (J' := J1) (S' := S1) am_e54 rfl rfl rfl rfl ?_
  refine w_cp (k := 48) (a := 27) (nk := 90) (na := 90) am_e54 rfl (by decide) (by decide) rfl rfl (by decide) (by unfold am_cpOk; decide) ?_
  show am_ww 54 15 [.ref 18, .ref 39] [] E1 (u_I I1 27 (va_cpy (I1 48) (I1 27) 0 0 90)) J1 S1 _
  refine w_st (i' := 16) (ls' := [.ref 18, .ref 39]) (st' := [.ref 39]) (E' := E1) (I' := (u_I I1 27 (va_cpy (I1 48) (I1 27) 0 0 90))) (J' := J1) (S' := S1) am_e54 rfl rfl rfl rfl ?_
  refine w_st (i' := 17) (ls' := [.ref 18, .ref 39]) (st' := [.ref 49]) (E' := E1) (I' := (u_I I1 27 (va_cpy (I1 48) (I1 27) 0 0 90))) (J' := J1) (S' := S1) am_e54 rfl rfl rfl rfl ?_
  refine w_st (i' := 18) (ls' := [.ref 18, .ref 39]) (st' := [.int (nI 0), .ref 49]) (E' := E1) (I' := (u_I I1 27 (va_cpy (I1 48) (I1 27) 0 0 90))) (J' := J1) (S' := S1) am_e54 rfl rfl rfl rfl ?_
  refine w_st (i' := 19) (ls' := [.ref 18, .ref 39]) (st' := [.ref 18, .int (nI 0), .ref 49]) (E' := E1) (I' := (u_I I1 27 (va_cpy (I1 48) (I1 27) 0 0 90))) (J' := J1) (S' := S1) am_e54 rfl rfl rfl rfl ?_
  refine w_st (i' := 20) (ls' := [.ref 18, .ref 39]) (st' := [.ref 28, .int (nI 0), .ref 49]) (E' := E1) (I' := (u_I I1 27 (va_cpy (I1 48) (I1 27) 0 0 90))) (J' := J1) (S' := S1) am_e54 rfl rfl rfl rfl ?_
  refine w_st (i' := 21) (ls' := [.ref 18, .ref 39]) (st' := [.int (nI 0), .ref 28, .int (nI 0), .ref 49]) (E' := E1) (I' := (u_I I1 27 (va_cpy (I1 48) (I1 27) 0 0 90))) (J' := J1) (S' := S1) am_e54 rfl rfl rfl rfl ?_
  refine w_st (i' := 22) (ls' := [.ref 18, .ref 39]) (st' := [.ref 18, .int (nI 0), .ref 28, .int (nI 0), .ref 49]) (E' := E1) (I' := (u_I I1 27 (va_cpy (I1 48) (I1 27) 0 0 90))) (J' := J1) (S' := S1) am_e54 rfl rfl rfl rfl ?_
  refine w_st (i' := 23) (ls' := [.ref 18, .ref 39]) (st' := [.ref 28, .int (nI 0), .ref 28, .int (nI 0), .ref 49]) (E' := E1) (I' := (u_I I1 27 (va_cpy (I1 48) (I1 27) 0 0 90))) (J' := J1) (S' := S1) am_e54 rfl rfl rfl rfl ?_
  refine w_st (i' := 24) (ls' := [.ref 18, .ref 39]) (st' := [.int (nI 3), .int (nI 0), .ref 28, .int (nI 0), .ref 49]) (E' := E1) (I' := (u_I I1 27 (va_cpy (I1 48) (I1 27) 0 0 90))) (J' := J1) (S' := S1) am_e54 rfl rfl rfl rfl ?_
  refine w_cp (k := 49) (a := 28) (nk := 3) (na := 3) am_e54 rfl (by decide) (by decide) rfl rfl (by decide) (by unfold am_cpOk; decide) ?_
  show am_ww 54 25 [.ref 18, .ref 39] [] E1 (u_I (u_I I1 27 (va_cpy (I1 48) (I1 27) 0 0 90)) 28 (va_cpy (I1 49) (I1 28) 0 0 3)) J1 S1 _
  refine w_st (i' := 26) (ls' := [.ref 18, .ref 39]) (st' := [.ref 39]) (E' := E1) (I' := (u_I (u_I I1 27 (va_cpy (I1 48) (I1 27) 0 0 90)) 28 (va_cpy (I1 49) (I1 28) 0 0 3))) (J' := J1) (S' := S1) am_e54 rfl rfl rfl rfl ?_
  refine w_st (i' := 27) (ls' := [.ref 18, .ref 39]) (st' := [.ref 50]) (E' := E1) (I' := (u_I (u_I I1 27 (va_cpy (I1 48) (I1 27) 0 0 90)) 28 (va_cpy (I1 49) (I1 28) 0 0 3))) (J' := J1) (S' := S1) am_e54 rfl rfl rfl rfl ?_
  refine w_st (i' := 28) (ls' := [.ref 18, .ref 39]) (st' := [.int (nI 0), .ref 50]) (E' := E1) (I' := (u_I (u_I I1 27 (va_cpy (I1 48) (I1 27) 0 0 90)) 28 (va_cpy (I1 49) (I1 28) 0 0 3))) (J' := J1) (S' := S1) am_e54 rfl rfl rfl rfl ?_
  refine w_st (i' := 29) (ls' := [.ref 18, .ref 39]) (st' := [.ref 18, .int (nI 0), .ref 50]) (E' := E1) (I' := (u_I (u_I I1 27 (va_cpy (I1 48) (I1 27) 0 0 90)) 28 (va_cpy (I1 49) (I1 28) 0 0 3))) (J' := J1) (S' := S1) am_e54 rfl rfl rfl rfl ?_
  refine w_st (i' := 30) (ls' := [.ref 18, .ref 39]) (st' := [.ref 29, .int (nI 0), .ref 50]) (E' := E1) (I' := (u_I (u_I I1 27 (va_cpy (I1 48) (I1 27) 0 0 90)) 28 (va_cpy (I1 49) (I1 28) 0 0 3))) (J' := J1) (S' := S1) am_e54 rfl rfl rfl rfl ?_
  refine w_st (i' := 31) (ls' := [.ref 18, .ref 39]) (st' := [.int (nI 0), .ref 29, .int (nI 0), .ref 50]) (E' := E1) (I' := (u_I (u_I I1 27 (va_cpy (I1 48) (I1 27) 0 0 90)) 28 (va_cpy (I1 49) (I1 28) 0 0 3))) (J' := J1) (S' := S1) am_e54 rfl rfl rfl rfl ?_
  refine w_st (i' := 32) (ls' := [.ref 18, .ref 39]) (st' := [.int (nI 400), .int (nI 0), .ref 29, .int (nI 0), .ref 50]) (E' := E1) (I' := (u_I (u_I I1 27 (va_cpy (I1 48) (I1 27) 0 0 90)) 28 (va_cpy (I1 49) (I1 28) 0 0 3))) (J' := J1) (S' := S1) am_e54 rfl rfl rfl rfl ?_
  refine w_cp (k := 50) (a := 29) (nk := 400) (na := 400) am_e54 rfl (by decide) (by decide) rfl rfl (by decide) (by unfold am_cpOk; decide) ?_
  show am_ww 54 33 [.ref 18, .ref 39] [] E1 (u_I (u_I (u_I I1 27 (va_cpy (I1 48) (I1 27) 0 0 90)) 28 (va_cpy (I1 49) (I1 28) 0 0 3)) 29 (va_cpy (I1 50) (I1 29) 0 0 400)) J1 S1 _
  refine w_st (i' := 34) (ls' := [.ref 18, .ref 39]) (st' := [.ref 39]) (E' := E1) (I' := (u_I (u_I (u_I I1 27 (va_cpy (I1 48) (I1 27) 0 0 90)) 28 (va_cpy (I1 49) (I1 28) 0 0 3)) 29 (va_cpy (I1 50) (I1 29) 0 0 400))) (J' := J1) (S' := S1) am_e54 rfl rfl rfl rfl ?_
  refine w_st (i' := 35) (ls' := [.ref 18, .ref 39]) (st' := [.ref 51]) (E' := E1) (I' := (u_I (u_I (u_I I1 27 (va_cpy (I1 48) (I1 27) 0 0 90)) 28 (va_cpy (I1 49) (I1 28) 0 0 3)) 29 (va_cpy (I1 50) (I1 29) 0 0 400))) (J' := J1) (S' := S1) am_e54 rfl rfl rfl rfl ?_
  refine w_st (i' := 36) (ls' := [.ref 18, .ref 39]) (st' := [.int (nI 0), .ref 51]) (E' := E1) (I' := (u_I (u_I (u_I I1 27 (va_cpy (I1 48) (I1 27) 0 0 90)) 28 (va_cpy (I1 49) (I1 28) 0 0 3)) 29 (va_cpy (I1 50) (I1 29) 0 0 400))) (J' := J1) (S' := S1) am_e54 rfl rfl rfl rfl ?_
  refine w_st (i' := 37) (ls' := [.ref 18, .ref 39]) (st' := [.ref 18, .int (nI 0), .ref 51]) (E' := E1) (I' := (u_I (u_I (u_I I1 27 (va_cpy (I1 48) (I1 27) 0 0 90)) 28 (va_cpy (I1 49) (I1 28) 0 0 3)) 29 (va_cpy (I1 50) (I1 29) 0 0 400))) (J' := J1) (S' := S1) am_e54 rfl rfl rfl rfl ?_
  refine w_st (i' := 38) (ls' := [.ref 18, .ref 39]) (st' := [.ref 30, .int (nI 0), .ref 51]) (E' := E1) (I' := (u_I (u_I (u_I I1 27 (va_cpy (I1 48) (I1 27) 0 0 90)) 28 (va_cpy (I1 49) (I1 28) 0 0 3)) 29 (va_cpy (I1 50) (I1 29) 0 0 400))) (J' := J1) (S' := S1) am_e54 rfl rfl rfl rfl ?_
  refine w_st (i' := 39) (ls' := [.ref 18, .ref 39]) (st' := [.int (nI 0), .ref 30, .int (nI 0), .ref 51]) (E' := E1) (I' := (u_I (u_I (u_I I1 27 (va_cpy (I1 48) (I1 27) 0 0 90)) 28 (va_cpy (I1 49) (I1 28) 0 0 3)) 29 (va_cpy (I1 50) (I1 29) 0 0 400))) (J' := J1) (S' := S1) am_e54 rfl rfl rfl rfl ?_
  refine w_st (i' := 40) (ls' := [.ref 18, .ref 39]) (st' := [.int (nI 400), .int (nI 0), .ref 30, .int (nI 0), .ref 51]) (E' := E1) (I' := (u_I (u_I (u_I I1 27 (va_cpy (I1 48) (I1 27) 0 0 90)) 28 (va_cpy (I1 49) (I1 28) 0 0 3)) 29 (va_cpy (I1 50) (I1 29) 0 0 400))) (J' := J1) (S' := S1) am_e54 rfl rfl rfl rfl ?_
  refine w_cp (k := 51) (a := 30) (nk := 400) (na := 400) am_e54 rfl (by decide) (by decide) rfl rfl (by decide) (by unfold am_cpOk; decide) ?_
  show am_ww 54 41 [.ref 18, .ref 39] [] E1 (u_I (u_I (u_I (u_I I1 27 (va_cpy (I1 48) (I1 27) 0 0 90)) 28 (va_cpy (I1 49) (I1 28) 0 0 3)) 29 (va_cpy (I1 50) (I1 29) 0 0 400)) 30 (va_cpy (I1 51) (I1 30) 0 0 400)) J1 S1 _
  refine w_st (i' := 42) (ls' := [.ref 18, .ref 39]) (st' := [.ref 39]) (E' := E1) (I' := (u_I (u_I (u_I (u_I I1 27 (va_cpy (I1 48) (I1 27) 0 0 90)) 28 (va_cpy (I1 49) (I1 28) 0 0 3)) 29 (va_cpy (I1 50) (I1 29) 0 0 400)) 30 (va_cpy (I1 51) (I1 30) 0 0 400))) (J' := J1) (S' := S1) am_e54 rfl rfl rfl rfl ?_
  refine w_st (i' := 43) (ls' := [.ref 18, .ref 39]) (st' := [.ref 52]) (E' := E1) (I' := (u_I (u_I (u_I (u_I I1 27 (va_cpy (I1 48) (I1 27) 0 0 90)) 28 (va_cpy (I1 49) (I1 28) 0 0 3)) 29 (va_cpy (I1 50) (I1 29) 0 0 400)) 30 (va_cpy (I1 51) (I1 30) 0 0 400))) (J' := J1) (S' := S1) am_e54 rfl rfl rfl rfl ?_
  refine w_st (i' := 44) (ls' := [.ref 18, .ref 39]) (st' := [.int (nI 0), .ref 52]) (E' := E1) (I' := (u_I (u_I (u_I (u_I I1 27 (va_cpy (I1 48) (I1 27) 0 0 90)) 28 (va_cpy (I1 49) (I1 28) 0 0 3)) 29 (va_cpy (I1 50) (I1 29) 0 0 400)) 30 (va_cpy (I1 51) (I1 30) 0 0 400))) (J' := J1) (S' := S1) am_e54 rfl rfl rfl rfl ?_
  refine w_st (i' := 45) (ls' := [.ref 18, .ref 39]) (st' := [.ref 18, .int (nI 0), .ref 52]) (E' := E1) (I' := (u_I (u_I (u_I (u_I I1 27 (va_cpy (I1 48) (I1 27) 0 0 90)) 28 (va_cpy (I1 49) (I1 28) 0 0 3)) 29 (va_cpy (I1 50) (I1 29) 0 0 400)) 30 (va_cpy (I1 51) (I1 30) 0 0 400))) (J' := J1) (S' := S1) am_e54 rfl rfl rfl rfl ?_
  refine w_st (i' := 46) (ls' := [.ref 18, .ref 39]) (st' := [.ref 31, .int (nI 0), .ref 52]) (E' := E1) (I' := (u_I (u_I (u_I (u_I I1 27 (va_cpy (I1 48) (I1 27) 0 0 90)) 28 (va_cpy (I1 49) (I1 28) 0 0 3)) 29 (va_cpy (I1 50) (I1 29) 0 0 400)) 30 (va_cpy (I1 51) (I1 30) 0 0 400))) (J' := J1) (S' := S1) am_e54 rfl rfl rfl rfl ?_
  refine w_st (i' := 47) (ls' := [.ref 18, .ref 39]) (st' := [.int (nI 0), .ref 31, .int (nI 0), .ref 52]) (E' := E1) (I' := (u_I (u_I (u_I (u_I I1 27 (va_cpy (I1 48) (I1 27) 0 0 90)) 28 (va_cpy (I1 49) (I1 28) 0 0 3)) 29 (va_cpy (I1 50) (I1 29) 0 0 400)) 30 (va_cpy (I1 51) (I1 30) 0 0 400))) (J' := J1) (S' := S1) am_e54 rfl rfl rfl rfl ?_
  refine w_st (i' := 48) (ls' := [.ref 18, .ref 39]) (st' := [.int (nI 400), .int (nI 0), .ref 31, .int (nI 0), .ref 52]) (E' := E1) (I' := (u_I (u_I (u_I (u_I I1 27 (va_cpy (I1 48) (I1 27) 0 0 90)) 28 (va_cpy (I1 49) (I1 28) 0 0 3)) 29 (va_cpy (I1 50) (I1 29) 0 0 400)) 30 (va_cpy (I1 51) (I1 30) 0 0 400))) (J' := J1) (S' := S1) am_e54 rfl rfl rfl rfl ?_
  refine w_cp (k := 52) (a := 31) (nk := 400) (na := 400) am_e54 rfl (by decide) (by decide) rfl rfl (by decide) (by unfold am_cpOk; decide) ?_
  show am_ww 54 49 [.ref 18, .ref 39] [] E1 (u_I (u_I (u_I (u_I (u_I I1 27 (va_cpy (I1 48) (I1 27) 0 0 90)) 28 (va_cpy (I1 49) (I1 28) 0 0 3)) 29 (va_cpy (I1 50) (I1 29) 0 0 400)) 30 (va_cpy (I1 51) (I1 30) 0 0 400)) 31 (va_cpy (I1 52) (I1 31) 0 0 400)) J1 S1 _
  refine w_st (i' := 50) (ls' := [.ref 18, .ref 39]) (st' := [.ref 39]) (E' := E1) (I' := (u_I (u_I (u_I (u_I (u_I I1 27 (va_cpy (I1 48) (I1 27) 0 0 90)) 28 (va_cpy (I1 49) (I1 28) 0 0 3)) 29 (va_cpy (I1 50) (I1 29) 0 0 400)) 30 (va_cpy (I1 51) (I1 30) 0 0 400)) 31 (va_cpy (I1 52) (I1 31) 0 0 400))) (J' := J1) (S' := S1) am_e54 rfl rfl rfl rfl ?_
  refine w_st (i' := 51) (ls' := [.ref 18, .ref 39]) (st' := [.ref 53]) (E' := E1) (I' := (u_I (u_I (u_I (u_I (u_I I1 27 (va_cpy (I1 48) (I1 27) 0 0 90)) 28 (va_cpy (I1 49) (I1 28) 0 0 3)) 29 (va_cpy (I1 50) (I1 29) 0 0 400)) 30 (va_cpy (I1 51) (I1 30) 0 0 400)) 31 (va_cpy (I1 52) (I1 31) 0 0 400))) (J' := J1) (S' := S1) am_e54 rfl rfl rfl rfl ?_
  refine w_st (i' := 52) (ls' := [.ref 18, .ref 39]) (st' := [.int (nI 0), .ref 53]) (E' := E1) (I' := (u_I (u_I (u_I (u_I (u_I I1 27 (va_cpy (I1 48) (I1 27) 0 0 90)) 28 (va_cpy (I1 49) (I1 28) 0 0 3)) 29 (va_cpy (I1 50) (I1 29) 0 0 400)) 30 (va_cpy (I1 51) (I1 30) 0 0 400)) 31 (va_cpy (I1 52) (I1 31) 0 0 400))) (J' := J1) (S' := S1) am_e54 rfl rfl rfl rfl ?_
  refine w_st (i' := 53) (ls' := [.ref 18, .ref 39]) (st' := [.ref 18, .int (nI 0), .ref 53]) (E' := E1) (I' := (u_I (u_I (u_I (u_I (u_I I1 27 (va_cpy (I1 48) (I1 27) 0 0 90)) 28 (va_cpy (I1 49) (I1 28) 0 0 3)) 29 (va_cpy (I1 50) (I1 29) 0 0 400)) 30 (va_cpy (I1 51) (I1 30) 0 0 400)) 31 (va_cpy (I1 52) (I1 31) 0 0 400))) (J' := J1) (S' := S1) am_e54 rfl rfl rfl rfl ?_
  refine w_st (i' := 54) (ls' := [.ref 18, .ref 39]) (st' := [.ref 32, .int (nI 0), .ref 53]) (E' := E1) (I' := (u_I (u_I (u_I (u_I (u_I I1 27 (va_cpy (I1 48) (I1 27) 0 0 90)) 28 (va_cpy (I1 49) (I1 28) 0 0 3)) 29 (va_cpy (I1 50) (I1 29) 0 0 400)) 30 (va_cpy (I1 51) (I1 30) 0 0 400)) 31 (va_cpy (I1 52) (I1 31) 0 0 400))) (J' := J1) (S' := S1) am_e54 rfl rfl rfl rfl ?_
  refine w_st (i' := 55) (ls' := [.ref 18, .ref 39]) (st' := [.int (nI 0), .ref 32, .int (nI 0), .ref 53]) (E' := E1) (I' := (u_I (u_I (u_I (u_I (u_I I1 27 (va_cpy (I1 48) (I1 27) 0 0 90)) 28 (va_cpy (I1 49) (I1 28) 0 0 3)) 29 (va_cpy (I1 50) (I1 29) 0 0 400)) 30 (va_cpy (I1 51) (I1 30) 0 0 400)) 31 (va_cpy (I1 52) (I1 31) 0 0 400))) (J' := J1) (S' := S1) am_e54 rfl rfl rfl rfl ?_
  refine w_st (i' := 56) (ls' := [.ref 18, .ref 39]) (st' := [.int (nI 400), .int (nI 0), .ref 32, .int (nI 0), .ref 53]) (E' := E1) (I' := (u_I (u_I (u_I (u_I (u_I I1 27 (va_cpy (I1 48) (I1 27) 0 0 90)) 28 (va_cpy (I1 49) (I1 28) 0 0 3)) 29 (va_cpy (I1 50) (I1 29) 0 0 400)) 30 (va_cpy (I1 51) (I1 30) 0 0 400)) 31 (va_cpy (I1 52) (I1 31) 0 0 400))) (J' := J1) (S' := S1) am_e54 rfl rfl rfl rfl ?_
  refine w_cp (k := 53) (a := 32) (nk := 400) (na := 400) am_e54 rfl (by decide) (by decide) rfl rfl (by decide) (by unfold am_cpOk; decide) ?_
  show am_ww 54 57 [.ref 18, .ref 39] [] E1 (u_I (u_I (u_I (u_I (u_I (u_I I1 27 (va_cpy (I1 48) (I1 27) 0 0 90)) 28 (va_cpy (I1 49) (I1 28) 0 0 3)) 29 (va_cpy (I1 50) (I1 29) 0 0 400)) 30 (va_cpy (I1 51) (I1 30) 0 0 400)) 31 (va_cpy (I1 52) (I1 31) 0 0 400)) 32 (va_cpy (I1 53) (I1 32) 0 0 400)) J1 S1 _
  refine w_st (i' := 58) (ls' := [.ref 18, .ref 39]) (st' := [.ref 39]) (E' := E1) (I' := (u_I (u_I (u_I (u_I (u_I (u_I I1 27 (va_cpy (I1 48) (I1 27) 0 0 90)) 28 (va_cpy (I1 49) (I1 28) 0 0 3)) 29 (va_cpy (I1 50) (I1 29) 0 0 400)) 30 (va_cpy (I1 51) (I1 30) 0 0 400)) 31 (va_cpy (I1 52) (I1 31) 0 0 400)) 32 (va_cpy (I1 53) (I1 32) 0 0 400))) (J' := J1) (S' := S1) am_e54 rfl rfl rfl rfl ?_
  refine w_st (i' := 59) (ls' := [.ref 18, .ref 39]) (st' := [.ref 54]) (E' := E1) (I' := (u_I (u_I (u_I (u_I (u_I (u_I I1 27 (va_cpy (I1 48) (I1 27) 0 0 90)) 28 (va_cpy (I1 49) (I1 28) 0 0 3)) 29 (va_cpy (I1 50) (I1 29) 0 0 400)) 30 (va_cpy (I1 51) (I1 30) 0 0 400)) 31 (va_cpy (I1 52) (I1 31) 0 0 400)) 32 (va_cpy (I1 53) (I1 32) 0 0 400))) (J' := J1) (S' := S1) am_e54 rfl rfl rfl rfl ?_
  refine w_st (i' := 60) (ls' := [.ref 18, .ref 39]) (st' := [.int (nI 0), .ref 54]) (E' := E1) (I' := (u_I (u_I (u_I (u_I (u_I (u_I I1 27 (va_cpy (I1 48) (I1 27) 0 0 90)) 28 (va_cpy (I1 49) (I1 28) 0 0 3)) 29 (va_cpy (I1 50) (I1 29) 0 0 400)) 30 (va_cpy (I1 51) (I1 30) 0 0 400)) 31 (va_cpy (I1 52) (I1 31) 0 0 400)) 32 (va_cpy (I1 53) (I1 32) 0 0 400))) (J' := J1) (S' := S1) am_e54 rfl rfl rfl rfl ?_
  refine w_st (i' := 61) (ls' := [.ref 18, .ref 39]) (st' := [.ref 18, .int (nI 0), .ref 54]) (E' := E1) (I' := (u_I (u_I (u_I (u_I (u_I (u_I I1 27 (va_cpy (I1 48) (I1 27) 0 0 90)) 28 (va_cpy (I1 49) (I1 28) 0 0 3)) 29 (va_cpy (I1 50) (I1 29) 0 0 400)) 30 (va_cpy (I1 51) (I1 30) 0 0 400)) 31 (va_cpy (I1 52) (I1 31) 0 0 400)) 32 (va_cpy (I1 53) (I1 32) 0 0 400))) (J' := J1) (S' := S1) am_e54 rfl rfl rfl rfl ?_
  refine w_st (i' := 62) (ls' := [.ref 18, .ref 39]) (st' := [.ref 33, .int (nI 0), .ref 54]) (E' := E1) (I' := (u_I (u_I (u_I (u_I (u_I (u_I I1 27 (va_cpy (I1 48) (I1 27) 0 0 90)) 28 (va_cpy (I1 49) (I1 28) 0 0 3)) 29 (va_cpy (I1 50) (I1 29) 0 0 400)) 30 (va_cpy (I1 51) (I1 30) 0 0 400)) 31 (va_cpy (I1 52) (I1 31) 0 0 400)) 32 (va_cpy (I1 53) (I1 32) 0 0 400))) (J' := J1) (S' := S1) am_e54 rfl rfl rfl rfl ?_
  refine w_st (i' := 63) (ls' := [.ref 18, .ref 39]) (st' := [.int (nI 0), .ref 33, .int (nI 0), .ref 54]) (E' := E1) (I' := (u_I (u_I (u_I (u_I (u_I (u_I I1 27 (va_cpy (I1 48) (I1 27) 0 0 90)) 28 (va_cpy (I1 49) (I1 28) 0 0 3)) 29 (va_cpy (I1 50) (I1 29) 0 0 400)) 30 (va_cpy (I1 51) (I1 30) 0 0 400)) 31 (va_cpy (I1 52) (I1 31) 0 0 400)) 32 (va_cpy (I1 53) (I1 32) 0 0 400))) (J' := J1) (S' := S1) am_e54 rfl rfl rfl rfl ?_
  refine w_st (i' := 64) (ls' := [.ref 18, .ref 39]) (st' := [.ref 18, .int (nI 0), .ref 33, .int (nI 0), .ref 54]) (E' := E1) (I' := (u_I (u_I (u_I (u_I (u_I (u_I I1 27 (va_cpy (I1 48) (I1 27) 0 0 90)) 28 (va_cpy (I1 49) (I1 28) 0 0 3)) 29 (va_cpy (I1 50) (I1 29) 0 0 400)) 30 (va_cpy (I1 51) (I1 30) 0 0 400)) 31 (va_cpy (I1 52) (I1 31) 0 0 400)) 32 (va_cpy (I1 53) (I1 32) 0 0 400))) (J' := J1) (S' := S1) am_e54 rfl rfl rfl rfl ?_
  refine w_st (i' := 65) (ls' := [.ref 18, .ref 39]) (st' := [.ref 33, .int (nI 0), .ref 33, .int (nI 0), .ref 54]) (E' := E1) (I' := (u_I (u_I (u_I (u_I (u_I (u_I I1 27 (va_cpy (I1 48) (I1 27) 0 0 90)) 28 (va_cpy (I1 49) (I1 28) 0 0 3)) 29 (va_cpy (I1 50) (I1 29) 0 0 400)) 30 (va_cpy (I1 51) (I1 30) 0 0 400)) 31 (va_cpy (I1 52) (I1 31) 0 0 400)) 32 (va_cpy (I1 53) (I1 32) 0 0 400))) (J' := J1) (S' := S1) am_e54 rfl rfl rfl rfl ?_
  refine w_st (i' := 66) (ls' := [.ref 18, .ref 39]) (st' := [.int (nI 401), .int (nI 0), .ref 33, .int (nI 0), .ref 54]) (E' := E1) (I' := (u_I (u_I (u_I (u_I (u_I (u_I I1 27 (va_cpy (I1 48) (I1 27) 0 0 90)) 28 (va_cpy (I1 49) (I1 28) 0 0 3)) 29 (va_cpy (I1 50) (I1 29) 0 0 400)) 30 (va_cpy (I1 51) (I1 30) 0 0 400)) 31 (va_cpy (I1 52) (I1 31) 0 0 400)) 32 (va_cpy (I1 53) (I1 32) 0 0 400))) (J' := J1) (S' := S1) am_e54 rfl rfl rfl rfl ?_
  refine w_cp (k := 54) (a := 33) (nk := 401) (na := 401) am_e54 rfl (by decide) (by decide) rfl rfl (by decide) (by unfold am_cpOk; decide) ?_
  show am_ww 54 67 [.ref 18, .ref 39] [] E1 (u_I (u_I (u_I (u_I (u_I (u_I (u_I I1 27 (va_cpy (I1 48) (I1 27) 0 0 90)) 28 (va_cpy (I1 49) (I1 28) 0 0 3)) 29 (va_cpy (I1 50) (I1 29) 0 0 400)) 30 (va_cpy (I1 51) (I1 30) 0 0 400)) 31 (va_cpy (I1 52) (I1 31) 0 0 400)) 32 (va_cpy (I1 53) (I1 32) 0 0 400)) 33 (va_cpy (I1 54) (I1 33) 0 0 401)) J1 S1 _
  refine w_st (i' := 68) (ls' := [.ref 18, .ref 39]) (st' := [.ref 18]) (E' := E1) (I' := (u_I (u_I (u_I (u_I (u_I (u_I (u_I I1 27 (va_cpy (I1 48) (I1 27) 0 0 90)) 28 (va_cpy (I1 49) (I1 28) 0 0 3)) 29 (va_cpy (I1 50) (I1 29) 0 0 400)) 30 (va_cpy (I1 51) (I1 30) 0 0 400)) 31 (va_cpy (I1 52) (I1 31) 0 0 400)) 32 (va_cpy (I1 53) (I1 32) 0 0 400)) 33 (va_cpy (I1 54) (I1 33) 0 0 401))) (J' := J1) (S' := S1) am_e54 rfl rfl rfl rfl ?_
  refine w_st (i' := 69) (ls' := [.ref 18, .ref 39]) (st' := [.ref 34]) (E' := E1) (I' := (u_I (u_I (u_I (u_I (u_I (u_I (u_I I1 27 (va_cpy (I1 48) (I1 27) 0 0 90)) 28 (va_cpy (I1 49) (I1 28) 0 0 3)) 29 (va_cpy (I1 50) (I1 29) 0 0 400)) 30 (va_cpy (I1 51) (I1 30) 0 0 400)) 31 (va_cpy (I1 52) (I1 31) 0 0 400)) 32 (va_cpy (I1 53) (I1 32) 0 0 400)) 33 (va_cpy (I1 54) (I1 33) 0 0 401))) (J' := J1) (S' := S1) am_e54 rfl rfl rfl rfl ?_
  refine w_st (i' := 70) (ls' := [.ref 18, .ref 39]) (st' := [.ref 39, .ref 34]) (E' := E1) (I' := (u_I (u_I (u_I (u_I (u_I (u_I (u_I I1 27 (va_cpy (I1 48) (I1 27) 0 0 90)) 28 (va_cpy (I1 49) (I1 28) 0 0 3)) 29 (va_cpy (I1 50) (I1 29) 0 0 400)) 30 (va_cpy (I1 51) (I1 30) 0 0 400)) 31 (va_cpy (I1 52) (I1 31) 0 0 400)) 32 (va_cpy (I1 53) (I1 32) 0 0 400)) 33 (va_cpy (I1 54) (I1 33) 0 0 401))) (J' := J1) (S' := S1) am_e54 rfl rfl rfl rfl ?_
  refine w_st (i' := 71) (ls' := [.ref 18, .ref 39]) (st' := [.ref 55, .ref 34]) (E' := E1) (I' := (u_I (u_I (u_I (u_I (u_I (u_I (u_I I1 27 (va_cpy (I1 48) (I1 27) 0 0 90)) 28 (va_cpy (I1 49) (I1 28) 0 0 3)) 29 (va_cpy (I1 50) (I1 29) 0 0 400)) 30 (va_cpy (I1 51) (I1 30) 0 0 400)) 31 (va_cpy (I1 52) (I1 31) 0 0 400)) 32 (va_cpy (I1 53) (I1 32) 0 0 400)) 33 (va_cpy (I1 54) (I1 33) 0 0 401))) (J' := J1) (S' := S1) am_e54 rfl rfl rfl rfl ?_
  refine w_cV am_e54 rfl rfl (as := [.ref 34, .ref 55]) (rest := []) rfl rfl (am_ww.mono h ?_)
  rintro _ E2 I2 J2 S2 ⟨rfl, h⟩
  refine q_mkV ?_
  refine w_st (i' := 73) (ls' := [.ref 18, .ref 39]) (st' := [.ref 18]) (E' := E2) (I' := I2) (J' := J2) (S' := S2) am_e54 rfl rfl rfl rfl ?_
  refine w_st (i' := 74) (ls' := [.ref 18, .ref 39]) (st' := [.ref 39, .ref 18]) (E' := E2) (I' := I2) (J' := J2) (S' := S2) am_e54 rfl rfl rfl rfl ?_
  refine w_st (i' := 75) (ls' := [.ref 18, .ref 39]) (st' := [.int ((I2 39) 9), .ref 18]) (E' := E2) (I' := I2) (J' := J2) (S' := S2) am_e54 rfl rfl rfl rfl ?_
  refine w_st (i' := 76) (ls' := [.ref 18, .ref 39]) (st' := []) (E' := E2) (I' := (u_I I2 18 (upd (I2 18) 9 ((I2 39) 9)))) (J' := J2) (S' := S2) am_e54 rfl rfl rfl rfl ?_
  refine w_st (i' := 77) (ls' := [.ref 18, .ref 39]) (st' := [.ref 18]) (E' := E2) (I' := (u_I I2 18 (upd (I2 18) 9 ((I2 39) 9)))) (J' := J2) (S' := S2) am_e54 rfl rfl rfl rfl ?_
  refine w_st (i' := 78) (ls' := [.ref 18, .ref 39]) (st' := [.ref 39, .ref 18]) (E' := E2) (I' := (u_I I2 18 (upd (I2 18) 9 ((I2 39) 9)))) (J' := J2) (S' := S2) am_e54 rfl rfl rfl rfl ?_
  refine w_st (i' := 79) (ls' := [.ref 18, .ref 39]) (st' := [.int ((I2 39) 10), .ref 18]) (E' := E2) (I' := (u_I I2 18 (upd (I2 18) 9 ((I2 39) 9)))) (J' := J2) (S' := S2) am_e54 rfl rfl rfl rfl ?_
  refine w_st (i' := 80) (ls' := [.ref 18, .ref 39]) (st' := []) (E' := E2) (I' := (u_I (u_I I2 18 (upd (I2 18) 9 ((I2 39) 9))) 18 (upd (upd (I2 18) 9 ((I2 39) 9)) 10 ((I2 39) 10)))) (J' := J2) (S' := S2) am_e54 rfl rfl rfl rfl ?_
  refine w_eI (uI_0 ..) ?_
  show am_ww 54 80 [.ref 18, .ref 39] [] E2 (u_I I2 18 (upd (upd (I2 18) 9 ((I2 39) 9)) 10 ((I2 39) 10))) J2 S2 _
  refine w_st (i' := 81) (ls' := [.ref 18, .ref 39]) (st' := [.ref 18]) (E' := E2) (I' := (u_I I2 18 (upd (upd (I2 18) 9 ((I2 39) 9)) 10 ((I2 39) 10)))) (J' := J2) (S' := S2) am_e54 rfl rfl rfl rfl ?_
  refine w_st (i' := 82) (ls' := [.ref 18, .ref 39]) (st' := [.ref 39, .ref 18]) (E' := E2) (I' := (u_I I2 18 (upd (upd (I2 18) 9 ((I2 39) 9)) 10 ((I2 39) 10)))) (J' := J2) (S' := S2) am_e54 rfl rfl rfl rfl ?_
  refine w_st (i' := 83) (ls' := [.ref 18, .ref 39]) (st' := [.int ((I2 39) 11), .ref 18]) (E' := E2) (I' := (u_I I2 18 (upd (upd (I2 18) 9 ((I2 39) 9)) 10 ((I2 39) 10)))) (J' := J2) (S' := S2) am_e54 rfl rfl rfl rfl ?_
  refine w_st (i' := 84) (ls' := [.ref 18, .ref 39]) (st' := []) (E' := E2) (I' := (u_I (u_I I2 18 (upd (upd (I2 18) 9 ((I2 39) 9)) 10 ((I2 39) 10))) 18 (upd (upd (upd (I2 18) 9 ((I2 39) 9)) 10 ((I2 39) 10)) 11 ((I2 39) 11)))) (J' := J2) (S' := S2) am_e54 rfl rfl rfl rfl ?_
  refine w_eI (uI_0 ..) ?_
  show am_ww 54 84 [.ref 18, .ref 39] [] E2 (u_I I2 18 (upd (upd (upd (I2 18) 9 ((I2 39) 9)) 10 ((I2 39) 10)) 11 ((I2 39) 11))) J2 S2 _
  refine w_st (i' := 85) (ls' := [.ref 18, .ref 39]) (st' := [.ref 18]) (E' := E2) (I' := (u_I I2 18 (upd (upd (upd (I2 18) 9 ((I2 39) 9)) 10 ((I2 39) 10)) 11 ((I2 39) 11)))) (J' := J2) (S' := S2) am_e54 rfl rfl rfl rfl ?_
  refine w_st (i' := 86) (ls' := [.ref 18, .ref 39]) (st' := [.ref 39, .ref 18]) (E' := E2) (I' := (u_I I2 18 (upd (upd (upd (I2 18) 9 ((I2 39) 9)) 10 ((I2 39) 10)) 11 ((I2 39) 11)))) (J' := J2) (S' := S2) am_e54 rfl rfl rfl rfl ?_
  refine w_st (i' := 87) (ls' := [.ref 18, .ref 39]) (st' := [.int ((I2 39) 12), .ref 18]) (E' := E2) (I' := (u_I I2 18 (upd (upd (upd (I2 18) 9 ((I2 39) 9)) 10 ((I2 39) 10)) 11 ((I2 39) 11)))) (J' := J2) (S' := S2) am_e54 rfl rfl rfl rfl ?_
  refine w_st (i' := 88) (ls' := [.ref 18, .ref 39]) (st' := []) (E' := E2) (I' := (u_I (u_I I2 18 (upd (upd (upd (I2 18) 9 ((I2 39) 9)) 10 ((I2 39) 10)) 11 ((I2 39) 11))) 18 (upd (upd (upd (upd (I2 18) 9 ((I2 39) 9)) 10 ((I2 39) 10)) 11 ((I2 39) 11)) 12 ((I2 39) 12)))) (J' := J2) (S' := S2) am_e54 rfl rfl rfl rfl ?_
  refine w_eI (uI_0 ..) ?_
  show am_ww 54 88 [.ref 18, .ref 39] [] E2 (u_I I2 18 (upd (upd (upd (upd (I2 18) 9 ((I2 39) 9)) 10 ((I2 39) 10)) 11 ((I2 39) 11)) 12 ((I2 39) 12))) J2 S2 _
  refine w_st (i' := 89) (ls' := [.ref 18, .ref 39]) (st' := [.ref 18]) (E' := E2) (I' := (u_I I2 18 (upd (upd (upd (upd (I2 18) 9 ((I2 39) 9)) 10 ((I2 39) 10)) 11 ((I2 39) 11)) 12 ((I2 39) 12)))) (J' := J2) (S' := S2) am_e54 rfl rfl rfl rfl ?_
  refine w_st (i' := 90) (ls' := [.ref 18, .ref 39]) (st' := [.ref 39, .ref 18]) (E' := E2) (I' := (u_I I2 18 (upd (upd (upd (upd (I2 18) 9 ((I2 39) 9)) 10 ((I2 39) 10)) 11 ((I2 39) 11)) 12 ((I2 39) 12)))) (J' := J2) (S' := S2) am_e54 rfl rfl rfl rfl ?_
  refine w_st (i' := 91) (ls' := [.ref 18, .ref 39]) (st' := [.int ((I2 39) 13), .ref 18]) (E' := E2) (I' := (u_I I2 18 (upd (upd (upd (upd (I2 18) 9 ((I2 39) 9)) 10 ((I2 39) 10)) 11 ((I2 39) 11)) 12 ((I2 39) 12)))) (J' := J2) (S' := S2) am_e54 rfl rfl rfl rfl ?_
  refine w_st (i' := 92) (ls' := [.ref 18, .ref 39]) (st' := []) (E' := E2) (I' := (u_I (u_I I2 18 (upd (upd (upd (upd (I2 18) 9 ((I2 39) 9)) 10 ((I2 39) 10)) 11 ((I2 39) 11)) 12 ((I2 39) 12))) 18 (upd (upd (upd (upd (upd (I2 18) 9 ((I2 39) 9)) 10 ((I2 39) 10)) 11 ((I2 39) 11)) 12 ((I2 39) 12)) 13 ((I2 39) 13)))) (J' := J2) (S' := S2) am_e54 rfl rfl rfl rfl ?_
  refine w_eI (uI_0 ..) ?_
  show am_ww 54 92 [.ref 18, .ref 39] [] E2 (u_I I2 18 (upd (upd (upd (upd (upd (I2 18) 9 ((I2 39) 9)) 10 ((I2 39) 10)) 11 ((I2 39) 11)) 12 ((I2 39) 12)) 13 ((I2 39) 13))) J2 S2 _
  exact w_end am_e54 rfl rfl rfl h
-- 54 copy
theorem g54_0_39_18  {E : am_Ev} {I : Nat → Nat → Int32} {J : Nat → Nat → Int64} {S : Nat → Nat → Option Nat} {Q : am_Qt}  (h : am_cl 55 [.ref 40, .ref 19] E I J S (q_V fun E1 I1 J1 S1 => am_cl 56 [.ref 55, .ref 34] E1 (u_I (u_I (u_I (u_I (u_I (u_I (u_I I1 48 (va_cpy (I1 27) (I1 48) 0 0 90)) 49 (va_cpy (I1 28) (I1 49) 0 0 3)) 50 (va_cpy (I1 29) (I1 50) 0 0 400)) 51 (va_cpy (I1 30) (I1 51) 0 0 400)) 52 (va_cpy (I1 31) (I1 52) 0 0 400)) 53 (va_cpy (I1 32) (I1 53) 0 0 400)) 54 (va_cpy (I1 33) (I1 54) 0 0 401)) J1 S1 (q_V fun E2 I2 J2 S2 => Q (.inl none) E2 (u_I I2 39 (upd (upd (upd (upd (upd (I2 39) 9 ((I2 18) 9)) 10 ((I2 18) 10)) 11 ((I2 18) 11)) 12 ((I2 18) 12)) 13 ((I2 18) 13))) J2 S2))) : am_ww 54 0 [.ref 39, .ref 18] [] E I J S Q := by
  refine w_st (i' := 1) (ls' := [.ref 39, .ref 18]) (st' := [.ref 39]) (E' := E) (I' := I) (J' := J) (S' := S) am_e54 rfl rfl rfl rfl ?_
  refine w_st (i' := 2) (ls' := [.ref 39, .ref 18]) (st' := [.ref 40]) (E' := E) (I' := I) (J' := J) (S' := S) am_e54 rfl rfl rfl rfl ?_
  refine w_st (i' := 3) (ls' := [.ref 39, .ref 18]) (st' := [.ref 18, .ref 40]) (E' := E) (I' := I) (J' := J) (S' := S) am_e54 rfl rfl rfl rfl ?_
  refine w_st (i' := 4) (ls' := [.ref 39, .ref 18]) (st' := [.ref 19, .ref 40]) (E' := E) (I' := I) (J' := J) (S' := S) am_e54 rfl rfl rfl rfl ?_
  refine w_cV am_e54 rfl rfl (as := [.ref 40, .ref 19]) (rest := []) rfl rfl (am_ww.mono h ?_)
  rintro _ E1 I1 J1 S1 ⟨rfl, h⟩
  refine q_mkV ?_
  refine w_st (i' := 6) (ls' := [.ref 39, .ref 18]) (st' := [.ref 18]) (E' := E1) (I' := I1) (J' := J1) (S' := S1) am_e54 rfl rfl rfl rfl ?_
  refine w_st (i' := 7) (ls' := [.ref 39, .ref 18]) (st' := [.ref 27]) (E' := E1) (I' := I1) (J' := J1) (S' := S1) am_e54 rfl rfl rfl rfl ?_
  refine w_st (i' := 8) (ls' := [.ref 39, .ref 18]) (st' := [.int (nI 0), .ref 27]) (E' := E1) (I' := I1) (J' := J1) (S' := S1) am_e54 rfl rfl rfl rfl ?_
  refine w_st (i' := 9) (ls' := [.ref 39, .ref 18]) (st' := [.ref 39, .int (nI 0), .ref 27]) (E' := E1) (I' := I1) (J' := J1) (S' := S1) am_e54 rfl rfl rfl rfl ?_
  refine w_st (i' := 10) (ls' := [.ref 39, .ref 18]) (st' := [.ref 48, .int (nI 0), .ref 27]) (E' := E1) (I' := I1) (J' := J1) (S' := S1) am_e54 rfl rfl rfl rfl ?_
  refine w_st (i' := 11) (ls' := [.ref 39, .ref 18]) (st' := [.int (nI 0), .ref 48, .int (nI 0), .ref 27]) (E' := E1) (I' := I1) (J' := J1) (S' := S1) am_e54 rfl rfl rfl rfl ?_
  refine w_st (i' := 12) (ls' := [.ref 39, .ref 18]) (st' := [.ref 39, .int (nI 0), .ref 48, .int (nI 0), .ref 27]) (E' := E1) (I' := I1) (J' := J1) (S' := S1) am_e54 rfl rfl rfl rfl ?_
  refine w_st (i' := 13) (ls' := [.ref 39, .ref 18]) (st' := [.ref 48, .int (nI 0), .ref 48, .int (nI 0), .ref 27]) (E' := E1) (I' := I1) (J' := J1) (S' := S1) am_e54 rfl rfl rfl rfl ?_
  refine w_st (i' := 14) (ls' := [.ref 39, .ref 18]) (st' := [.int (nI 90), .int (nI 0), .ref 48, .int (nI 0), .ref 27]) (E' := E1) (I' := I1) (J' := J1) (S' := S1) am_e54 rfl rfl rfl rfl ?_
  refine w_cp (k := 27) (a := 48) (nk := 90) (na := 90) am_e54 rfl (by decide) (by decide) rfl rfl (by decide) (by unfold am_cpOk; decide) ?_
  show am_ww 54 15 [.ref 39, .ref 18] [] E1 (u_I I1 48 (va_cpy (I1 27) (I1 48) 0 0 90)) J1 S1 _
  refine w_st (i' := 16) (ls' := [.ref 39, .ref 18]) (st' := [.ref 18]) (E' := E1) (I' := (u_I I1 48 (va_cpy (I1 27) (I1 48) 0 0 90))) (J' := J1) (S' := S1) am_e54 rfl rfl rfl rfl ?_
  refine w_st (i' := 17) (ls' := [.ref 39, .ref 18]) (st' := [.ref 28]) (E' := E1) (I' := (u_I I1 48 (va_cpy (I1 27) (I1 48) 0 0 90))) (J' := J1) (S' := S1) am_e54 rfl rfl rfl rfl ?_
  refine w_st (i' := 18) (ls' := [.ref 39, .ref 18]) (st' := [.int (nI 0), .ref 28]) (E' := E1) (I' := (u_I I1 48 (va_cpy (I1 27) (I1 48) 0 0 90))) (J' := J1) (S' := S1) am_e54 rfl rfl rfl rfl ?_
  refine w_st (i' := 19) (ls' := [.ref 39, .ref 18]) (st' := [.ref 39, .int (nI 0), .ref 28]) (E' := E1) (I' := (u_I I1 48 (va_cpy (I1 27) (I1 48) 0 0 90))) (J' := J1) (S' := S1) am_e54 rfl rfl rfl rfl ?_
  refine w_st (i' := 20) (ls' := [.ref 39, .ref 18]) (st' := [.ref 49, .int (nI 0), .ref 28]) (E' := E1) (I' := (u_I I1 48 (va_cpy (I1 27) (I1 48) 0 0 90))) (J' := J1) (S' := S1) am_e54 rfl rfl rfl rfl ?_
  refine w_st (i' := 21) (ls' := [.ref 39, .ref 18]) (st' := [.int (nI 0), .ref 49, .int (nI 0), .ref 28]) (E' := E1) (I' := (u_I I1 48 (va_cpy (I1 27) (I1 48) 0 0 90))) (J' := J1) (S' := S1) am_e54 rfl rfl rfl rfl ?_
  refine w_st (i' := 22) (ls' := [.ref 39, .ref 18]) (st' := [.ref 39, .int (nI 0), .ref 49, .int (nI 0), .ref 28]) (E' := E1) (I' := (u_I I1 48 (va_cpy (I1 27) (I1 48) 0 0 90))) (J' := J1) (S' := S1) am_e54 rfl rfl rfl rfl ?_
  refine w_st (i' := 23) (ls' := [.ref 39, .ref 18]) (st' := [.ref 49, .int (nI 0), .ref 49, .int (nI 0), .ref 28]) (E' := E1) (I' := (u_I I1 48 (va_cpy (I1 27) (I1 48) 0 0 90))) (J' := J1) (S' := S1) am_e54 rfl rfl rfl rfl ?_
  refine w_st (i' := 24) (ls' := [.ref 39, .ref 18]) (st' := [.int (nI 3), .int (nI 0), .ref 49, .int (nI 0), .ref 28]) (E' := E1) (I' := (u_I I1 48 (va_cpy (I1 27) (I1 48) 0 0 90))) (J' := J1) (S' := S1) am_e54 rfl rfl rfl rfl ?_
  refine w_cp (k := 28) (a := 49) (nk := 3) (na := 3) am_e54 rfl (by decide) (by decide) rfl rfl (by decide) (by unfold am_cpOk; decide) ?_
  show am_ww 54 25 [.ref 39, .ref 18] [] E1 (u_I (u_I I1 48 (va_cpy (I1 27) (I1 48) 0 0 90)) 49 (va_cpy (I1 28) (I1 49) 0 0 3)) J1 S1 _
  refine w_st (i' := 26) (ls' := [.ref 39, .ref 18]) (st' := [.ref 18]) (E' := E1) (I' := (u_I (u_I I1 48 (va_cpy (I1 27) (I1 48) 0 0 90)) 49 (va_cpy (I1 28) (I1 49) 0 0 3))) (J' := J1) (S' := S1) am_e54 rfl rfl rfl rfl ?_
  refine w_st (i' := 27) (ls' := [.ref 39, .ref 18]) (st' := [.ref 29]) (E' := E1) (I' := (u_I (u_I I1 48 (va_cpy (I1 27) (I1 48) 0 0 90)) 49 (va_cpy (I1 28) (I1 49) 0 0 3))) (J' := J1) (S' := S1) am_e54 rfl rfl rfl rfl ?_
  refine w_st (i' := 28) (ls' := [.ref 39, .ref 18]) (st' := [.int (nI 0), .ref 29]) (E' := E1) (I' := (u_I (u_I I1 48 (va_cpy (I1 27) (I1 48) 0 0 90)) 49 (va_cpy (I1 28) (I1 49) 0 0 3))) (J' := J1) (S' := S1) am_e54 rfl rfl rfl rfl ?_
  refine w_st (i' := 29) (ls' := [.ref 39, .ref 18]) (st' := [.ref 39, .int (nI 0), .ref 29]) (E' := E1) (I' := (u_I (u_I I1 48 (va_cpy (I1 27) (I1 48) 0 0 90)) 49 (va_cpy (I1 28) (I1 49) 0 0 3))) (J' := J1) (S' := S1) am_e54 rfl rfl rfl rfl ?_
  refine w_st (i' := 30) (ls' := [.ref 39, .ref 18]) (st' := [.ref 50, .int (nI 0), .ref 29]) (E' := E1) (I' := (u_I (u_I I1 48 (va_cpy (I1 27) (I1 48) 0 0 90)) 49 (va_cpy (I1 28) (I1 49) 0 0 3))) (J' := J1) (S' := S1) am_e54 rfl rfl rfl rfl ?_
  refine w_st (i' := 31) (ls' := [.ref 39, .ref 18]) (st' := [.int (nI 0), .ref 50, .int (nI 0), .ref 29]) (E' := E1) (I' := (u_I (u_I I1 48 (va_cpy (I1 27) (I1 48) 0 0 90)) 49 (va_cpy (I1 28) (I1 49) 0 0 3))) (J' := J1) (S' := S1) am_e54 rfl rfl rfl rfl ?_
  refine w_st (i' := 32) (ls' := [.ref 39, .ref 18]) (st' := [.int (nI 400), .int (nI 0), .ref 50, .int (nI 0), .ref 29]) (E' := E1) (I' := (u_I (u_I I1 48 (va_cpy (I1 27) (I1 48) 0 0 90)) 49 (va_cpy (I1 28) (I1 49) 0 0 3))) (J' := J1) (S' := S1) am_e54 rfl rfl rfl rfl ?_
  refine w_cp (k := 29) (a := 50) (nk := 400) (na := 400) am_e54 rfl (by decide) (by decide) rfl rfl (by decide) (by unfold am_cpOk; decide) ?_
  show am_ww 54 33 [.ref 39, .ref 18] [] E1 (u_I (u_I (u_I I1 48 (va_cpy (I1 27) (I1 48) 0 0 90)) 49 (va_cpy (I1 28) (I1 49) 0 0 3)) 50 (va_cpy (I1 29) (I1 50) 0 0 400)) J1 S1 _
  refine w_st (i' := 34) (ls' := [.ref 39, .ref 18]) (st' := [.ref 18]) (E' := E1) (I' := (u_I (u_I (u_I I1 48 (va_cpy (I1 27) (I1 48) 0 0 90)) 49 (va_cpy (I1 28) (I1 49) 0 0 3)) 50 (va_cpy (I1 29) (I1 50) 0 0 400))) (J' := J1) (S' := S1) am_e54 rfl rfl rfl rfl ?_
  refine w_st (i' := 35) (ls' := [.ref 39, .ref 18]) (st' := [.ref 30]) (E' := E1) (I' := (u_I (u_I (u_I I1 48 (va_cpy (I1 27) (I1 48) 0 0 90)) 49 (va_cpy (I1 28) (I1 49) 0 0 3)) 50 (va_cpy (I1 29) (I1 50) 0 0 400))) (J' := J1) (S' := S1) am_e54 rfl rfl rfl rfl ?_
  refine w_st (i' := 36) (ls' := [.ref 39, .ref 18]) (st' := [.int (nI 0), .ref 30]) (E' := E1) (I' := (u_I (u_I (u_I I1 48 (va_cpy (I1 27) (I1 48) 0 0 90)) 49 (va_cpy (I1 28) (I1 49) 0 0 3)) 50 (va_cpy (I1 29) (I1 50) 0 0 400))) (J' := J1) (S' := S1) am_e54 rfl rfl rfl rfl ?_
  refine w_st (i' := 37) (ls' := [.ref 39, .ref 18]) (st' := [.ref 39, .int (nI 0), .ref 30]) (E' := E1) (I' := (u_I (u_I (u_I I1 48 (va_cpy (I1 27) (I1 48) 0 0 90)) 49 (va_cpy (I1 28) (I1 49) 0 0 3)) 50 (va_cpy (I1 29) (I1 50) 0 0 400))) (J' := J1) (S' := S1) am_e54 rfl rfl rfl rfl ?_
  refine w_st (i' := 38) (ls' := [.ref 39, .ref 18]) (st' := [.ref 51, .int (nI 0), .ref 30]) (E' := E1) (I' := (u_I (u_I (u_I I1 48 (va_cpy (I1 27) (I1 48) 0 0 90)) 49 (va_cpy (I1 28) (I1 49) 0 0 3)) 50 (va_cpy (I1 29) (I1 50) 0 0 400))) (J' := J1) (S' := S1) am_e54 rfl rfl rfl rfl ?_
  refine w_st (i' := 39) (ls' := [.ref 39, .ref 18]) (st' := [.int (nI 0), .ref 51, .int (nI 0), .ref 30]) (E' := E1) (I' := (u_I (u_I (u_I I1 48 (va_cpy (I1 27) (I1 48) 0 0 90)) 49 (va_cpy (I1 28) (I1 49) 0 0 3)) 50 (va_cpy (I1 29) (I1 50) 0 0 400))) (J' := J1) (S' := S1) am_e54 rfl rfl rfl rfl ?_
  refine w_st (i' := 40) (ls' := [.ref 39, .ref 18]) (st' := [.int (nI 400), .int (nI 0), .ref 51, .int (nI 0), .ref 30]) (E' := E1) (I' := (u_I (u_I (u_I I1 48 (va_cpy (I1 27) (I1 48) 0 0 90)) 49 (va_cpy (I1 28) (I1 49) 0 0 3)) 50 (va_cpy (I1 29) (I1 50) 0 0 400))) (J' := J1) (S' := S1) am_e54 rfl rfl rfl rfl ?_
  refine w_cp (k := 30) (a := 51) (nk := 400) (na := 400) am_e54 rfl (by decide) (by decide) rfl rfl (by decide) (by unfold am_cpOk; decide) ?_
  show am_ww 54 41 [.ref 39, .ref 18] [] E1 (u_I (u_I (u_I (u_I I1 48 (va_cpy (I1 27) (I1 48) 0 0 90)) 49 (va_cpy (I1 28) (I1 49) 0 0 3)) 50 (va_cpy (I1 29) (I1 50) 0 0 400)) 51 (va_cpy (I1 30) (I1 51) 0 0 400)) J1 S1 _
  refine w_st (i' := 42) (ls' := [.ref 39, .ref 18]) (st' := [.ref 18]) (E' := E1) (I' := (u_I (u_I (u_I (u_I I1 48 (va_cpy (I1 27) (I1 48) 0 0 90)) 49 (va_cpy (I1 28) (I1 49) 0 0 3)) 50 (va_cpy (I1 29) (I1 50) 0 0 400)) 51 (va_cpy (I1 30) (I1 51) 0 0 400))) (J' := J1) (S' := S1) am_e54 rfl rfl rfl rfl ?_
  refine w_st (i' := 43) (ls' := [.ref 39, .ref 18]) (st' := [.ref 31]) (E' := E1) (I' := (u_I (u_I (u_I (u_I I1 48 (va_cpy (I1 27) (I1 48) 0 0 90)) 49 (va_cpy (I1 28) (I1 49) 0 0 3)) 50 (va_cpy (I1 29) (I1 50) 0 0 400)) 51 (va_cpy (I1 30) (I1 51) 0 0 400))) (J' := J1) (S' := S1) am_e54 rfl rfl rfl rfl ?_
  refine w_st (i' := 44) (ls' := [.ref 39, .ref 18]) (st' := [.int (nI 0), .ref 31]) (E' := E1) (I' := (u_I (u_I (u_I (u_I I1 48 (va_cpy (I1 27) (I1 48) 0 0 90)) 49 (va_cpy (I1 28) (I1 49) 0 0 3)) 50 (va_cpy (I1 29) (I1 50) 0 0 400)) 51 (va_cpy (I1 30) (I1 51) 0 0 400))) (J' := J1) (S' := S1) am_e54 rfl rfl rfl rfl ?_
  refine w_st (i' := 45) (ls' := [.ref 39, .ref 18]) (st' := [.ref 39, .int (nI 0), .ref 31]) (E' := E1) (I' := (u_I (u_I (u_I (u_I I1 48 (va_cpy (I1 27) (I1 48) 0 0 90)) 49 (va_cpy (I1 28) (I1 49) 0 0 3)) 50 (va_cpy (I1 29) (I1 50) 0 0 400)) 51 (va_cpy (I1 30) (I1 51) 0 0 400))) (J' := J1) (S' := S1) am_e54 rfl rfl rfl rfl ?_
  refine w_st (i' := 46) (ls' := [.ref 39, .ref 18]) (st' := [.ref 52, .int (nI 0), .ref 31]) (E' := E1) (I' := (u_I (u_I (u_I (u_I I1 48 (va_cpy (I1 27) (I1 48) 0 0 90)) 49 (va_cpy (I1 28) (I1 49) 0 0 3)) 50 (va_cpy (I1 29) (I1 50) 0 0 400)) 51 (va_cpy (I1 30) (I1 51) 0 0 400))) (J' := J1) (S' := S1) am_e54 rfl rfl rfl rfl ?_
  refine w_st (i' := 47) (ls' := [.ref 39, .ref 18]) (st' := [.int (nI 0), .ref 52, .int (nI 0), .ref 31]) (E' := E1) (I' := (u_I (u_I (u_I (u_I I1 48 (va_cpy (I1 27) (I1 48) 0 0 90)) 49 (va_cpy (I1 28) (I1 49) 0 0 3)) 50 (va_cpy (I1 29) (I1 50) 0 0 400)) 51 (va_cpy (I1 30) (I1 51) 0 0 400))) (J' := J1) (S' := S1) am_e54 rfl rfl rfl rfl ?_
  refine w_st (i' := 48) (ls' := [.ref 39, .ref 18]) (st' := [.int (nI 400), .int (nI 0), .ref 52, .int (nI 0), .ref 31]) (E' := E1) (I' := (u_I (u_I (u_I (u_I I1 48 (va_cpy (I1 27) (I1 48) 0 0 90)) 49 (va_cpy (I1 28) (I1 49) 0 0 3)) 50 (va_cpy (I1 29) (I1 50) 0 0 400)) 51 (va_cpy (I1 30) (I1 51) 0 0 400))) (J' := J1) (S' := S1) am_e54 rfl rfl rfl rfl ?_
  refine w_cp (k := 31) (a := 52) (nk := 400) (na := 400) am_e54 rfl (by decide) (by decide) rfl rfl (by decide) (by unfold am_cpOk; decide) ?_
  show am_ww 54 49 [.ref 39, .ref 18] [] E1 (u_I (u_I (u_I (u_I (u_I I1 48 (va_cpy (I1 27) (I1 48) 0 0 90)) 49 (va_cpy (I1 28) (I1 49) 0 0 3)) 50 (va_cpy (I1 29) (I1 50) 0 0 400)) 51 (va_cpy (I1 30) (I1 51) 0 0 400)) 52 (va_cpy (I1 31) (I1 52) 0 0 400)) J1 S1 _
  refine w_st (i' := 50) (ls' := [.ref 39, .ref 18]) (st' := [.ref 18]) (E' := E1) (I' := (u_I (u_I (u_I (u_I (u_I I1 48 (va_cpy (I1 27) (I1 48) 0 0 90)) 49 (va_cpy (I1 28) (I1 49) 0 0 3)) 50 (va_cpy (I1 29) (I1 50) 0 0 400)) 51 (va_cpy (I1 30) (I1 51) 0 0 400)) 52 (va_cpy (I1 31) (I1 52) 0 0 400))) (J' := J1) (S' := S1) am_e54 rfl rfl rfl rfl ?_
  refine w_st (i' := 51) (ls' := [.ref 39, .ref 18]) (st' := [.ref 32]) (E' := E1) (I' := (u_I (u_I (u_I (u_I (u_I I1 48 (va_cpy (I1 27) (I1 48) 0 0 90)) 49 (va_cpy (I1 28) (I1 49) 0 0 3)) 50 (va_cpy (I1 29) (I1 50) 0 0 400)) 51 (va_cpy (I1 30) (I1 51) 0 0 400)) 52 (va_cpy (I1 31) (I1 52) 0 0 400))) (J' := J1) (S' := S1) am_e54 rfl rfl rfl rfl ?_
  refine w_st (i' := 52) (ls' := [.ref 39, .ref 18]) (st' := [.int (nI 0), .ref 32]) (E' := E1) (I' := (u_I (u_I (u_I (u_I (u_I I1 48 (va_cpy (I1 27) (I1 48) 0 0 90)) 49 (va_cpy (I1 28) (I1 49) 0 0 3)) 50 (va_cpy (I1 29) (I1 50) 0 0 400)) 51 (va_cpy (I1 30) (I1 51) 0 0 400)) 52 (va_cpy (I1 31) (I1 52) 0 0 400))) (J' := J1) (S' := S1) am_e54 rfl rfl rfl rfl ?_
  refine w_st (i' := 53) (ls' := [.ref 39, .ref 18]) (st' := [.ref 39, .int (nI 0), .ref 32]) (E' := E1) (I' := (u_I (u_I (u_I (u_I (u_I I1 48 (va_cpy (I1 27) (I1 48) 0 0 90)) 49 (va_cpy (I1 28) (I1 49) 0 0 3)) 50 (va_cpy (I1 29) (I1 50) 0 0 400)) 51 (va_cpy (I1 30) (I1 51) 0 0 400)) 52 (va_cpy (I1 31) (I1 52) 0 0 400))) (J' := J1) (S' := S1) am_e54 rfl rfl rfl rfl ?_
  refine w_st (i' := 54) (ls' := [.ref 39, .ref 18]) (st' := [.ref 53, .int (nI 0), .ref 32]) (E' := E1) (I' := (u_I (u_I (u_I (u_I (u_I I1 48 (va_cpy (I1 27) (I1 48) 0 0 90)) 49 (va_cpy (I1 28) (I1 49) 0 0 3)) 50 (va_cpy (I1 29) (I1 50) 0 0 400)) 51 (va_cpy (I1 30) (I1 51) 0 0 400)) 52 (va_cpy (I1 31) (I1 52) 0 0 400))) (J' := J1) (S' := S1) am_e54 rfl rfl rfl rfl ?_
  refine w_st (i' := 55) (ls' := [.ref 39, .ref 18]) (st' := [.int (nI 0), .ref 53, .int (nI 0), .ref 32]) (E' := E1) (I' := (u_I (u_I (u_I (u_I (u_I I1 48 (va_cpy (I1 27) (I1 48) 0 0 90)) 49 (va_cpy (I1 28) (I1 49) 0 0 3)) 50 (va_cpy (I1 29) (I1 50) 0 0 400)) 51 (va_cpy (I1 30) (I1 51) 0 0 400)) 52 (va_cpy (I1 31) (I1 52) 0 0 400))) (J' := J1) (S' := S1) am_e54 rfl rfl rfl rfl ?_
  refine w_st (i' := 56) (ls' := [.ref 39, .ref 18]) (st' := [.int (nI 400), .int (nI 0), .ref 53, .int (nI 0), .ref 32]) (E' := E1) (I' := (u_I (u_I (u_I (u_I (u_I I1 48 (va_cpy (I1 27) (I1 48) 0 0 90)) 49 (va_cpy (I1 28) (I1 49) 0 0 3)) 50 (va_cpy (I1 29) (I1 50) 0 0 400)) 51 (va_cpy (I1 30) (I1 51) 0 0 400)) 52 (va_cpy (I1 31) (I1 52) 0 0 400))) (J' := J1) (S' := S1) am_e54 rfl rfl rfl rfl ?_
  refine w_cp (k := 32) (a := 53) (nk := 400) (na := 400) am_e54 rfl (by decide) (by decide) rfl rfl (by decide) (by unfold am_cpOk; decide) ?_
  show am_ww 54 57 [.ref 39, .ref 18] [] E1 (u_I (u_I (u_I (u_I (u_I (u_I I1 48 (va_cpy (I1 27) (I1 48) 0 0 90)) 49 (va_cpy (I1 28) (I1 49) 0 0 3)) 50 (va_cpy (I1 29) (I1 50) 0 0 400)) 51 (va_cpy (I1 30) (I1 51) 0 0 400)) 52 (va_cpy (I1 31) (I1 52) 0 0 400)) 53 (va_cpy (I1 32) (I1 53) 0 0 400)) J1 S1 _
  refine w_st (i' := 58) (ls' := [.ref 39, .ref 18]) (st' := [.ref 18]) (E' := E1) (I' := (u_I (u_I (u_I (u_I (u_I (u_I I1 48 (va_cpy (I1 27) (I1 48) 0 0 90)) 49 (va_cpy (I1 28) (I1 49) 0 0 3)) 50 (va_cpy (I1 29) (I1 50) 0 0 400)) 51 (va_cpy (I1 30) (I1 51) 0 0 400)) 52 (va_cpy (I1 31) (I1 52) 0 0 400)) 53 (va_cpy (I1 32) (I1 53) 0 0 400))) (J' := J1) (S' := S1) am_e54 rfl rfl rfl rfl ?_
  refine w_st (i' := 59) (ls' := [.ref 39, .ref 18]) (st' := [.ref 33]) (E' := E1) (I' := (u_I (u_I (u_I (u_I (u_I (u_I I1 48 (va_cpy (I1 27) (I1 48) 0 0 90)) 49 (va_cpy (I1 28) (I1 49) 0 0 3)) 50 (va_cpy (I1 29) (I1 50) 0 0 400)) 51 (va_cpy (I1 30) (I1 51) 0 0 400)) 52 (va_cpy (I1 31) (I1 52) 0 0 400)) 53 (va_cpy (I1 32) (I1 53) 0 0 400))) (J' := J1) (S' := S1) am_e54 rfl rfl rfl rfl ?_
  refine w_st (i' := 60) (ls' := [.ref 39, .ref 18]) (st' := [.int (nI 0), .ref 33]) (E' := E1) (I' := (u_I (u_I (u_I (u_I (u_I (u_I I1 48 (va_cpy (I1 27) (I1 48) 0 0 90)) 49 (va_cpy (I1 28) (I1 49) 0 0 3)) 50 (va_cpy (I1 29) (I1 50) 0 0 400)) 51 (va_cpy (I1 30) (I1 51) 0 0 400)) 52 (va_cpy (I1 31) (I1 52) 0 0 400)) 53 (va_cpy (I1 32) (I1 53) 0 0 400))) (J' := J1) (S' := S1) am_e54 rfl rfl rfl rfl ?_
  refine w_st (i' := 61) (ls' := [.ref 39, .ref 18]) (st' := [.ref 39, .int (nI 0), .ref 33]) (E' := E1) (I' := (u_I (u_I (u_I (u_I (u_I (u_I I1 48 (va_cpy (I1 27) (I1 48) 0 0 90)) 49 (va_cpy (I1 28) (I1 49) 0 0 3)) 50 (va_cpy (I1 29) (I1 50) 0 0 400)) 51 (va_cpy (I1 30) (I1 51) 0 0 400)) 52 (va_cpy (I1 31) (I1 52) 0 0 400)) 53 (va_cpy (I1 32) (I1 53) 0 0 400))) (J' := J1) (S' := S1) am_e54 rfl rfl rfl rfl ?_
  refine w_st (i' := 62) (ls' := [.ref 39, .ref 18]) (st' := [.ref 54, .int (nI 0), .ref 33]) (E' := E1) (I' := (u_I (u_I (u_I (u_I (u_I (u_I I1 48 (va_cpy (I1 27) (I1 48) 0 0 90)) 49 (va_cpy (I1 28) (I1 49) 0 0 3)) 50 (va_cpy (I1 29) (I1 50) 0 0 400)) 51 (va_cpy (I1 30) (I1 51) 0 0 400)) 52 (va_cpy (I1 31) (I1 52) 0 0 400)) 53 (va_cpy (I1 32) (I1 53) 0 0 400))) (J' := J1) (S' := S1) am_e54 rfl rfl rfl rfl ?_
  refine w_st (i' := 63) (ls' := [.ref 39, .ref 18]) (st' := [.int (nI 0), .ref 54, .int (nI 0), .ref 33]) (E' := E1) (I' := (u_I (u_I (u_I (u_I (u_I (u_I I1 48 (va_cpy (I1 27) (I1 48) 0 0 90)) 49 (va_cpy (I1 28) (I1 49) 0 0 3)) 50 (va_cpy (I1 29) (I1 50) 0 0 400)) 51 (va_cpy (I1 30) (I1 51) 0 0 400)) 52 (va_cpy (I1 31) (I1 52) 0 0 400)) 53 (va_cpy (I1 32) (I1 53) 0 0 400))) (J' := J1) (S' := S1) am_e54 rfl rfl rfl rfl ?_
  refine w_st (i' := 64) (ls' := [.ref 39, .ref 18]) (st' := [.ref 39, .int (nI 0), .ref 54, .int (nI 0), .ref 33]) (E' := E1) (I' := (u_I (u_I (u_I (u_I (u_I (u_I I1 48 (va_cpy (I1 27) (I1 48) 0 0 90)) 49 (va_cpy (I1 28) (I1 49) 0 0 3)) 50 (va_cpy (I1 29) (I1 50) 0 0 400)) 51 (va_cpy (I1 30) (I1 51) 0 0 400)) 52 (va_cpy (I1 31) (I1 52) 0 0 400)) 53 (va_cpy (I1 32) (I1 53) 0 0 400))) (J' := J1) (S' := S1) am_e54 rfl rfl rfl rfl ?_
  refine w_st (i' := 65) (ls' := [.ref 39, .ref 18]) (st' := [.ref 54, .int (nI 0), .ref 54, .int (nI 0), .ref 33]) (E' := E1) (I' := (u_I (u_I (u_I (u_I (u_I (u_I I1 48 (va_cpy (I1 27) (I1 48) 0 0 90)) 49 (va_cpy (I1 28) (I1 49) 0 0 3)) 50 (va_cpy (I1 29) (I1 50) 0 0 400)) 51 (va_cpy (I1 30) (I1 51) 0 0 400)) 52 (va_cpy (I1 31) (I1 52) 0 0 400)) 53 (va_cpy (I1 32) (I1 53) 0 0 400))) (J' := J1) (S' := S1) am_e54 rfl rfl rfl rfl ?_
  refine w_st (i' := 66) (ls' := [.ref 39, .ref 18]) (st' := [.int (nI 401), .int (nI 0), .ref 54, .int (nI 0), .ref 33]) (E' := E1) (I' := (u_I (u_I (u_I (u_I (u_I (u_I I1 48 (va_cpy (I1 27) (I1 48) 0 0 90)) 49 (va_cpy (I1 28) (I1 49) 0 0 3)) 50 (va_cpy (I1 29) (I1 50) 0 0 400)) 51 (va_cpy (I1 30) (I1 51) 0 0 400)) 52 (va_cpy (I1 31) (I1 52) 0 0 400)) 53 (va_cpy (I1 32) (I1 53) 0 0 400))) (J' := J1) (S' := S1) am_e54 rfl rfl rfl rfl ?_
  refine w_cp (k := 33) (a := 54) (nk := 401) (na := 401) am_e54 rfl (by decide) (by decide) rfl rfl (by decide) (by unfold am_cpOk; decide) ?_
  show am_ww 54 67 [.ref 39, .ref 18] [] E1 (u_I (u_I (u_I (u_I (u_I (u_I (u_I I1 48 (va_cpy (I1 27) (I1 48) 0 0 90)) 49 (va_cpy (I1 28) (I1 49) 0 0 3)) 50 (va_cpy (I1 29) (I1 50) 0 0 400)) 51 (va_cpy (I1 30) (I1 51) 0 0 400)) 52 (va_cpy (I1 31) (I1 52) 0 0 400)) 53 (va_cpy (I1 32) (I1 53) 0 0 400)) 54 (va_cpy (I1 33) (I1 54) 0 0 401)) J1 S1 _
  refine w_st (i' := 68) (ls' := [.ref 39, .ref 18]) (st' := [.ref 39]) (E' := E1) (I' := (u_I (u_I (u_I (u_I (u_I (u_I (u_I I1 48 (va_cpy (I1 27) (I1 48) 0 0 90)) 49 (va_cpy (I1 28) (I1 49) 0 0 3)) 50 (va_cpy (I1 29) (I1 50) 0 0 400)) 51 (va_cpy (I1 30) (I1 51) 0 0 400)) 52 (va_cpy (I1 31) (I1 52) 0 0 400)) 53 (va_cpy (I1 32) (I1 53) 0 0 400)) 54 (va_cpy (I1 33) (I1 54) 0 0 401))) (J' := J1) (S' := S1) am_e54 rfl rfl rfl rfl ?_
  refine w_st (i' := 69) (ls' := [.ref 39, .ref 18]) (st' := [.ref 55]) (E' := E1) (I' := (u_I (u_I (u_I (u_I (u_I (u_I (u_I I1 48 (va_cpy (I1 27) (I1 48) 0 0 90)) 49 (va_cpy (I1 28) (I1 49) 0 0 3)) 50 (va_cpy (I1 29) (I1 50) 0 0 400)) 51 (va_cpy (I1 30) (I1 51) 0 0 400)) 52 (va_cpy (I1 31) (I1 52) 0 0 400)) 53 (va_cpy (I1 32) (I1 53) 0 0 400)) 54 (va_cpy (I1 33) (I1 54) 0 0 401))) (J' := J1) (S' := S1) am_e54 rfl rfl rfl rfl ?_
  refine w_st (i' := 70) (ls' := [.ref 39, .ref 18]) (st' := [.ref 18, .ref 55]) (E' := E1) (I' := (u_I (u_I (u_I (u_I (u_I (u_I (u_I I1 48 (va_cpy (I1 27) (I1 48) 0 0 90)) 49 (va_cpy (I1 28) (I1 49) 0 0 3)) 50 (va_cpy (I1 29) (I1 50) 0 0 400)) 51 (va_cpy (I1 30) (I1 51) 0 0 400)) 52 (va_cpy (I1 31) (I1 52) 0 0 400)) 53 (va_cpy (I1 32) (I1 53) 0 0 400)) 54 (va_cpy (I1 33) (I1 54) 0 0 401))) (J' := J1) (S' := S1) am_e54 rfl rfl rfl rfl ?_
  refine w_st (i' := 71) (ls' := [.ref 39, .ref 18]) (st' := [.ref 34, .ref 55]) (E' := E1) (I' := (u_I (u_I (u_I (u_I (u_I (u_I (u_I I1 48 (va_cpy (I1 27) (I1 48) 0 0 90)) 49 (va_cpy (I1 28) (I1 49) 0 0 3)) 50 (va_cpy (I1 29) (I1 50) 0 0 400)) 51 (va_cpy (I1 30) (I1 51) 0 0 400)) 52 (va_cpy (I1 31) (I1 52) 0 0 400)) 53 (va_cpy (I1 32) (I1 53) 0 0 400)) 54 (va_cpy (I1 33) (I1 54) 0 0 401))) (J' := J1) (S' := S1) am_e54 rfl rfl rfl rfl ?_
  refine w_cV am_e54 rfl rfl (as := [.ref 55, .ref 34]) (rest := []) rfl rfl (am_ww.mono h ?_)
  rintro _ E2 I2 J2 S2 ⟨rfl, h⟩
  refine q_mkV ?_
  refine w_st (i' := 73) (ls' := [.ref 39, .ref 18]) (st' := [.ref 39]) (E' := E2) (I' := I2) (J' := J2) (S' := S2) am_e54 rfl rfl rfl rfl ?_
  refine w_st (i' := 74) (ls' := [.ref 39, .ref 18]) (st' := [.ref 18, .ref 39]) (E' := E2) (I' := I2) (J' := J2) (S' := S2) am_e54 rfl rfl rfl rfl ?_
  refine w_st (i' := 75) (ls' := [.ref 39, .ref 18]) (st' := [.int ((I2 18) 9), .ref 39]) (E' := E2) (I' := I2) (J' := J2) (S' := S2) am_e54 rfl rfl rfl rfl ?_
  refine w_st (i' := 76) (ls' := [.ref 39, .ref 18]) (st' := []) (E' := E2) (I' := (u_I I2 39 (upd (I2 39) 9 ((I2 18) 9)))) (J' := J2) (S' := S2) am_e54 rfl rfl rfl rfl ?_
  refine w_st (i' := 77) (ls' := [.ref 39, .ref 18]) (st' := [.ref 39]) (E' := E2) (I' := (u_I I2 39 (upd (I2 39) 9 ((I2 18) 9)))) (J' := J2) (S' := S2) am_e54 rfl rfl rfl rfl ?_
  refine w_st (i' := 78) (ls' := [.ref 39, .ref 18]) (st' := [.ref 18, .ref 39]) (E' := E2) (I' := (u_I I2 39 (upd (I2 39) 9 ((I2 18) 9)))) (J' := J2) (S' := S2) am_e54 rfl rfl rfl rfl ?_
  refine w_st (i' := 79) (ls' := [.ref 39, .ref 18]) (st' := [.int ((I2 18) 10), .ref 39]) (E' := E2) (I' := (u_I I2 39 (upd (I2 39) 9 ((I2 18) 9)))) (J' := J2) (S' := S2) am_e54 rfl rfl rfl rfl ?_
  refine w_st (i' := 80) (ls' := [.ref 39, .ref 18]) (st' := []) (E' := E2) (I' := (u_I (u_I I2 39 (upd (I2 39) 9 ((I2 18) 9))) 39 (upd (upd (I2 39) 9 ((I2 18) 9)) 10 ((I2 18) 10)))) (J' := J2) (S' := S2) am_e54 rfl rfl rfl rfl ?_
  refine w_eI (uI_0 ..) ?_
  show am_ww 54 80 [.ref 39, .ref 18] [] E2 (u_I I2 39 (upd (upd (I2 39) 9 ((I2 18) 9)) 10 ((I2 18) 10))) J2 S2 _
  refine w_st (i' := 81) (ls' := [.ref 39, .ref 18]) (st' := [.ref 39]) (E' := E2) (I' := (u_I I2 39 (upd (upd (I2 39) 9 ((I2 18) 9)) 10 ((I2 18) 10)))) (J' := J2) (S' := S2) am_e54 rfl rfl rfl rfl ?_
  refine w_st (i' := 82) (ls' := [.ref 39, .ref 18]) (st' := [.ref 18, .ref 39]) (E' := E2) (I' := (u_I I2 39 (upd (upd (I2 39) 9 ((I2 18) 9)) 10 ((I2 18) 10)))) (J' := J2) (S' := S2) am_e54 rfl rfl rfl rfl ?_
  refine w_st (i' := 83) (ls' := [.ref 39, .ref 18]) (st' := [.int ((I2 18) 11), .ref 39]) (E' := E2) (I' := (u_I I2 39 (upd (upd (I2 39) 9 ((I2 18) 9)) 10 ((I2 18) 10)))) (J' := J2) (S' := S2) am_e54 rfl rfl rfl rfl ?_
  refine w_st (i' := 84) (ls' := [.ref 39, .ref 18]) (st' := []) (E' := E2) (I' := (u_I (u_I I2 39 (upd (upd (I2 39) 9 ((I2 18) 9)) 10 ((I2 18) 10))) 39 (upd (upd (upd (I2 39) 9 ((I2 18) 9)) 10 ((I2 18) 10)) 11 ((I2 18) 11)))) (J' := J2) (S' := S2) am_e54 rfl rfl rfl rfl ?_
  refine w_eI (uI_0 ..) ?_
  show am_ww 54 84 [.ref 39, .ref 18] [] E2 (u_I I2 39 (upd (upd (upd (I2 39) 9 ((I2 18) 9)) 10 ((I2 18) 10)) 11 ((I2 18) 11))) J2 S2 _
  refine w_st (i' := 85) (ls' := [.ref 39, .ref 18]) (st' := [.ref 39]) (E' := E2) (I' := (u_I I2 39 (upd (upd (upd (I2 39) 9 ((I2 18) 9)) 10 ((I2 18) 10)) 11 ((I2 18) 11)))) (J' := J2) (S' := S2) am_e54 rfl rfl rfl rfl ?_
  refine w_st (i' := 86) (ls' := [.ref 39, .ref 18]) (st' := [.ref 18, .ref 39]) (E' := E2) (I' := (u_I I2 39 (upd (upd (upd (I2 39) 9 ((I2 18) 9)) 10 ((I2 18) 10)) 11 ((I2 18) 11)))) (J' := J2) (S' := S2) am_e54 rfl rfl rfl rfl ?_
  refine w_st (i' := 87) (ls' := [.ref 39, .ref 18]) (st' := [.int ((I2 18) 12), .ref 39]) (E' := E2) (I' := (u_I I2 39 (upd (upd (upd (I2 39) 9 ((I2 18) 9)) 10 ((I2 18) 10)) 11 ((I2 18) 11)))) (J' := J2) (S' := S2) am_e54 rfl rfl rfl rfl ?_
  refine w_st (i' := 88) (ls' := [.ref 39, .ref 18]) (st' := []) (E' := E2) (I' := (u_I (u_I I2 39 (upd (upd (upd (I2 39) 9 ((I2 18) 9)) 10 ((I2 18) 10)) 11 ((I2 18) 11))) 39 (upd (upd (upd (upd (I2 39) 9 ((I2 18) 9)) 10 ((I2 18) 10)) 11 ((I2 18) 11)) 12 ((I2 18) 12)))) (J' := J2) (S' := S2) am_e54 rfl rfl rfl rfl ?_
  refine w_eI (uI_0 ..) ?_
  show am_ww 54 88 [.ref 39, .ref 18] [] E2 (u_I I2 39 (upd (upd (upd (upd (I2 39) 9 ((I2 18) 9)) 10 ((I2 18) 10)) 11 ((I2 18) 11)) 12 ((I2 18) 12))) J2 S2 _
  refine w_st (i' := 89) (ls' := [.ref 39, .ref 18]) (st' := [.ref 39]) (E' := E2) (I' := (u_I I2 39 (upd (upd (upd (upd (I2 39) 9 ((I2 18) 9)) 10 ((I2 18) 10)) 11 ((I2 18) 11)) 12 ((I2 18) 12)))) (J' := J2) (S' := S2) am_e54 rfl rfl rfl rfl ?_
  refine w_st (i' := 90) (ls' := [.ref 39, .ref 18]) (st' := [.ref 18, .ref 39]) (E' := E2) (I' := (u_I I2 39 (upd (upd (upd (upd (I2 39) 9 ((I2 18) 9)) 10 ((I2 18) 10)) 11 ((I2 18) 11)) 12 ((I2 18) 12)))) (J' := J2) (S' := S2) am_e54 rfl rfl rfl rfl ?_
  refine w_st (i' := 91) (ls' := [.ref 39, .ref 18]) (st' := [.int ((I2 18) 13), .ref 39]) (E' := E2) (I' := (u_I I2 39 (upd (upd (upd (upd (I2 39) 9 ((I2 18) 9)) 10 ((I2 18) 10)) 11 ((I2 18) 11)) 12 ((I2 18) 12)))) (J' := J2) (S' := S2) am_e54 rfl rfl rfl rfl ?_
  refine w_st (i' := 92) (ls' := [.ref 39, .ref 18]) (st' := []) (E' := E2) (I' := (u_I (u_I I2 39 (upd (upd (upd (upd (I2 39) 9 ((I2 18) 9)) 10 ((I2 18) 10)) 11 ((I2 18) 11)) 12 ((I2 18) 12))) 39 (upd (upd (upd (upd (upd (I2 39) 9 ((I2 18) 9)) 10 ((I2 18) 10)) 11 ((I2 18) 11)) 12 ((I2 18) 12)) 13 ((I2 18) 13)))) (J' := J2) (S' := S2) am_e54 rfl rfl rfl rfl ?_
  refine w_eI (uI_0 ..) ?_
  show am_ww 54 92 [.ref 39, .ref 18] [] E2 (u_I I2 39 (upd (upd (upd (upd (upd (I2 39) 9 ((I2 18) 9)) 10 ((I2 18) 10)) 11 ((I2 18) 11)) 12 ((I2 18) 12)) 13 ((I2 18) 13))) J2 S2 _
  exact w_end am_e54 rfl rfl rfl h
