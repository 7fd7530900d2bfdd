/-! rows of methods, by program -/
-- 19 put
theorem g19_0 {p1 : Int32} {E : am_Ev} {I : Nat → Nat → Int32} {J : Nat → Nat → Int64} {S : Nat → Nat → Option Nat} {Q : am_Qt}  (h : am_ww 19 2 [.ref 1, .int p1, .int (nI 24)] [] E I J S Q) : am_ww 19 0 [.ref 1, .int p1, am_U] [] E I J S Q := by
  refine w_st (i' := 1) (ls' := [.ref 1, .int p1, am_U]) (st' := [.int (nI 24)]) (E' := E) (I' := I) (J' := J) (S' := S) am_e19 rfl rfl rfl rfl ?_
  refine w_st (i' := 2) (ls' := [.ref 1, .int p1, .int (nI 24)]) (st' := []) (E' := E) (I' := I) (J' := J) (S' := S) am_e19 rfl rfl rfl rfl ?_
  exact h
theorem g19_2 {x1 : Int32} {x2 : Int32} {E : am_Ev} {I : Nat → Nat → Int32} {J : Nat → Nat → Int64} {S : Nat → Nat → Option Nat} {Q : am_Qt}  (h : (x2 < 0 → (Q (.inl none) E I J S)) ∧ (¬ x2 < 0 → (((nI 700) ≤ ((I 1) 1) → (Q (.inl none) E I J S)) ∧ (¬ (nI 700) ≤ ((I 1) 1) → (vp_in ((I 1) 1) 700 ∧ (am_ww 19 2 [.ref 1, .int x1, .int (x2 - nI 8)] [] E (u_I (u_I I 2 (upd (I 2) (((I 1) 1).toNatClampNeg) (vp_nar .byte ((x1 >>> (x2 &&& 31)).toInt8.toInt32)))) 1 (upd (I 1) 1 (((I 1) 1) + (nI 1)))) J S Q)))))) : am_ww 19 2 [.ref 1, .int x1, .int x2] [] E I J S Q := by
  refine w_st (i' := 3) (ls' := [.ref 1, .int x1, .int x2]) (st' := [.int x2]) (E' := E) (I' := I) (J' := J) (S' := S) am_e19 rfl rfl rfl rfl ?_
  refine w_if1 am_e19 rfl rfl (fun c => ?_) (fun c => ?_)
  · replace h := h.1 (of_decide_eq_true c)
    exact w_end am_e19 rfl rfl rfl h
  · replace h := h.2 (of_decide_eq_false c)
    refine w_st (i' := 5) (ls' := [.ref 1, .int x1, .int x2]) (st' := [.ref 1]) (E' := E) (I' := I) (J' := J) (S' := S) am_e19 rfl rfl rfl rfl ?_
    refine w_st (i' := 6) (ls' := [.ref 1, .int x1, .int x2]) (st' := [.int ((I 1) 1)]) (E' := E) (I' := I) (J' := J) (S' := S) am_e19 rfl rfl rfl rfl ?_
    refine w_st (i' := 7) (ls' := [.ref 1, .int x1, .int x2]) (st' := [.int (nI 700), .int ((I 1) 1)]) (E' := E) (I' := I) (J' := J) (S' := S) am_e19 rfl rfl rfl rfl ?_
    refine w_if2 am_e19 rfl rfl (fun c => ?_) (fun c => ?_)
    · replace h := h.1 (of_decide_eq_true c)
      exact w_end am_e19 rfl rfl rfl h
    · replace h := h.2 (of_decide_eq_false c)
      refine w_st (i' := 9) (ls' := [.ref 1, .int x1, .int x2]) (st' := [.ref 1]) (E' := E) (I' := I) (J' := J) (S' := S) am_e19 rfl rfl rfl rfl ?_
      refine w_st (i' := 10) (ls' := [.ref 1, .int x1, .int x2]) (st' := [.ref 2]) (E' := E) (I' := I) (J' := J) (S' := S) am_e19 rfl rfl rfl rfl ?_
      refine w_st (i' := 11) (ls' := [.ref 1, .int x1, .int x2]) (st' := [.ref 1, .ref 2]) (E' := E) (I' := I) (J' := J) (S' := S) am_e19 rfl rfl rfl rfl ?_
      refine w_st (i' := 12) (ls' := [.ref 1, .int x1, .int x2]) (st' := [.int ((I 1) 1), .ref 2]) (E' := E) (I' := I) (J' := J) (S' := S) am_e19 rfl rfl rfl rfl ?_
      refine w_st (i' := 13) (ls' := [.ref 1, .int x1, .int x2]) (st' := [.int x1, .int ((I 1) 1), .ref 2]) (E' := E) (I' := I) (J' := J) (S' := S) am_e19 rfl rfl rfl rfl ?_
      refine w_st (i' := 14) (ls' := [.ref 1, .int x1, .int x2]) (st' := [.int x2, .int x1, .int ((I 1) 1), .ref 2]) (E' := E) (I' := I) (J' := J) (S' := S) am_e19 rfl rfl rfl rfl ?_
      refine w_st (i' := 15) (ls' := [.ref 1, .int x1, .int x2]) (st' := [.int (x1 >>> (x2 &&& 31)), .int ((I 1) 1), .ref 2]) (E' := E) (I' := I) (J' := J) (S' := S) am_e19 rfl rfl rfl rfl ?_
      refine w_st (i' := 16) (ls' := [.ref 1, .int x1, .int x2]) (st' := [.int ((x1 >>> (x2 &&& 31)).toInt8.toInt32), .int ((I 1) 1), .ref 2]) (E' := E) (I' := I) (J' := J) (S' := S) am_e19 rfl rfl rfl rfl ?_
      have hf1 := h.1
      replace h := h.2
      refine w_bs (k := 2) (n := 700) (jn := ((I 1) 1).toNatClampNeg) am_e19 rfl rfl (by decide) hf1 rfl ?_
      show am_ww 19 17 [.ref 1, .int x1, .int x2] [] E (u_I I 2 (upd (I 2) (((I 1) 1).toNatClampNeg) (vp_nar .byte ((x1 >>> (x2 &&& 31)).toInt8.toInt32)))) J S _
      refine w_st (i' := 18) (ls' := [.ref 1, .int x1, .int x2]) (st' := [.ref 1]) (E' := E) (I' := (u_I I 2 (upd (I 2) (((I 1) 1).toNatClampNeg) (vp_nar .byte ((x1 >>> (x2 &&& 31)).toInt8.toInt32))))) (J' := J) (S' := S) am_e19 rfl rfl rfl rfl ?_
      refine w_st (i' := 19) (ls' := [.ref 1, .int x1, .int x2]) (st' := [.ref 1, .ref 1]) (E' := E) (I' := (u_I I 2 (upd (I 2) (((I 1) 1).toNatClampNeg) (vp_nar .byte ((x1 >>> (x2 &&& 31)).toInt8.toInt32))))) (J' := J) (S' := S) am_e19 rfl rfl rfl rfl ?_
      refine w_st (i' := 20) (ls' := [.ref 1, .int x1, .int x2]) (st' := [.int ((I 1) 1), .ref 1]) (E' := E) (I' := (u_I I 2 (upd (I 2) (((I 1) 1).toNatClampNeg) (vp_nar .byte ((x1 >>> (x2 &&& 31)).toInt8.toInt32))))) (J' := J) (S' := S) am_e19 rfl rfl rfl rfl ?_
      refine w_st (i' := 21) (ls' := [.ref 1, .int x1, .int x2]) (st' := [.int (nI 1), .int ((I 1) 1), .ref 1]) (E' := E) (I' := (u_I I 2 (upd (I 2) (((I 1) 1).toNatClampNeg) (vp_nar .byte ((x1 >>> (x2 &&& 31)).toInt8.toInt32))))) (J' := J) (S' := S) am_e19 rfl rfl rfl rfl ?_
      refine w_st (i' := 22) (ls' := [.ref 1, .int x1, .int x2]) (st' := [.int (((I 1) 1) + (nI 1)), .ref 1]) (E' := E) (I' := (u_I I 2 (upd (I 2) (((I 1) 1).toNatClampNeg) (vp_nar .byte ((x1 >>> (x2 &&& 31)).toInt8.toInt32))))) (J' := J) (S' := S) am_e19 rfl rfl rfl rfl ?_
      refine w_st (i' := 23) (ls' := [.ref 1, .int x1, .int x2]) (st' := []) (E' := E) (I' := (u_I (u_I I 2 (upd (I 2) (((I 1) 1).toNatClampNeg) (vp_nar .byte ((x1 >>> (x2 &&& 31)).toInt8.toInt32)))) 1 (upd (I 1) 1 (((I 1) 1) + (nI 1))))) (J' := J) (S' := S) am_e19 rfl rfl rfl rfl ?_
      refine w_st (i' := 24) (ls' := [.ref 1, .int x1, .int (x2 - nI 8)]) (st' := []) (E' := E) (I' := (u_I (u_I I 2 (upd (I 2) (((I 1) 1).toNatClampNeg) (vp_nar .byte ((x1 >>> (x2 &&& 31)).toInt8.toInt32)))) 1 (upd (I 1) 1 (((I 1) 1) + (nI 1))))) (J' := J) (S' := S) am_e19 rfl rfl rfl rfl ?_
      refine w_st (i' := 2) (ls' := [.ref 1, .int x1, .int (x2 - nI 8)]) (st' := []) (E' := E) (I' := (u_I (u_I I 2 (upd (I 2) (((I 1) 1).toNatClampNeg) (vp_nar .byte ((x1 >>> (x2 &&& 31)).toInt8.toInt32)))) 1 (upd (I 1) 1 (((I 1) 1) + (nI 1))))) (J' := J) (S' := S) am_e19 rfl rfl rfl rfl ?_
      exact h
-- 61 clear
theorem g61_0  {E : am_Ev} {I : Nat → Nat → Int32} {J : Nat → Nat → Int64} {S : Nat → Nat → Option Nat} {Q : am_Qt}  (h : am_cl 12 [.ref 3] E I J S (q_V fun E1 I1 J1 S1 => am_cl 62 [.ref 9, .long (lN 0)] E1 I1 J1 S1 (q_V fun E2 I2 J2 S2 => am_cl 62 [.ref 10, .long (lN 0)] E2 I2 J2 S2 (q_V fun E3 I3 J3 S3 => Q (.inl none) E3 (u_I I3 1 (upd (upd (upd (upd (I3 1) 3 (-1)) 5 (nI 0)) 16 (nI 0)) 10 (nI 0))) J3 S3)))) : am_ww 61 0 [.ref 1] [] E I J S Q := by
  refine w_st (i' := 1) (ls' := [.ref 1]) (st' := [.ref 1]) (E' := E) (I' := I) (J' := J) (S' := S) am_e61 rfl rfl rfl rfl ?_
  refine w_st (i' := 2) (ls' := [.ref 1]) (st' := [.ref 3]) (E' := E) (I' := I) (J' := J) (S' := S) am_e61 rfl rfl rfl rfl ?_
  refine w_cV am_e61 rfl rfl (as := [.ref 3]) (rest := []) rfl rfl (am_ww.mono h ?_)
  rintro _ E1 I1 J1 S1 ⟨rfl, h⟩
  refine q_mkV ?_
  refine w_st (i' := 4) (ls' := [.ref 1]) (st' := [.ref 1]) (E' := E1) (I' := I1) (J' := J1) (S' := S1) am_e61 rfl rfl rfl rfl ?_
  refine w_st (i' := 5) (ls' := [.ref 1]) (st' := [.ref 9]) (E' := E1) (I' := I1) (J' := J1) (S' := S1) am_e61 rfl rfl rfl rfl ?_
  refine w_st (i' := 6) (ls' := [.ref 1]) (st' := [.long (lN 0), .ref 9]) (E' := E1) (I' := I1) (J' := J1) (S' := S1) am_e61 rfl rfl rfl rfl ?_
  refine w_cV am_e61 rfl rfl (as := [.ref 9, .long (lN 0)]) (rest := []) rfl rfl (am_ww.mono h ?_)
  rintro _ E2 I2 J2 S2 ⟨rfl, h⟩
  refine q_mkV ?_
  refine w_st (i' := 8) (ls' := [.ref 1]) (st' := [.ref 1]) (E' := E2) (I' := I2) (J' := J2) (S' := S2) am_e61 rfl rfl rfl rfl ?_
  refine w_st (i' := 9) (ls' := [.ref 1]) (st' := [.ref 10]) (E' := E2) (I' := I2) (J' := J2) (S' := S2) am_e61 rfl rfl rfl rfl ?_
  refine w_st (i' := 10) (ls' := [.ref 1]) (st' := [.long (lN 0), .ref 10]) (E' := E2) (I' := I2) (J' := J2) (S' := S2) am_e61 rfl rfl rfl rfl ?_
  refine w_cV am_e61 rfl rfl (as := [.ref 10, .long (lN 0)]) (rest := []) rfl rfl (am_ww.mono h ?_)
  rintro _ E3 I3 J3 S3 ⟨rfl, h⟩
  refine q_mkV ?_
  refine w_st (i' := 12) (ls' := [.ref 1]) (st' := [.ref 1]) (E' := E3) (I' := I3) (J' := J3) (S' := S3) am_e61 rfl rfl rfl rfl ?_
  refine w_st (i' := 13) (ls' := [.ref 1]) (st' := [.int (-1), .ref 1]) (E' := E3) (I' := I3) (J' := J3) (S' := S3) am_e61 rfl rfl rfl rfl ?_
  refine w_st (i' := 14) (ls' := [.ref 1]) (st' := []) (E' := E3) (I' := (u_I I3 1 (upd (I3 1) 3 (-1)))) (J' := J3) (S' := S3) am_e61 rfl rfl rfl rfl ?_
  refine w_st (i' := 15) (ls' := [.ref 1]) (st' := [.ref 1]) (E' := E3) (I' := (u_I I3 1 (upd (I3 1) 3 (-1)))) (J' := J3) (S' := S3) am_e61 rfl rfl rfl rfl ?_
  refine w_st (i' := 16) (ls' := [.ref 1]) (st' := [.int (nI 0), .ref 1]) (E' := E3) (I' := (u_I I3 1 (upd (I3 1) 3 (-1)))) (J' := J3) (S' := S3) am_e61 rfl rfl rfl rfl ?_
  refine w_st (i' := 17) (ls' := [.ref 1]) (st' := []) (E' := E3) (I' := (u_I (u_I I3 1 (upd (I3 1) 3 (-1))) 1 (upd (upd (I3 1) 3 (-1)) 5 (nI 0)))) (J' := J3) (S' := S3) am_e61 rfl rfl rfl rfl ?_
  refine w_eI (uI_0 ..) ?_
  show am_ww 61 17 [.ref 1] [] E3 (u_I I3 1 (upd (upd (I3 1) 3 (-1)) 5 (nI 0))) J3 S3 _
  refine w_st (i' := 18) (ls' := [.ref 1]) (st' := [.ref 1]) (E' := E3) (I' := (u_I I3 1 (upd (upd (I3 1) 3 (-1)) 5 (nI 0)))) (J' := J3) (S' := S3) am_e61 rfl rfl rfl rfl ?_
  refine w_st (i' := 19) (ls' := [.ref 1]) (st' := [.int (nI 0), .ref 1]) (E' := E3) (I' := (u_I I3 1 (upd (upd (I3 1) 3 (-1)) 5 (nI 0)))) (J' := J3) (S' := S3) am_e61 rfl rfl rfl rfl ?_
  refine w_st (i' := 20) (ls' := [.ref 1]) (st' := []) (E' := E3) (I' := (u_I (u_I I3 1 (upd (upd (I3 1) 3 (-1)) 5 (nI 0))) 1 (upd (upd (upd (I3 1) 3 (-1)) 5 (nI 0)) 16 (nI 0)))) (J' := J3) (S' := S3) am_e61 rfl rfl rfl rfl ?_
  refine w_eI (uI_0 ..) ?_
  show am_ww 61 20 [.ref 1] [] E3 (u_I I3 1 (upd (upd (upd (I3 1) 3 (-1)) 5 (nI 0)) 16 (nI 0))) J3 S3 _
  refine w_st (i' := 21) (ls' := [.ref 1]) (st' := [.ref 1]) (E' := E3) (I' := (u_I I3 1 (upd (upd (upd (I3 1) 3 (-1)) 5 (nI 0)) 16 (nI 0)))) (J' := J3) (S' := S3) am_e61 rfl rfl rfl rfl ?_
  refine w_st (i' := 22) (ls' := [.ref 1]) (st' := [.int (nI 0), .ref 1]) (E' := E3) (I' := (u_I I3 1 (upd (upd (upd (I3 1) 3 (-1)) 5 (nI 0)) 16 (nI 0)))) (J' := J3) (S' := S3) am_e61 rfl rfl rfl rfl ?_
  refine w_st (i' := 23) (ls' := [.ref 1]) (st' := []) (E' := E3) (I' := (u_I (u_I I3 1 (upd (upd (upd (I3 1) 3 (-1)) 5 (nI 0)) 16 (nI 0))) 1 (upd (upd (upd (upd (I3 1) 3 (-1)) 5 (nI 0)) 16 (nI 0)) 10 (nI 0)))) (J' := J3) (S' := S3) am_e61 rfl rfl rfl rfl ?_
  refine w_eI (uI_0 ..) ?_
  show am_ww 61 23 [.ref 1] [] E3 (u_I I3 1 (upd (upd (upd (upd (I3 1) 3 (-1)) 5 (nI 0)) 16 (nI 0)) 10 (nI 0))) J3 S3 _
  exact w_end am_e61 rfl rfl rfl h
-- 63 findToken
theorem g63_0 {p1 : Int32} {E : am_Ev} {I : Nat → Nat → Int32} {J : Nat → Nat → Int64} {S : Nat → Nat → Option Nat} {Q : am_Qt}  (h : am_ww 63 4 [.ref 1, .int p1, am_U] [] E (u_I I 1 (upd (I 1) 4 ((I 1) 5))) J S Q) : am_ww 63 0 [.ref 1, .int p1, am_U] [] E I J S Q := by
  refine w_st (i' := 1) (ls' := [.ref 1, .int p1, am_U]) (st' := [.ref 1]) (E' := E) (I' := I) (J' := J) (S' := S) am_e63 rfl rfl rfl rfl ?_
  refine w_st (i' := 2) (ls' := [.ref 1, .int p1, am_U]) (st' := [.ref 1, .ref 1]) (E' := E) (I' := I) (J' := J) (S' := S) am_e63 rfl rfl rfl rfl ?_
  refine w_st (i' := 3) (ls' := [.ref 1, .int p1, am_U]) (st' := [.int ((I 1) 5), .ref 1]) (E' := E) (I' := I) (J' := J) (S' := S) am_e63 rfl rfl rfl rfl ?_
  refine w_st (i' := 4) (ls' := [.ref 1, .int p1, am_U]) (st' := []) (E' := E) (I' := (u_I I 1 (upd (I 1) 4 ((I 1) 5)))) (J' := J) (S' := S) am_e63 rfl rfl rfl rfl ?_
  exact h
theorem g63_4 {x1 : Int32} {d2 : Value} {E : am_Ev} {I : Nat → Nat → Int32} {J : Nat → Nat → Int64} {S : Nat → Nat → Option Nat} {Q : am_Qt} (hd2 : am_isL d2 = false) (h : (x1 ≤ ((I 1) 4) → (am_ww 63 29 [.ref 1, .int x1, d2] [] E I J S Q)) ∧ (¬ x1 ≤ ((I 1) 4) → (vp_in ((I 1) 4) 700 ∧ ((((I 2) (((I 1) 4).toNatClampNeg)) = (nI 32) → (am_ww 63 4 [.ref 1, .int x1, d2] [] E (u_I I 1 (upd (I 1) 4 (((I 1) 4) + (nI 1)))) J S Q)) ∧ (¬ ((I 2) (((I 1) 4).toNatClampNeg)) = (nI 32) → ((((I 2) (((I 1) 4).toNatClampNeg)) = (nI 10) → (am_ww 63 4 [.ref 1, .int x1, d2] [] E (u_I I 1 (upd (I 1) 4 (((I 1) 4) + (nI 1)))) J S Q)) ∧ (¬ ((I 2) (((I 1) 4).toNatClampNeg)) = (nI 10) → (am_ww 63 29 [.ref 1, .int x1, d2] [] E I J S Q)))))))) : am_ww 63 4 [.ref 1, .int x1, d2] [] E I J S Q := by
  refine w_st (i' := 5) (ls' := [.ref 1, .int x1, d2]) (st' := [.ref 1]) (E' := E) (I' := I) (J' := J) (S' := S) am_e63 rfl rfl rfl rfl ?_
  refine w_st (i' := 6) (ls' := [.ref 1, .int x1, d2]) (st' := [.int ((I 1) 4)]) (E' := E) (I' := I) (J' := J) (S' := S) am_e63 rfl rfl rfl rfl ?_
  refine w_st (i' := 7) (ls' := [.ref 1, .int x1, d2]) (st' := [.int x1, .int ((I 1) 4)]) (E' := E) (I' := I) (J' := J) (S' := S) am_e63 rfl rfl rfl rfl ?_
  refine w_if2 am_e63 rfl rfl (fun c => ?_) (fun c => ?_)
  · replace h := h.1 (of_decide_eq_true c)
    exact h
  · replace h := h.2 (of_decide_eq_false c)
    refine w_st (i' := 9) (ls' := [.ref 1, .int x1, d2]) (st' := [.ref 1]) (E' := E) (I' := I) (J' := J) (S' := S) am_e63 rfl rfl rfl rfl ?_
    refine w_st (i' := 10) (ls' := [.ref 1, .int x1, d2]) (st' := [.ref 2]) (E' := E) (I' := I) (J' := J) (S' := S) am_e63 rfl rfl rfl rfl ?_
    refine w_st (i' := 11) (ls' := [.ref 1, .int x1, d2]) (st' := [.ref 1, .ref 2]) (E' := E) (I' := I) (J' := J) (S' := S) am_e63 rfl rfl rfl rfl ?_
    refine w_st (i' := 12) (ls' := [.ref 1, .int x1, d2]) (st' := [.int ((I 1) 4), .ref 2]) (E' := E) (I' := I) (J' := J) (S' := S) am_e63 rfl rfl rfl rfl ?_
    have hf1 := h.1
    replace h := h.2
    refine w_ba (k := 2) (n := 700) (jn := ((I 1) 4).toNatClampNeg) am_e63 rfl rfl (by decide) hf1 rfl ?_
    refine w_st (i' := 14) (ls' := [.ref 1, .int x1, d2]) (st' := [.int (nI 32), .int ((I 2) (((I 1) 4).toNatClampNeg))]) (E' := E) (I' := I) (J' := J) (S' := S) am_e63 rfl rfl rfl rfl ?_
    refine w_if2 am_e63 rfl rfl (fun c => ?_) (fun c => ?_)
    · replace h := h.1 (of_decide_eq_true c)
      refine w_st (i' := 23) (ls' := [.ref 1, .int x1, d2]) (st' := [.ref 1]) (E' := E) (I' := I) (J' := J) (S' := S) am_e63 rfl rfl rfl rfl ?_
      refine w_st (i' := 24) (ls' := [.ref 1, .int x1, d2]) (st' := [.ref 1, .ref 1]) (E' := E) (I' := I) (J' := J) (S' := S) am_e63 rfl rfl rfl rfl ?_
      refine w_st (i' := 25) (ls' := [.ref 1, .int x1, d2]) (st' := [.int ((I 1) 4), .ref 1]) (E' := E) (I' := I) (J' := J) (S' := S) am_e63 rfl rfl rfl rfl ?_
      refine w_st (i' := 26) (ls' := [.ref 1, .int x1, d2]) (st' := [.int (nI 1), .int ((I 1) 4), .ref 1]) (E' := E) (I' := I) (J' := J) (S' := S) am_e63 rfl rfl rfl rfl ?_
      refine w_st (i' := 27) (ls' := [.ref 1, .int x1, d2]) (st' := [.int (((I 1) 4) + (nI 1)), .ref 1]) (E' := E) (I' := I) (J' := J) (S' := S) am_e63 rfl rfl rfl rfl ?_
      refine w_st (i' := 28) (ls' := [.ref 1, .int x1, d2]) (st' := []) (E' := E) (I' := (u_I I 1 (upd (I 1) 4 (((I 1) 4) + (nI 1))))) (J' := J) (S' := S) am_e63 rfl rfl rfl rfl ?_
      refine w_st (i' := 4) (ls' := [.ref 1, .int x1, d2]) (st' := []) (E' := E) (I' := (u_I I 1 (upd (I 1) 4 (((I 1) 4) + (nI 1))))) (J' := J) (S' := S) am_e63 rfl rfl rfl rfl ?_
      exact h
    · replace h := h.2 (of_decide_eq_false c)
      refine w_st (i' := 16) (ls' := [.ref 1, .int x1, d2]) (st' := [.ref 1]) (E' := E) (I' := I) (J' := J) (S' := S) am_e63 rfl rfl rfl rfl ?_
      refine w_st (i' := 17) (ls' := [.ref 1, .int x1, d2]) (st' := [.ref 2]) (E' := E) (I' := I) (J' := J) (S' := S) am_e63 rfl rfl rfl rfl ?_
      refine w_st (i' := 18) (ls' := [.ref 1, .int x1, d2]) (st' := [.ref 1, .ref 2]) (E' := E) (I' := I) (J' := J) (S' := S) am_e63 rfl rfl rfl rfl ?_
      refine w_st (i' := 19) (ls' := [.ref 1, .int x1, d2]) (st' := [.int ((I 1) 4), .ref 2]) (E' := E) (I' := I) (J' := J) (S' := S) am_e63 rfl rfl rfl rfl ?_
      refine w_ba (k := 2) (n := 700) (jn := ((I 1) 4).toNatClampNeg) am_e63 rfl rfl (by decide) hf1 rfl ?_
      refine w_st (i' := 21) (ls' := [.ref 1, .int x1, d2]) (st' := [.int (nI 10), .int ((I 2) (((I 1) 4).toNatClampNeg))]) (E' := E) (I' := I) (J' := J) (S' := S) am_e63 rfl rfl rfl rfl ?_
      refine w_if2 am_e63 rfl rfl (fun c => ?_) (fun c => ?_)
      · replace h := h.2 (of_decide_eq_true c)
        exact h
      · replace h := h.1 (Decidable.not_not.mp (of_decide_eq_false c))
        refine w_st (i' := 23) (ls' := [.ref 1, .int x1, d2]) (st' := [.ref 1]) (E' := E) (I' := I) (J' := J) (S' := S) am_e63 rfl rfl rfl rfl ?_
        refine w_st (i' := 24) (ls' := [.ref 1, .int x1, d2]) (st' := [.ref 1, .ref 1]) (E' := E) (I' := I) (J' := J) (S' := S) am_e63 rfl rfl rfl rfl ?_
        refine w_st (i' := 25) (ls' := [.ref 1, .int x1, d2]) (st' := [.int ((I 1) 4), .ref 1]) (E' := E) (I' := I) (J' := J) (S' := S) am_e63 rfl rfl rfl rfl ?_
        refine w_st (i' := 26) (ls' := [.ref 1, .int x1, d2]) (st' := [.int (nI 1), .int ((I 1) 4), .ref 1]) (E' := E) (I' := I) (J' := J) (S' := S) am_e63 rfl rfl rfl rfl ?_
        refine w_st (i' := 27) (ls' := [.ref 1, .int x1, d2]) (st' := [.int (((I 1) 4) + (nI 1)), .ref 1]) (E' := E) (I' := I) (J' := J) (S' := S) am_e63 rfl rfl rfl rfl ?_
        refine w_st (i' := 28) (ls' := [.ref 1, .int x1, d2]) (st' := []) (E' := E) (I' := (u_I I 1 (upd (I 1) 4 (((I 1) 4) + (nI 1))))) (J' := J) (S' := S) am_e63 rfl rfl rfl rfl ?_
        refine w_st (i' := 4) (ls' := [.ref 1, .int x1, d2]) (st' := []) (E' := E) (I' := (u_I I 1 (upd (I 1) 4 (((I 1) 4) + (nI 1))))) (J' := J) (S' := S) am_e63 rfl rfl rfl rfl ?_
        exact h
theorem g63_29 {x1 : Int32} {d2 : Value} {E : am_Ev} {I : Nat → Nat → Int32} {J : Nat → Nat → Int64} {S : Nat → Nat → Option Nat} {Q : am_Qt} (hd2 : am_isL d2 = false) (h : (((I 1) 4) < x1 → (vp_in ((I 1) 4) 700 ∧ (∀ w2 : Int32, w2 = ((I 2) (((I 1) 4).toNatClampNeg)) → ((w2 < (nI 97) → ((w2 < (nI 48) → (∀ w7 : Int32, w7 = (if w2 = (nI 59) then w2 else (if w2 = (nI 44) then w2 else (if w2 = (nI 58) then w2 else (if w2 = (nI 45) then w2 else nI 1)))) → (Q (.inl none) E (u_I I 1 (upd (upd (I 1) 5 (((I 1) 4) + (nI 1))) 6 w7)) J S))) ∧ (¬ w2 < (nI 48) → (((nI 57) < w2 → (∀ w12 : Int32, w12 = (if w2 = (nI 59) then w2 else (if w2 = (nI 44) then w2 else (if w2 = (nI 58) then w2 else (if w2 = (nI 45) then w2 else nI 1)))) → (Q (.inl none) E (u_I I 1 (upd (upd (I 1) 5 (((I 1) 4) + (nI 1))) 6 w12)) J S))) ∧ (¬ (nI 57) < w2 → (am_cl 76 [.ref 1, .int x1] E (u_I I 1 (upd (I 1) 5 (((I 1) 4) + (nI 1)))) J S (q_V fun E13 I13 J13 S13 => Q (.inl none) E13 I13 J13 S13))))))) ∧ (¬ w2 < (nI 97) → (((nI 122) < w2 → ((w2 < (nI 48) → (∀ w18 : Int32, w18 = (if w2 = (nI 59) then w2 else (if w2 = (nI 44) then w2 else (if w2 = (nI 58) then w2 else (if w2 = (nI 45) then w2 else nI 1)))) → (Q (.inl none) E (u_I I 1 (upd (upd (I 1) 5 (((I 1) 4) + (nI 1))) 6 w18)) J S))) ∧ (¬ w2 < (nI 48) → (((nI 57) < w2 → (∀ w23 : Int32, w23 = (if w2 = (nI 59) then w2 else (if w2 = (nI 44) then w2 else (if w2 = (nI 58) then w2 else (if w2 = (nI 45) then w2 else nI 1)))) → (Q (.inl none) E (u_I I 1 (upd (upd (I 1) 5 (((I 1) 4) + (nI 1))) 6 w23)) J S))) ∧ (¬ (nI 57) < w2 → (am_cl 76 [.ref 1, .int x1] E (u_I I 1 (upd (I 1) 5 (((I 1) 4) + (nI 1)))) J S (q_V fun E24 I24 J24 S24 => Q (.inl none) E24 I24 J24 S24))))))) ∧ (¬ (nI 122) < w2 → (am_cl 65 [.ref 1, .int x1] E (u_I I 1 (upd (I 1) 5 (((I 1) 4) + (nI 1)))) J S (q_V fun E25 I25 J25 S25 => Q (.inl none) E25 I25 J25 S25))))))))) ∧ (¬ ((I 1) 4) < x1 → (Q (.inl none) E (u_I I 1 (upd (upd (upd (I 1) 5 (((I 1) 4) + (nI 1))) 6 (nI 0)) 5 ((I 1) 4))) J S))) : am_ww 63 29 [.ref 1, .int x1, d2] [] E I J S Q := by
  refine w_st (i' := 30) (ls' := [.ref 1, .int x1, d2]) (st' := [.ref 1]) (E' := E) (I' := I) (J' := J) (S' := S) am_e63 rfl rfl rfl rfl ?_
  refine w_st (i' := 31) (ls' := [.ref 1, .int x1, d2]) (st' := [.ref 1, .ref 1]) (E' := E) (I' := I) (J' := J) (S' := S) am_e63 rfl rfl rfl rfl ?_
  refine w_st (i' := 32) (ls' := [.ref 1, .int x1, d2]) (st' := [.int ((I 1) 4), .ref 1]) (E' := E) (I' := I) (J' := J) (S' := S) am_e63 rfl rfl rfl rfl ?_
  refine w_st (i' := 33) (ls' := [.ref 1, .int x1, d2]) (st' := [.int (nI 1), .int ((I 1) 4), .ref 1]) (E' := E) (I' := I) (J' := J) (S' := S) am_e63 rfl rfl rfl rfl ?_
  refine w_st (i' := 34) (ls' := [.ref 1, .int x1, d2]) (st' := [.int (((I 1) 4) + (nI 1)), .ref 1]) (E' := E) (I' := I) (J' := J) (S' := S) am_e63 rfl rfl rfl rfl ?_
  refine w_st (i' := 35) (ls' := [.ref 1, .int x1, d2]) (st' := []) (E' := E) (I' := (u_I I 1 (upd (I 1) 5 (((I 1) 4) + (nI 1))))) (J' := J) (S' := S) am_e63 rfl rfl rfl rfl ?_
  refine w_st (i' := 36) (ls' := [.ref 1, .int x1, d2]) (st' := [.ref 1]) (E' := E) (I' := (u_I I 1 (upd (I 1) 5 (((I 1) 4) + (nI 1))))) (J' := J) (S' := S) am_e63 rfl rfl rfl rfl ?_
  refine w_st (i' := 37) (ls' := [.ref 1, .int x1, d2]) (st' := [.int ((I 1) 4)]) (E' := E) (I' := (u_I I 1 (upd (I 1) 5 (((I 1) 4) + (nI 1))))) (J' := J) (S' := S) am_e63 rfl rfl rfl rfl ?_
  refine w_st (i' := 38) (ls' := [.ref 1, .int x1, d2]) (st' := [.int x1, .int ((I 1) 4)]) (E' := E) (I' := (u_I I 1 (upd (I 1) 5 (((I 1) 4) + (nI 1))))) (J' := J) (S' := S) am_e63 rfl rfl rfl rfl ?_
  refine w_if2 am_e63 rfl rfl (fun c => ?_) (fun c => ?_)
  · replace h := h.1 (of_decide_eq_true c)
    refine w_st (i' := 48) (ls' := [.ref 1, .int x1, d2]) (st' := [.ref 1]) (E' := E) (I' := (u_I I 1 (upd (I 1) 5 (((I 1) 4) + (nI 1))))) (J' := J) (S' := S) am_e63 rfl rfl rfl rfl ?_
    refine w_st (i' := 49) (ls' := [.ref 1, .int x1, d2]) (st' := [.ref 2]) (E' := E) (I' := (u_I I 1 (upd (I 1) 5 (((I 1) 4) + (nI 1))))) (J' := J) (S' := S) am_e63 rfl rfl rfl rfl ?_
    refine w_st (i' := 50) (ls' := [.ref 1, .int x1, d2]) (st' := [.ref 1, .ref 2]) (E' := E) (I' := (u_I I 1 (upd (I 1) 5 (((I 1) 4) + (nI 1))))) (J' := J) (S' := S) am_e63 rfl rfl rfl rfl ?_
    refine w_st (i' := 51) (ls' := [.ref 1, .int x1, d2]) (st' := [.int ((I 1) 4), .ref 2]) (E' := E) (I' := (u_I I 1 (upd (I 1) 5 (((I 1) 4) + (nI 1))))) (J' := J) (S' := S) am_e63 rfl rfl rfl rfl ?_
    have hf1 := h.1
    replace h := h.2
    refine w_ba (k := 2) (n := 700) (jn := ((I 1) 4).toNatClampNeg) am_e63 rfl rfl (by decide) hf1 rfl ?_
    show am_ww 63 52 [.ref 1, .int x1, d2] [.int ((I 2) (((I 1) 4).toNatClampNeg))] E (u_I I 1 (upd (I 1) 5 (((I 1) 4) + (nI 1)))) J S _
    refine w_st (i' := 53) (ls' := [.ref 1, .int x1, .int ((I 2) (((I 1) 4).toNatClampNeg))]) (st' := []) (E' := E) (I' := (u_I I 1 (upd (I 1) 5 (((I 1) 4) + (nI 1))))) (J' := J) (S' := S) am_e63 rfl rfl rfl rfl ?_
    refine w_var (fun w2 => am_ww 63 53 [.ref 1, .int x1, .int w2] [] E (u_I I 1 (upd (I 1) 5 (((I 1) 4) + (nI 1)))) J S _) ((I 2) (((I 1) 4).toNatClampNeg)) (fun w2 hw2 => ?_)
    replace h := h w2 hw2
    refine w_st (i' := 54) (ls' := [.ref 1, .int x1, .int w2]) (st' := [.int w2]) (E' := E) (I' := (u_I I 1 (upd (I 1) 5 (((I 1) 4) + (nI 1))))) (J' := J) (S' := S) am_e63 rfl rfl rfl rfl ?_
    refine w_cI am_e63 rfl rfl (as := [.int w2]) (rest := []) rfl rfl ?_
    show am_ww 64 0 [.int w2] [] E (u_I I 1 (upd (I 1) 5 (((I 1) 4) + (nI 1)))) J S _
    refine w_st (i' := 1) (ls' := [.int w2]) (st' := [.int w2]) (E' := E) (I' := (u_I I 1 (upd (I 1) 5 (((I 1) 4) + (nI 1))))) (J' := J) (S' := S) am_e64 rfl rfl rfl rfl ?_
    refine w_st (i' := 2) (ls' := [.int w2]) (st' := [.int (nI 97), .int w2]) (E' := E) (I' := (u_I I 1 (upd (I 1) 5 (((I 1) 4) + (nI 1))))) (J' := J) (S' := S) am_e64 rfl rfl rfl rfl ?_
    refine w_if2 am_e64 rfl rfl (fun c => ?_) (fun c => ?_)
    · replace h := h.1 (of_decide_eq_true c)
      refine w_st (i' := 9) (ls' := [.int w2]) (st' := [.int (nI 0)]) (E' := E) (I' := (u_I I 1 (upd (I 1) 5 (((I 1) 4) + (nI 1))))) (J' := J) (S' := S) am_e64 rfl rfl rfl rfl ?_
      refine w_end (E' := E) (I' := (u_I I 1 (upd (I 1) 5 (((I 1) 4) + (nI 1))))) (J' := J) (S' := S) am_e64 rfl rfl rfl (q_mkI ?_)
      show am_ww 63 55 [.ref 1, .int x1, .int w2] [.int (nI 0)] E (u_I I 1 (upd (I 1) 5 (((I 1) 4) + (nI 1)))) J S _
      refine w_st (i' := 60) (ls' := [.ref 1, .int x1, .int w2]) (st' := []) (E' := E) (I' := (u_I I 1 (upd (I 1) 5 (((I 1) 4) + (nI 1))))) (J' := J) (S' := S) am_e63 rfl rfl rfl rfl ?_
      refine w_st (i' := 61) (ls' := [.ref 1, .int x1, .int w2]) (st' := [.int w2]) (E' := E) (I' := (u_I I 1 (upd (I 1) 5 (((I 1) 4) + (nI 1))))) (J' := J) (S' := S) am_e63 rfl rfl rfl rfl ?_
      refine w_cI am_e63 rfl rfl (as := [.int w2]) (rest := []) rfl rfl ?_
      show am_ww 75 0 [.int w2] [] E (u_I I 1 (upd (I 1) 5 (((I 1) 4) + (nI 1)))) J S _
      refine w_st (i' := 1) (ls' := [.int w2]) (st' := [.int w2]) (E' := E) (I' := (u_I I 1 (upd (I 1) 5 (((I 1) 4) + (nI 1))))) (J' := J) (S' := S) am_e75 rfl rfl rfl rfl ?_
      refine w_st (i' := 2) (ls' := [.int w2]) (st' := [.int (nI 48), .int w2]) (E' := E) (I' := (u_I I 1 (upd (I 1) 5 (((I 1) 4) + (nI 1))))) (J' := J) (S' := S) am_e75 rfl rfl rfl rfl ?_
      refine w_if2 am_e75 rfl rfl (fun c => ?_) (fun c => ?_)
      · replace h := h.1 (of_decide_eq_true c)
        refine w_st (i' := 9) (ls' := [.int w2]) (st' := [.int (nI 0)]) (E' := E) (I' := (u_I I 1 (upd (I 1) 5 (((I 1) 4) + (nI 1))))) (J' := J) (S' := S) am_e75 rfl rfl rfl rfl ?_
        refine w_end (E' := E) (I' := (u_I I 1 (upd (I 1) 5 (((I 1) 4) + (nI 1))))) (J' := J) (S' := S) am_e75 rfl rfl rfl (q_mkI ?_)
        show am_ww 63 62 [.ref 1, .int x1, .int w2] [.int (nI 0)] E (u_I I 1 (upd (I 1) 5 (((I 1) 4) + (nI 1)))) J S _
        refine w_st (i' := 67) (ls' := [.ref 1, .int x1, .int w2]) (st' := []) (E' := E) (I' := (u_I I 1 (upd (I 1) 5 (((I 1) 4) + (nI 1))))) (J' := J) (S' := S) am_e63 rfl rfl rfl rfl ?_
        refine w_st (i' := 68) (ls' := [.ref 1, .int x1, .int w2]) (st' := [.ref 1]) (E' := E) (I' := (u_I I 1 (upd (I 1) 5 (((I 1) 4) + (nI 1))))) (J' := J) (S' := S) am_e63 rfl rfl rfl rfl ?_
        refine w_st (i' := 69) (ls' := [.ref 1, .int x1, .int w2]) (st' := [.int w2, .ref 1]) (E' := E) (I' := (u_I I 1 (upd (I 1) 5 (((I 1) 4) + (nI 1))))) (J' := J) (S' := S) am_e63 rfl rfl rfl rfl ?_
        refine w_st (i' := 70) (ls' := [.ref 1, .int x1, .int w2]) (st' := [.int (nI 59), .int w2, .ref 1]) (E' := E) (I' := (u_I I 1 (upd (I 1) 5 (((I 1) 4) + (nI 1))))) (J' := J) (S' := S) am_e63 rfl rfl rfl rfl ?_
        refine w_mg (i := 83) (ls' := [.ref 1, .int x1, .int w2]) (st' := [.int (if w2 = (nI 59) then w2 else (if w2 = (nI 44) then w2 else (if w2 = (nI 58) then w2 else (if w2 = (nI 45) then w2 else nI 1)))), .ref 1]) (fun hm => ?_) ?_
        · clear h
          refine w_if2 am_e63 rfl rfl (fun c => ?_) (fun c => ?_)
          · have m3 : w2 = (nI 59) := (of_decide_eq_true c)
            refine w_st (i' := 81) (ls' := [.ref 1, .int x1, .int w2]) (st' := [.int w2, .ref 1]) (E' := E) (I' := (u_I I 1 (upd (I 1) 5 (((I 1) 4) + (nI 1))))) (J' := J) (S' := S) am_e63 rfl rfl rfl rfl ?_
            refine w_st (i' := 83) (ls' := [.ref 1, .int x1, .int w2]) (st' := [.int w2, .ref 1]) (E' := E) (I' := (u_I I 1 (upd (I 1) 5 (((I 1) 4) + (nI 1))))) (J' := J) (S' := S) am_e63 rfl rfl rfl rfl ?_
            first | exact hm | (simp only [if_pos m3] at hm; exact hm)
          · have m3 : ¬ (w2 = (nI 59)) := (of_decide_eq_false c)
            refine w_st (i' := 72) (ls' := [.ref 1, .int x1, .int w2]) (st' := [.int w2, .ref 1]) (E' := E) (I' := (u_I I 1 (upd (I 1) 5 (((I 1) 4) + (nI 1))))) (J' := J) (S' := S) am_e63 rfl rfl rfl rfl ?_
            refine w_st (i' := 73) (ls' := [.ref 1, .int x1, .int w2]) (st' := [.int (nI 44), .int w2, .ref 1]) (E' := E) (I' := (u_I I 1 (upd (I 1) 5 (((I 1) 4) + (nI 1))))) (J' := J) (S' := S) am_e63 rfl rfl rfl rfl ?_
            refine w_if2 am_e63 rfl rfl (fun c => ?_) (fun c => ?_)
            · have m4 : w2 = (nI 44) := (of_decide_eq_true c)
              refine w_st (i' := 81) (ls' := [.ref 1, .int x1, .int w2]) (st' := [.int w2, .ref 1]) (E' := E) (I' := (u_I I 1 (upd (I 1) 5 (((I 1) 4) + (nI 1))))) (J' := J) (S' := S) am_e63 rfl rfl rfl rfl ?_
              refine w_st (i' := 83) (ls' := [.ref 1, .int x1, .int w2]) (st' := [.int w2, .ref 1]) (E' := E) (I' := (u_I I 1 (upd (I 1) 5 (((I 1) 4) + (nI 1))))) (J' := J) (S' := S) am_e63 rfl rfl rfl rfl ?_
              first | exact hm | (simp only [if_neg m3, if_pos m4] at hm; exact hm)
            · have m4 : ¬ (w2 = (nI 44)) := (of_decide_eq_false c)
              refine w_st (i' := 75) (ls' := [.ref 1, .int x1, .int w2]) (st' := [.int w2, .ref 1]) (E' := E) (I' := (u_I I 1 (upd (I 1) 5 (((I 1) 4) + (nI 1))))) (J' := J) (S' := S) am_e63 rfl rfl rfl rfl ?_
              refine w_st (i' := 76) (ls' := [.ref 1, .int x1, .int w2]) (st' := [.int (nI 58), .int w2, .ref 1]) (E' := E) (I' := (u_I I 1 (upd (I 1) 5 (((I 1) 4) + (nI 1))))) (J' := J) (S' := S) am_e63 rfl rfl rfl rfl ?_
              refine w_if2 am_e63 rfl rfl (fun c => ?_) (fun c => ?_)
              · have m5 : w2 = (nI 58) := (of_decide_eq_true c)
                refine w_st (i' := 81) (ls' := [.ref 1, .int x1, .int w2]) (st' := [.int w2, .ref 1]) (E' := E) (I' := (u_I I 1 (upd (I 1) 5 (((I 1) 4) + (nI 1))))) (J' := J) (S' := S) am_e63 rfl rfl rfl rfl ?_
                refine w_st (i' := 83) (ls' := [.ref 1, .int x1, .int w2]) (st' := [.int w2, .ref 1]) (E' := E) (I' := (u_I I 1 (upd (I 1) 5 (((I 1) 4) + (nI 1))))) (J' := J) (S' := S) am_e63 rfl rfl rfl rfl ?_
                first | exact hm | (simp only [if_neg m3, if_neg m4, if_pos m5] at hm; exact hm)
              · have m5 : ¬ (w2 = (nI 58)) := (of_decide_eq_false c)
                refine w_st (i' := 78) (ls' := [.ref 1, .int x1, .int w2]) (st' := [.int w2, .ref 1]) (E' := E) (I' := (u_I I 1 (upd (I 1) 5 (((I 1) 4) + (nI 1))))) (J' := J) (S' := S) am_e63 rfl rfl rfl rfl ?_
                refine w_st (i' := 79) (ls' := [.ref 1, .int x1, .int w2]) (st' := [.int (nI 45), .int w2, .ref 1]) (E' := E) (I' := (u_I I 1 (upd (I 1) 5 (((I 1) 4) + (nI 1))))) (J' := J) (S' := S) am_e63 rfl rfl rfl rfl ?_
                refine w_if2 am_e63 rfl rfl (fun c => ?_) (fun c => ?_)
                · have m6 : ¬ (w2 = (nI 45)) := (of_decide_eq_true c)
                  refine w_st (i' := 83) (ls' := [.ref 1, .int x1, .int w2]) (st' := [.int (nI 1), .ref 1]) (E' := E) (I' := (u_I I 1 (upd (I 1) 5 (((I 1) 4) + (nI 1))))) (J' := J) (S' := S) am_e63 rfl rfl rfl rfl ?_
                  first | exact hm | (simp only [if_neg m3, if_neg m4, if_neg m5, if_neg m6] at hm; exact hm)
                · have m6 : w2 = (nI 45) := (Decidable.not_not.mp (of_decide_eq_false c))
                  refine w_st (i' := 81) (ls' := [.ref 1, .int x1, .int w2]) (st' := [.int w2, .ref 1]) (E' := E) (I' := (u_I I 1 (upd (I 1) 5 (((I 1) 4) + (nI 1))))) (J' := J) (S' := S) am_e63 rfl rfl rfl rfl ?_
                  refine w_st (i' := 83) (ls' := [.ref 1, .int x1, .int w2]) (st' := [.int w2, .ref 1]) (E' := E) (I' := (u_I I 1 (upd (I 1) 5 (((I 1) 4) + (nI 1))))) (J' := J) (S' := S) am_e63 rfl rfl rfl rfl ?_
                  first | exact hm | (simp only [if_neg m3, if_neg m4, if_neg m5, if_pos m6] at hm; exact hm)
        refine w_var (fun w7 => am_ww 63 83 [.ref 1, .int x1, .int w2] [.int w7, .ref 1] E (u_I I 1 (upd (I 1) 5 (((I 1) 4) + (nI 1)))) J S _) (if w2 = (nI 59) then w2 else (if w2 = (nI 44) then w2 else (if w2 = (nI 58) then w2 else (if w2 = (nI 45) then w2 else nI 1)))) (fun w7 hw7 => ?_)
        replace h := h w7 hw7
        refine w_st (i' := 84) (ls' := [.ref 1, .int x1, .int w2]) (st' := []) (E' := E) (I' := (u_I (u_I I 1 (upd (I 1) 5 (((I 1) 4) + (nI 1)))) 1 (upd (upd (I 1) 5 (((I 1) 4) + (nI 1))) 6 w7))) (J' := J) (S' := S) am_e63 rfl rfl rfl rfl ?_
        refine w_eI (uI_0 ..) ?_
        show am_ww 63 84 [.ref 1, .int x1, .int w2] [] E (u_I I 1 (upd (upd (I 1) 5 (((I 1) 4) + (nI 1))) 6 w7)) J S _
        exact w_end am_e63 rfl rfl rfl h
      · replace h := h.2 (of_decide_eq_false c)
        refine w_st (i' := 4) (ls' := [.int w2]) (st' := [.int w2]) (E' := E) (I' := (u_I I 1 (upd (I 1) 5 (((I 1) 4) + (nI 1))))) (J' := J) (S' := S) am_e75 rfl rfl rfl rfl ?_
        refine w_st (i' := 5) (ls' := [.int w2]) (st' := [.int (nI 57), .int w2]) (E' := E) (I' := (u_I I 1 (upd (I 1) 5 (((I 1) 4) + (nI 1))))) (J' := J) (S' := S) am_e75 rfl rfl rfl rfl ?_
        refine w_if2 am_e75 rfl rfl (fun c => ?_) (fun c => ?_)
        · replace h := h.1 (of_decide_eq_true c)
          refine w_st (i' := 9) (ls' := [.int w2]) (st' := [.int (nI 0)]) (E' := E) (I' := (u_I I 1 (upd (I 1) 5 (((I 1) 4) + (nI 1))))) (J' := J) (S' := S) am_e75 rfl rfl rfl rfl ?_
          refine w_end (E' := E) (I' := (u_I I 1 (upd (I 1) 5 (((I 1) 4) + (nI 1))))) (J' := J) (S' := S) am_e75 rfl rfl rfl (q_mkI ?_)
          show am_ww 63 62 [.ref 1, .int x1, .int w2] [.int (nI 0)] E (u_I I 1 (upd (I 1) 5 (((I 1) 4) + (nI 1)))) J S _
          refine w_st (i' := 67) (ls' := [.ref 1, .int x1, .int w2]) (st' := []) (E' := E) (I' := (u_I I 1 (upd (I 1) 5 (((I 1) 4) + (nI 1))))) (J' := J) (S' := S) am_e63 rfl rfl rfl rfl ?_
          refine w_st (i' := 68) (ls' := [.ref 1, .int x1, .int w2]) (st' := [.ref 1]) (E' := E) (I' := (u_I I 1 (upd (I 1) 5 (((I 1) 4) + (nI 1))))) (J' := J) (S' := S) am_e63 rfl rfl rfl rfl ?_
          refine w_st (i' := 69) (ls' := [.ref 1, .int x1, .int w2]) (st' := [.int w2, .ref 1]) (E' := E) (I' := (u_I I 1 (upd (I 1) 5 (((I 1) 4) + (nI 1))))) (J' := J) (S' := S) am_e63 rfl rfl rfl rfl ?_
          refine w_st (i' := 70) (ls' := [.ref 1, .int x1, .int w2]) (st' := [.int (nI 59), .int w2, .ref 1]) (E' := E) (I' := (u_I I 1 (upd (I 1) 5 (((I 1) 4) + (nI 1))))) (J' := J) (S' := S) am_e63 rfl rfl rfl rfl ?_
          refine w_mg (i := 83) (ls' := [.ref 1, .int x1, .int w2]) (st' := [.int (if w2 = (nI 59) then w2 else (if w2 = (nI 44) then w2 else (if w2 = (nI 58) then w2 else (if w2 = (nI 45) then w2 else nI 1)))), .ref 1]) (fun hm => ?_) ?_
          · clear h
            refine w_if2 am_e63 rfl rfl (fun c => ?_) (fun c => ?_)
            · have m8 : w2 = (nI 59) := (of_decide_eq_true c)
              refine w_st (i' := 81) (ls' := [.ref 1, .int x1, .int w2]) (st' := [.int w2, .ref 1]) (E' := E) (I' := (u_I I 1 (upd (I 1) 5 (((I 1) 4) + (nI 1))))) (J' := J) (S' := S) am_e63 rfl rfl rfl rfl ?_
              refine w_st (i' := 83) (ls' := [.ref 1, .int x1, .int w2]) (st' := [.int w2, .ref 1]) (E' := E) (I' := (u_I I 1 (upd (I 1) 5 (((I 1) 4) + (nI 1))))) (J' := J) (S' := S) am_e63 rfl rfl rfl rfl ?_
              first | exact hm | (simp only [if_pos m8] at hm; exact hm)
            · have m8 : ¬ (w2 = (nI 59)) := (of_decide_eq_false c)
              refine w_st (i' := 72) (ls' := [.ref 1, .int x1, .int w2]) (st' := [.int w2, .ref 1]) (E' := E) (I' := (u_I I 1 (upd (I 1) 5 (((I 1) 4) + (nI 1))))) (J' := J) (S' := S) am_e63 rfl rfl rfl rfl ?_
              refine w_st (i' := 73) (ls' := [.ref 1, .int x1, .int w2]) (st' := [.int (nI 44), .int w2, .ref 1]) (E' := E) (I' := (u_I I 1 (upd (I 1) 5 (((I 1) 4) + (nI 1))))) (J' := J) (S' := S) am_e63 rfl rfl rfl rfl ?_
              refine w_if2 am_e63 rfl rfl (fun c => ?_) (fun c => ?_)
              · have m9 : w2 = (nI 44) := (of_decide_eq_true c)
                refine w_st (i' := 81) (ls' := [.ref 1, .int x1, .int w2]) (st' := [.int w2, .ref 1]) (E' := E) (I' := (u_I I 1 (upd (I 1) 5 (((I 1) 4) + (nI 1))))) (J' := J) (S' := S) am_e63 rfl rfl rfl rfl ?_
                refine w_st (i' := 83) (ls' := [.ref 1, .int x1, .int w2]) (st' := [.int w2, .ref 1]) (E' := E) (I' := (u_I I 1 (upd (I 1) 5 (((I 1) 4) + (nI 1))))) (J' := J) (S' := S) am_e63 rfl rfl rfl rfl ?_
                first | exact hm | (simp only [if_neg m8, if_pos m9] at hm; exact hm)
              · have m9 : ¬ (w2 = (nI 44)) := (of_decide_eq_false c)
                refine w_st (i' := 75) (ls' := [.ref 1, .int x1, .int w2]) (st' := [.int w2, .ref 1]) (E' := E) (I' := (u_I I 1 (upd (I 1) 5 (((I 1) 4) + (nI 1))))) (J' := J) (S' := S) am_e63 rfl rfl rfl rfl ?_
                refine w_st (i' := 76) (ls' := [.ref 1, .int x1, .int w2]) (st' := [.int (nI 58), .int w2, .ref 1]) (E' := E) (I' := (u_I I 1 (upd (I 1) 5 (((I 1) 4) + (nI 1))))) (J' := J) (S' := S) am_e63 rfl rfl rfl rfl ?_
                refine w_if2 am_e63 rfl rfl (fun c => ?_) (fun c => ?_)
                · have m10 : w2 = (nI 58) := (of_decide_eq_true c)
                  refine w_st (i' := 81) (ls' := [.ref 1, .int x1, .int w2]) (st' := [.int w2, .ref 1]) (E' := E) (I' := (u_I I 1 (upd (I 1) 5 (((I 1) 4) + (nI 1))))) (J' := J) (S' := S) am_e63 rfl rfl rfl rfl ?_
                  refine w_st (i' := 83) (ls' := [.ref 1, .int x1, .int w2]) (st' := [.int w2, .ref 1]) (E' := E) (I' := (u_I I 1 (upd (I 1) 5 (((I 1) 4) + (nI 1))))) (J' := J) (S' := S) am_e63 rfl rfl rfl rfl ?_
                  first | exact hm | (simp only [if_neg m8, if_neg m9, if_pos m10] at hm; exact hm)
                · have m10 : ¬ (w2 = (nI 58)) := (of_decide_eq_false c)
                  refine w_st (i' := 78) (ls' := [.ref 1, .int x1, .int w2]) (st' := [.int w2, .ref 1]) (E' := E) (I' := (u_I I 1 (upd (I 1) 5 (((I 1) 4) + (nI 1))))) (J' := J) (S' := S) am_e63 rfl rfl rfl rfl ?_
                  refine w_st (i' := 79) (ls' := [.ref 1, .int x1, .int w2]) (st' := [.int (nI 45), .int w2, .ref 1]) (E' := E) (I' := (u_I I 1 (upd (I 1) 5 (((I 1) 4) + (nI 1))))) (J' := J) (S' := S) am_e63 rfl rfl rfl rfl ?_
                  refine w_if2 am_e63 rfl rfl (fun c => ?_) (fun c => ?_)
                  · have m11 : ¬ (w2 = (nI 45)) := (of_decide_eq_true c)
                    refine w_st (i' := 83) (ls' := [.ref 1, .int x1, .int w2]) (st' := [.int (nI 1), .ref 1]) (E' := E) (I' := (u_I I 1 (upd (I 1) 5 (((I 1) 4) + (nI 1))))) (J' := J) (S' := S) am_e63 rfl rfl rfl rfl ?_
                    first | exact hm | (simp only [if_neg m8, if_neg m9, if_neg m10, if_neg m11] at hm; exact hm)
                  · have m11 : w2 = (nI 45) := (Decidable.not_not.mp (of_decide_eq_false c))
                    refine w_st (i' := 81) (ls' := [.ref 1, .int x1, .int w2]) (st' := [.int w2, .ref 1]) (E' := E) (I' := (u_I I 1 (upd (I 1) 5 (((I 1) 4) + (nI 1))))) (J' := J) (S' := S) am_e63 rfl rfl rfl rfl ?_
                    refine w_st (i' := 83) (ls' := [.ref 1, .int x1, .int w2]) (st' := [.int w2, .ref 1]) (E' := E) (I' := (u_I I 1 (upd (I 1) 5 (((I 1) 4) + (nI 1))))) (J' := J) (S' := S) am_e63 rfl rfl rfl rfl ?_
                    first | exact hm | (simp only [if_neg m8, if_neg m9, if_neg m10, if_pos m11] at hm; exact hm)
          refine w_var (fun w12 => am_ww 63 83 [.ref 1, .int x1, .int w2] [.int w12, .ref 1] E (u_I I 1 (upd (I 1) 5 (((I 1) 4) + (nI 1)))) J S _) (if w2 = (nI 59) then w2 else (if w2 = (nI 44) then w2 else (if w2 = (nI 58) then w2 else (if w2 = (nI 45) then w2 else nI 1)))) (fun w12 hw12 => ?_)
          replace h := h w12 hw12
          refine w_st (i' := 84) (ls' := [.ref 1, .int x1, .int w2]) (st' := []) (E' := E) (I' := (u_I (u_I I 1 (upd (I 1) 5 (((I 1) 4) + (nI 1)))) 1 (upd (upd (I 1) 5 (((I 1) 4) + (nI 1))) 6 w12))) (J' := J) (S' := S) am_e63 rfl rfl rfl rfl ?_
          refine w_eI (uI_0 ..) ?_
          show am_ww 63 84 [.ref 1, .int x1, .int w2] [] E (u_I I 1 (upd (upd (I 1) 5 (((I 1) 4) + (nI 1))) 6 w12)) J S _
          exact w_end am_e63 rfl rfl rfl h
        · replace h := h.2 (of_decide_eq_false c)
          refine w_st (i' := 7) (ls' := [.int w2]) (st' := [.int (nI 1)]) (E' := E) (I' := (u_I I 1 (upd (I 1) 5 (((I 1) 4) + (nI 1))))) (J' := J) (S' := S) am_e75 rfl rfl rfl rfl ?_
          refine w_st (i' := 9) (ls' := [.int w2]) (st' := [.int (nI 1)]) (E' := E) (I' := (u_I I 1 (upd (I 1) 5 (((I 1) 4) + (nI 1))))) (J' := J) (S' := S) am_e75 rfl rfl rfl rfl ?_
          refine w_end (E' := E) (I' := (u_I I 1 (upd (I 1) 5 (((I 1) 4) + (nI 1))))) (J' := J) (S' := S) am_e75 rfl rfl rfl (q_mkI ?_)
          show am_ww 63 62 [.ref 1, .int x1, .int w2] [.int (nI 1)] E (u_I I 1 (upd (I 1) 5 (((I 1) 4) + (nI 1)))) J S _
          refine w_st (i' := 63) (ls' := [.ref 1, .int x1, .int w2]) (st' := []) (E' := E) (I' := (u_I I 1 (upd (I 1) 5 (((I 1) 4) + (nI 1))))) (J' := J) (S' := S) am_e63 rfl rfl rfl rfl ?_
          refine w_st (i' := 64) (ls' := [.ref 1, .int x1, .int w2]) (st' := [.ref 1]) (E' := E) (I' := (u_I I 1 (upd (I 1) 5 (((I 1) 4) + (nI 1))))) (J' := J) (S' := S) am_e63 rfl rfl rfl rfl ?_
          refine w_st (i' := 65) (ls' := [.ref 1, .int x1, .int w2]) (st' := [.int x1, .ref 1]) (E' := E) (I' := (u_I I 1 (upd (I 1) 5 (((I 1) 4) + (nI 1))))) (J' := J) (S' := S) am_e63 rfl rfl rfl rfl ?_
          refine w_cV am_e63 rfl rfl (as := [.ref 1, .int x1]) (rest := []) rfl rfl (am_ww.mono h ?_)
          rintro _ E13 I13 J13 S13 ⟨rfl, h⟩
          refine q_mkV ?_
          refine w_st (i' := 84) (ls' := [.ref 1, .int x1, .int w2]) (st' := []) (E' := E13) (I' := I13) (J' := J13) (S' := S13) am_e63 rfl rfl rfl rfl ?_
          exact w_end am_e63 rfl rfl rfl h
    · replace h := h.2 (of_decide_eq_false c)
      refine w_st (i' := 4) (ls' := [.int w2]) (st' := [.int w2]) (E' := E) (I' := (u_I I 1 (upd (I 1) 5 (((I 1) 4) + (nI 1))))) (J' := J) (S' := S) am_e64 rfl rfl rfl rfl ?_
      refine w_st (i' := 5) (ls' := [.int w2]) (st' := [.int (nI 122), .int w2]) (E' := E) (I' := (u_I I 1 (upd (I 1) 5 (((I 1) 4) + (nI 1))))) (J' := J) (S' := S) am_e64 rfl rfl rfl rfl ?_
      refine w_if2 am_e64 rfl rfl (fun c => ?_) (fun c => ?_)
      · replace h := h.1 (of_decide_eq_true c)
        refine w_st (i' := 9) (ls' := [.int w2]) (st' := [.int (nI 0)]) (E' := E) (I' := (u_I I 1 (upd (I 1) 5 (((I 1) 4) + (nI 1))))) (J' := J) (S' := S) am_e64 rfl rfl rfl rfl ?_
        refine w_end (E' := E) (I' := (u_I I 1 (upd (I 1) 5 (((I 1) 4) + (nI 1))))) (J' := J) (S' := S) am_e64 rfl rfl rfl (q_mkI ?_)
        show am_ww 63 55 [.ref 1, .int x1, .int w2] [.int (nI 0)] E (u_I I 1 (upd (I 1) 5 (((I 1) 4) + (nI 1)))) J S _
        refine w_st (i' := 60) (ls' := [.ref 1, .int x1, .int w2]) (st' := []) (E' := E) (I' := (u_I I 1 (upd (I 1) 5 (((I 1) 4) + (nI 1))))) (J' := J) (S' := S) am_e63 rfl rfl rfl rfl ?_
        refine w_st (i' := 61) (ls' := [.ref 1, .int x1, .int w2]) (st' := [.int w2]) (E' := E) (I' := (u_I I 1 (upd (I 1) 5 (((I 1) 4) + (nI 1))))) (J' := J) (S' := S) am_e63 rfl rfl rfl rfl ?_
        refine w_cI am_e63 rfl rfl (as := [.int w2]) (rest := []) rfl rfl ?_
        show am_ww 75 0 [.int w2] [] E (u_I I 1 (upd (I 1) 5 (((I 1) 4) + (nI 1)))) J S _
        refine w_st (i' := 1) (ls' := [.int w2]) (st' := [.int w2]) (E' := E) (I' := (u_I I 1 (upd (I 1) 5 (((I 1) 4) + (nI 1))))) (J' := J) (S' := S) am_e75 rfl rfl rfl rfl ?_
        refine w_st (i' := 2) (ls' := [.int w2]) (st' := [.int (nI 48), .int w2]) (E' := E) (I' := (u_I I 1 (upd (I 1) 5 (((I 1) 4) + (nI 1))))) (J' := J) (S' := S) am_e75 rfl rfl rfl rfl ?_
        refine w_if2 am_e75 rfl rfl (fun c => ?_) (fun c => ?_)
        · replace h := h.1 (of_decide_eq_true c)
          refine w_st (i' := 9) (ls' := [.int w2]) (st' := [.int (nI 0)]) (E' := E) (I' := (u_I I 1 (upd (I 1) 5 (((I 1) 4) + (nI 1))))) (J' := J) (S' := S) am_e75 rfl rfl rfl rfl ?_
          refine w_end (E' := E) (I' := (u_I I 1 (upd (I 1) 5 (((I 1) 4) + (nI 1))))) (J' := J) (S' := S) am_e75 rfl rfl rfl (q_mkI ?_)
          show am_ww 63 62 [.ref 1, .int x1, .int w2] [.int (nI 0)] E (u_I I 1 (upd (I 1) 5 (((I 1) 4) + (nI 1)))) J S _
          refine w_st (i' := 67) (ls' := [.ref 1, .int x1, .int w2]) (st' := []) (E' := E) (I' := (u_I I 1 (upd (I 1) 5 (((I 1) 4) + (nI 1))))) (J' := J) (S' := S) am_e63 rfl rfl rfl rfl ?_
          refine w_st (i' := 68) (ls' := [.ref 1, .int x1, .int w2]) (st' := [.ref 1]) (E' := E) (I' := (u_I I 1 (upd (I 1) 5 (((I 1) 4) + (nI 1))))) (J' := J) (S' := S) am_e63 rfl rfl rfl rfl ?_
          refine w_st (i' := 69) (ls' := [.ref 1, .int x1, .int w2]) (st' := [.int w2, .ref 1]) (E' := E) (I' := (u_I I 1 (upd (I 1) 5 (((I 1) 4) + (nI 1))))) (J' := J) (S' := S) am_e63 rfl rfl rfl rfl ?_
          refine w_st (i' := 70) (ls' := [.ref 1, .int x1, .int w2]) (st' := [.int (nI 59), .int w2, .ref 1]) (E' := E) (I' := (u_I I 1 (upd (I 1) 5 (((I 1) 4) + (nI 1))))) (J' := J) (S' := S) am_e63 rfl rfl rfl rfl ?_
          refine w_mg (i := 83) (ls' := [.ref 1, .int x1, .int w2]) (st' := [.int (if w2 = (nI 59) then w2 else (if w2 = (nI 44) then w2 else (if w2 = (nI 58) then w2 else (if w2 = (nI 45) then w2 else nI 1)))), .ref 1]) (fun hm => ?_) ?_
          · clear h
            refine w_if2 am_e63 rfl rfl (fun c => ?_) (fun c => ?_)
            · have m14 : w2 = (nI 59) := (of_decide_eq_true c)
              refine w_st (i' := 81) (ls' := [.ref 1, .int x1, .int w2]) (st' := [.int w2, .ref 1]) (E' := E) (I' := (u_I I 1 (upd (I 1) 5 (((I 1) 4) + (nI 1))))) (J' := J) (S' := S) am_e63 rfl rfl rfl rfl ?_
              refine w_st (i' := 83) (ls' := [.ref 1, .int x1, .int w2]) (st' := [.int w2, .ref 1]) (E' := E) (I' := (u_I I 1 (upd (I 1) 5 (((I 1) 4) + (nI 1))))) (J' := J) (S' := S) am_e63 rfl rfl rfl rfl ?_
              first | exact hm | (simp only [if_pos m14] at hm; exact hm)
            · have m14 : ¬ (w2 = (nI 59)) := (of_decide_eq_false c)
              refine w_st (i' := 72) (ls' := [.ref 1, .int x1, .int w2]) (st' := [.int w2, .ref 1]) (E' := E) (I' := (u_I I 1 (upd (I 1) 5 (((I 1) 4) + (nI 1))))) (J' := J) (S' := S) am_e63 rfl rfl rfl rfl ?_
              refine w_st (i' := 73) (ls' := [.ref 1, .int x1, .int w2]) (st' := [.int (nI 44), .int w2, .ref 1]) (E' := E) (I' := (u_I I 1 (upd (I 1) 5 (((I 1) 4) + (nI 1))))) (J' := J) (S' := S) am_e63 rfl rfl rfl rfl ?_
              refine w_if2 am_e63 rfl rfl (fun c => ?_) (fun c => ?_)
              · have m15 : w2 = (nI 44) := (of_decide_eq_true c)
                refine w_st (i' := 81) (ls' := [.ref 1, .int x1, .int w2]) (st' := [.int w2, .ref 1]) (E' := E) (I' := (u_I I 1 (upd (I 1) 5 (((I 1) 4) + (nI 1))))) (J' := J) (S' := S) am_e63 rfl rfl rfl rfl ?_
                refine w_st (i' := 83) (ls' := [.ref 1, .int x1, .int w2]) (st' := [.int w2, .ref 1]) (E' := E) (I' := (u_I I 1 (upd (I 1) 5 (((I 1) 4) + (nI 1))))) (J' := J) (S' := S) am_e63 rfl rfl rfl rfl ?_
                first | exact hm | (simp only [if_neg m14, if_pos m15] at hm; exact hm)
              · have m15 : ¬ (w2 = (nI 44)) := (of_decide_eq_false c)
                refine w_st (i' := 75) (ls' := [.ref 1, .int x1, .int w2]) (st' := [.int w2, .ref 1]) (E' := E) (I' := (u_I I 1 (upd (I 1) 5 (((I 1) 4) + (nI 1))))) (J' := J) (S' := S) am_e63 rfl rfl rfl rfl ?_
                refine w_st (i' := 76) (ls' := [.ref 1, .int x1, .int w2]) (st' := [.int (nI 58), .int w2, .ref 1]) (E' := E) (I' := (u_I I 1 (upd (I 1) 5 (((I 1) 4) + (nI 1))))) (J' := J) (S' := S) am_e63 rfl rfl rfl rfl ?_
                refine w_if2 am_e63 rfl rfl (fun c => ?_) (fun c => ?_)
                · have m16 : w2 = (nI 58) := (of_decide_eq_true c)
                  refine w_st (i' := 81) (ls' := [.ref 1, .int x1, .int w2]) (st' := [.int w2, .ref 1]) (E' := E) (I' := (u_I I 1 (upd (I 1) 5 (((I 1) 4) + (nI 1))))) (J' := J) (S' := S) am_e63 rfl rfl rfl rfl ?_
                  refine w_st (i' := 83) (ls' := [.ref 1, .int x1, .int w2]) (st' := [.int w2, .ref 1]) (E' := E) (I' := (u_I I 1 (upd (I 1) 5 (((I 1) 4) + (nI 1))))) (J' := J) (S' := S) am_e63 rfl rfl rfl rfl ?_
                  first | exact hm | (simp only [if_neg m14, if_neg m15, if_pos m16] at hm; exact hm)
                · have m16 : ¬ (w2 = (nI 58)) := (of_decide_eq_false c)
                  refine w_st (i' := 78) (ls' := [.ref 1, .int x1, .int w2]) (st' := [.int w2, .ref 1]) (E' := E) (I' := (u_I I 1 (upd (I 1) 5 (((I 1) 4) + (nI 1))))) (J' := J) (S' := S) am_e63 rfl rfl rfl rfl ?_
                  refine w_st (i' := 79) (ls' := [.ref 1, .int x1, .int w2]) (st' := [.int (nI 45), .int w2, .ref 1]) (E' := E) (I' := (u_I I 1 (upd (I 1) 5 (((I 1) 4) + (nI 1))))) (J' := J) (S' := S) am_e63 rfl rfl rfl rfl ?_
                  refine w_if2 am_e63 rfl rfl (fun c => ?_) (fun c => ?_)
                  · have m17 : ¬ (w2 = (nI 45)) := (of_decide_eq_true c)
                    refine w_st (i' := 83) (ls' := [.ref 1, .int x1, .int w2]) (st' := [.int (nI 1), .ref 1]) (E' := E) (I' := (u_I I 1 (upd (I 1) 5 (((I 1) 4) + (nI 1))))) (J' := J) (S' := S) am_e63 rfl rfl rfl rfl ?_
                    first | exact hm | (simp only [if_neg m14, if_neg m15, if_neg m16, if_neg m17] at hm; exact hm)
                  · have m17 : w2 = (nI 45) := (Decidable.not_not.mp (of_decide_eq_false c))
                    refine w_st (i' := 81) (ls' := [.ref 1, .int x1, .int w2]) (st' := [.int w2, .ref 1]) (E' := E) (I' := (u_I I 1 (upd (I 1) 5 (((I 1) 4) + (nI 1))))) (J' := J) (S' := S) am_e63 rfl rfl rfl rfl ?_
                    refine w_st (i' := 83) (ls' := [.ref 1, .int x1, .int w2]) (st' := [.int w2, .ref 1]) (E' := E) (I' := (u_I I 1 (upd (I 1) 5 (((I 1) 4) + (nI 1))))) (J' := J) (S' := S) am_e63 rfl rfl rfl rfl ?_
                    first | exact hm | (simp only [if_neg m14, if_neg m15, if_neg m16, if_pos m17] at hm; exact hm)
          refine w_var (fun w18 => am_ww 63 83 [.ref 1, .int x1, .int w2] [.int w18, .ref 1] E (u_I I 1 (upd (I 1) 5 (((I 1) 4) + (nI 1)))) J S _) (if w2 = (nI 59) then w2 else (if w2 = (nI 44) then w2 else (if w2 = (nI 58) then w2 else (if w2 = (nI 45) then w2 else nI 1)))) (fun w18 hw18 => ?_)
          replace h := h w18 hw18
          refine w_st (i' := 84) (ls' := [.ref 1, .int x1, .int w2]) (st' := []) (E' := E) (I' := (u_I (u_I I 1 (upd (I 1) 5 (((I 1) 4) + (nI 1)))) 1 (upd (upd (I 1) 5 (((I 1) 4) + (nI 1))) 6 w18))) (J' := J) (S' := S) am_e63 rfl rfl rfl rfl ?_
          refine w_eI (uI_0 ..) ?_
          show am_ww 63 84 [.ref 1, .int x1, .int w2] [] E (u_I I 1 (upd (upd (I 1) 5 (((I 1) 4) + (nI 1))) 6 w18)) J S _
          exact w_end am_e63 rfl rfl rfl h
        · replace h := h.2 (of_decide_eq_false c)
          refine w_st (i' := 4) (ls' := [.int w2]) (st' := [.int w2]) (E' := E) (I' := (u_I I 1 (upd (I 1) 5 (((I 1) 4) + (nI 1))))) (J' := J) (S' := S) am_e75 rfl rfl rfl rfl ?_
          refine w_st (i' := 5) (ls' := [.int w2]) (st' := [.int (nI 57), .int w2]) (E' := E) (I' := (u_I I 1 (upd (I 1) 5 (((I 1) 4) + (nI 1))))) (J' := J) (S' := S) am_e75 rfl rfl rfl rfl ?_
          refine w_if2 am_e75 rfl rfl (fun c => ?_) (fun c => ?_)
          · replace h := h.1 (of_decide_eq_true c)
            refine w_st (i' := 9) (ls' := [.int w2]) (st' := [.int (nI 0)]) (E' := E) (I' := (u_I I 1 (upd (I 1) 5 (((I 1) 4) + (nI 1))))) (J' := J) (S' := S) am_e75 rfl rfl rfl rfl ?_
            refine w_end (E' := E) (I' := (u_I I 1 (upd (I 1) 5 (((I 1) 4) + (nI 1))))) (J' := J) (S' := S) am_e75 rfl rfl rfl (q_mkI ?_)
            show am_ww 63 62 [.ref 1, .int x1, .int w2] [.int (nI 0)] E (u_I I 1 (upd (I 1) 5 (((I 1) 4) + (nI 1)))) J S _
            refine w_st (i' := 67) (ls' := [.ref 1, .int x1, .int w2]) (st' := []) (E' := E) (I' := (u_I I 1 (upd (I 1) 5 (((I 1) 4) + (nI 1))))) (J' := J) (S' := S) am_e63 rfl rfl rfl rfl ?_
            refine w_st (i' := 68) (ls' := [.ref 1, .int x1, .int w2]) (st' := [.ref 1]) (E' := E) (I' := (u_I I 1 (upd (I 1) 5 (((I 1) 4) + (nI 1))))) (J' := J) (S' := S) am_e63 rfl rfl rfl rfl ?_
            refine w_st (i' := 69) (ls' := [.ref 1, .int x1, .int w2]) (st' := [.int w2, .ref 1]) (E' := E) (I' := (u_I I 1 (upd (I 1) 5 (((I 1) 4) + (nI 1))))) (J' := J) (S' := S) am_e63 rfl rfl rfl rfl ?_
            refine w_st (i' := 70) (ls' := [.ref 1, .int x1, .int w2]) (st' := [.int (nI 59), .int w2, .ref 1]) (E' := E) (I' := (u_I I 1 (upd (I 1) 5 (((I 1) 4) + (nI 1))))) (J' := J) (S' := S) am_e63 rfl rfl rfl rfl ?_
            refine w_mg (i := 83) (ls' := [.ref 1, .int x1, .int w2]) (st' := [.int (if w2 = (nI 59) then w2 else (if w2 = (nI 44) then w2 else (if w2 = (nI 58) then w2 else (if w2 = (nI 45) then w2 else nI 1)))), .ref 1]) (fun hm => ?_) ?_
            · clear h
              refine w_if2 am_e63 rfl rfl (fun c => ?_) (fun c => ?_)
              · have m19 : w2 = (nI 59) := (of_decide_eq_true c)
                refine w_st (i' := 81) (ls' := [.ref 1, .int x1, .int w2]) (st' := [.int w2, .ref 1]) (E' := E) (I' := (u_I I 1 (upd (I 1) 5 (((I 1) 4) + (nI 1))))) (J' := J) (S' := S) am_e63 rfl rfl rfl rfl ?_
                refine w_st (i' := 83) (ls' := [.ref 1, .int x1, .int w2]) (st' := [.int w2, .ref 1]) (E' := E) (I' := (u_I I 1 (upd (I 1) 5 (((I 1) 4) + (nI 1))))) (J' := J) (S' := S) am_e63 rfl rfl rfl rfl ?_
                first | exact hm | (simp only [if_pos m19] at hm; exact hm)
              · have m19 : ¬ (w2 = (nI 59)) := (of_decide_eq_false c)
                refine w_st (i' := 72) (ls' := [.ref 1, .int x1, .int w2]) (st' := [.int w2, .ref 1]) (E' := E) (I' := (u_I I 1 (upd (I 1) 5 (((I 1) 4) + (nI 1))))) (J' := J) (S' := S) am_e63 rfl rfl rfl rfl ?_
                refine w_st (i' := 73) (ls' := [.ref 1, .int x1, .int w2]) (st' := [.int (nI 44), .int w2, .ref 1]) (E' := E) (I' := (u_I I 1 (upd (I 1) 5 (((I 1) 4) + (nI 1))))) (J' := J) (S' := S) am_e63 rfl rfl rfl rfl ?_
                refine w_if2 am_e63 rfl rfl (fun c => ?_) (fun c => ?_)
                · have m20 : w2 = (nI 44) := (of_decide_eq_true c)
                  refine w_st (i' := 81) (ls' := [.ref 1, .int x1, .int w2]) (st' := [.int w2, .ref 1]) (E' := E) (I' := (u_I I 1 (upd (I 1) 5 (((I 1) 4) + (nI 1))))) (J' := J) (S' := S) am_e63 rfl rfl rfl rfl ?_
                  refine w_st (i' := 83) (ls' := [.ref 1, .int x1, .int w2]) (st' := [.int w2, .ref 1]) (E' := E) (I' := (u_I I 1 (upd (I 1) 5 (((I 1) 4) + (nI 1))))) (J' := J) (S' := S) am_e63 rfl rfl rfl rfl ?_
                  first | exact hm | (simp only [if_neg m19, if_pos m20] at hm; exact hm)
                · have m20 : ¬ (w2 = (nI 44)) := (of_decide_eq_false c)
                  refine w_st (i' := 75) (ls' := [.ref 1, .int x1, .int w2]) (st' := [.int w2, .ref 1]) (E' := E) (I' := (u_I I 1 (upd (I 1) 5 (((I 1) 4) + (nI 1))))) (J' := J) (S' := S) am_e63 rfl rfl rfl rfl ?_
                  refine w_st (i' := 76) (ls' := [.ref 1, .int x1, .int w2]) (st' := [.int (nI 58), .int w2, .ref 1]) (E' := E) (I' := (u_I I 1 (upd (I 1) 5 (((I 1) 4) + (nI 1))))) (J' := J) (S' := S) am_e63 rfl rfl rfl rfl ?_
                  refine w_if2 am_e63 rfl rfl (fun c => ?_) (fun c => ?_)
                  · have m21 : w2 = (nI 58) := (of_decide_eq_true c)
                    refine w_st (i' := 81) (ls' := [.ref 1, .int x1, .int w2]) (st' := [.int w2, .ref 1]) (E' := E) (I' := (u_I I 1 (upd (I 1) 5 (((I 1) 4) + (nI 1))))) (J' := J) (S' := S) am_e63 rfl rfl rfl rfl ?_
                    refine w_st (i' := 83) (ls' := [.ref 1, .int x1, .int w2]) (st' := [.int w2, .ref 1]) (E' := E) (I' := (u_I I 1 (upd (I 1) 5 (((I 1) 4) + (nI 1))))) (J' := J) (S' := S) am_e63 rfl rfl rfl rfl ?_
                    first | exact hm | (simp only [if_neg m19, if_neg m20, if_pos m21] at hm; exact hm)
                  · have m21 : ¬ (w2 = (nI 58)) := (of_decide_eq_false c)
                    refine w_st (i' := 78) (ls' := [.ref 1, .int x1, .int w2]) (st' := [.int w2, .ref 1]) (E' := E) (I' := (u_I I 1 (upd (I 1) 5 (((I 1) 4) + (nI 1))))) (J' := J) (S' := S) am_e63 rfl rfl rfl rfl ?_
                    refine w_st (i' := 79) (ls' := [.ref 1, .int x1, .int w2]) (st' := [.int (nI 45), .int w2, .ref 1]) (E' := E) (I' := (u_I I 1 (upd (I 1) 5 (((I 1) 4) + (nI 1))))) (J' := J) (S' := S) am_e63 rfl rfl rfl rfl ?_
                    refine w_if2 am_e63 rfl rfl (fun c => ?_) (fun c => ?_)
                    · have m22 : ¬ (w2 = (nI 45)) := (of_decide_eq_true c)
                      refine w_st (i' := 83) (ls' := [.ref 1, .int x1, .int w2]) (st' := [.int (nI 1), .ref 1]) (E' := E) (I' := (u_I I 1 (upd (I 1) 5 (((I 1) 4) + (nI 1))))) (J' := J) (S' := S) am_e63 rfl rfl rfl rfl ?_
                      first | exact hm | (simp only [if_neg m19, if_neg m20, if_neg m21, if_neg m22] at hm; exact hm)
                    · have m22 : w2 = (nI 45) := (Decidable.not_not.mp (of_decide_eq_false c))
                      refine w_st (i' := 81) (ls' := [.ref 1, .int x1, .int w2]) (st' := [.int w2, .ref 1]) (E' := E) (I' := (u_I I 1 (upd (I 1) 5 (((I 1) 4) + (nI 1))))) (J' := J) (S' := S) am_e63 rfl rfl rfl rfl ?_
                      refine w_st (i' := 83) (ls' := [.ref 1, .int x1, .int w2]) (st' := [.int w2, .ref 1]) (E' := E) (I' := (u_I I 1 (upd (I 1) 5 (((I 1) 4) + (nI 1))))) (J' := J) (S' := S) am_e63 rfl rfl rfl rfl ?_
                      first | exact hm | (simp only [if_neg m19, if_neg m20, if_neg m21, if_pos m22] at hm; exact hm)
            refine w_var (fun w23 => am_ww 63 83 [.ref 1, .int x1, .int w2] [.int w23, .ref 1] E (u_I I 1 (upd (I 1) 5 (((I 1) 4) + (nI 1)))) J S _) (if w2 = (nI 59) then w2 else (if w2 = (nI 44) then w2 else (if w2 = (nI 58) then w2 else (if w2 = (nI 45) then w2 else nI 1)))) (fun w23 hw23 => ?_)
            replace h := h w23 hw23
            refine w_st (i' := 84) (ls' := [.ref 1, .int x1, .int w2]) (st' := []) (E' := E) (I' := (u_I (u_I I 1 (upd (I 1) 5 (((I 1) 4) + (nI 1)))) 1 (upd (upd (I 1) 5 (((I 1) 4) + (nI 1))) 6 w23))) (J' := J) (S' := S) am_e63 rfl rfl rfl rfl ?_
            refine w_eI (uI_0 ..) ?_
            show am_ww 63 84 [.ref 1, .int x1, .int w2] [] E (u_I I 1 (upd (upd (I 1) 5 (((I 1) 4) + (nI 1))) 6 w23)) J S _
            exact w_end am_e63 rfl rfl rfl h
          · replace h := h.2 (of_decide_eq_false c)
            refine w_st (i' := 7) (ls' := [.int w2]) (st' := [.int (nI 1)]) (E' := E) (I' := (u_I I 1 (upd (I 1) 5 (((I 1) 4) + (nI 1))))) (J' := J) (S' := S) am_e75 rfl rfl rfl rfl ?_
            refine w_st (i' := 9) (ls' := [.int w2]) (st' := [.int (nI 1)]) (E' := E) (I' := (u_I I 1 (upd (I 1) 5 (((I 1) 4) + (nI 1))))) (J' := J) (S' := S) am_e75 rfl rfl rfl rfl ?_
            refine w_end (E' := E) (I' := (u_I I 1 (upd (I 1) 5 (((I 1) 4) + (nI 1))))) (J' := J) (S' := S) am_e75 rfl rfl rfl (q_mkI ?_)
            show am_ww 63 62 [.ref 1, .int x1, .int w2] [.int (nI 1)] E (u_I I 1 (upd (I 1) 5 (((I 1) 4) + (nI 1)))) J S _
            refine w_st (i' := 63) (ls' := [.ref 1, .int x1, .int w2]) (st' := []) (E' := E) (I' := (u_I I 1 (upd (I 1) 5 (((I 1) 4) + (nI 1))))) (J' := J) (S' := S) am_e63 rfl rfl rfl rfl ?_
            refine w_st (i' := 64) (ls' := [.ref 1, .int x1, .int w2]) (st' := [.ref 1]) (E' := E) (I' := (u_I I 1 (upd (I 1) 5 (((I 1) 4) + (nI 1))))) (J' := J) (S' := S) am_e63 rfl rfl rfl rfl ?_
            refine w_st (i' := 65) (ls' := [.ref 1, .int x1, .int w2]) (st' := [.int x1, .ref 1]) (E' := E) (I' := (u_I I 1 (upd (I 1) 5 (((I 1) 4) + (nI 1))))) (J' := J) (S' := S) am_e63 rfl rfl rfl rfl ?_
            refine w_cV am_e63 rfl rfl (as := [.ref 1, .int x1]) (rest := []) rfl rfl (am_ww.mono h ?_)
            rintro _ E24 I24 J24 S24 ⟨rfl, h⟩
            refine q_mkV ?_
            refine w_st (i' := 84) (ls' := [.ref 1, .int x1, .int w2]) (st' := []) (E' := E24) (I' := I24) (J' := J24) (S' := S24) am_e63 rfl rfl rfl rfl ?_
            exact w_end am_e63 rfl rfl rfl h
      · replace h := h.2 (of_decide_eq_false c)
        refine w_st (i' := 7) (ls' := [.int w2]) (st' := [.int (nI 1)]) (E' := E) (I' := (u_I I 1 (upd (I 1) 5 (((I 1) 4) + (nI 1))))) (J' := J) (S' := S) am_e64 rfl rfl rfl rfl ?_
        refine w_st (i' := 9) (ls' := [.int w2]) (st' := [.int (nI 1)]) (E' := E) (I' := (u_I I 1 (upd (I 1) 5 (((I 1) 4) + (nI 1))))) (J' := J) (S' := S) am_e64 rfl rfl rfl rfl ?_
        refine w_end (E' := E) (I' := (u_I I 1 (upd (I 1) 5 (((I 1) 4) + (nI 1))))) (J' := J) (S' := S) am_e64 rfl rfl rfl (q_mkI ?_)
        show am_ww 63 55 [.ref 1, .int x1, .int w2] [.int (nI 1)] E (u_I I 1 (upd (I 1) 5 (((I 1) 4) + (nI 1)))) J S _
        refine w_st (i' := 56) (ls' := [.ref 1, .int x1, .int w2]) (st' := []) (E' := E) (I' := (u_I I 1 (upd (I 1) 5 (((I 1) 4) + (nI 1))))) (J' := J) (S' := S) am_e63 rfl rfl rfl rfl ?_
        refine w_st (i' := 57) (ls' := [.ref 1, .int x1, .int w2]) (st' := [.ref 1]) (E' := E) (I' := (u_I I 1 (upd (I 1) 5 (((I 1) 4) + (nI 1))))) (J' := J) (S' := S) am_e63 rfl rfl rfl rfl ?_
        refine w_st (i' := 58) (ls' := [.ref 1, .int x1, .int w2]) (st' := [.int x1, .ref 1]) (E' := E) (I' := (u_I I 1 (upd (I 1) 5 (((I 1) 4) + (nI 1))))) (J' := J) (S' := S) am_e63 rfl rfl rfl rfl ?_
        refine w_cV am_e63 rfl rfl (as := [.ref 1, .int x1]) (rest := []) rfl rfl (am_ww.mono h ?_)
        rintro _ E25 I25 J25 S25 ⟨rfl, h⟩
        refine q_mkV ?_
        refine w_st (i' := 84) (ls' := [.ref 1, .int x1, .int w2]) (st' := []) (E' := E25) (I' := I25) (J' := J25) (S' := S25) am_e63 rfl rfl rfl rfl ?_
        exact w_end am_e63 rfl rfl rfl h
  · replace h := h.2 (of_decide_eq_false c)
    refine w_st (i' := 40) (ls' := [.ref 1, .int x1, d2]) (st' := [.ref 1]) (E' := E) (I' := (u_I I 1 (upd (I 1) 5 (((I 1) 4) + (nI 1))))) (J' := J) (S' := S) am_e63 rfl rfl rfl rfl ?_
    refine w_st (i' := 41) (ls' := [.ref 1, .int x1, d2]) (st' := [.int (nI 0), .ref 1]) (E' := E) (I' := (u_I I 1 (upd (I 1) 5 (((I 1) 4) + (nI 1))))) (J' := J) (S' := S) am_e63 rfl rfl rfl rfl ?_
    refine w_st (i' := 42) (ls' := [.ref 1, .int x1, d2]) (st' := []) (E' := E) (I' := (u_I (u_I I 1 (upd (I 1) 5 (((I 1) 4) + (nI 1)))) 1 (upd (upd (I 1) 5 (((I 1) 4) + (nI 1))) 6 (nI 0)))) (J' := J) (S' := S) am_e63 rfl rfl rfl rfl ?_
    refine w_eI (uI_0 ..) ?_
    show am_ww 63 42 [.ref 1, .int x1, d2] [] E (u_I I 1 (upd (upd (I 1) 5 (((I 1) 4) + (nI 1))) 6 (nI 0))) J S _
    refine w_st (i' := 43) (ls' := [.ref 1, .int x1, d2]) (st' := [.ref 1]) (E' := E) (I' := (u_I I 1 (upd (upd (I 1) 5 (((I 1) 4) + (nI 1))) 6 (nI 0)))) (J' := J) (S' := S) am_e63 rfl rfl rfl rfl ?_
    refine w_st (i' := 44) (ls' := [.ref 1, .int x1, d2]) (st' := [.ref 1, .ref 1]) (E' := E) (I' := (u_I I 1 (upd (upd (I 1) 5 (((I 1) 4) + (nI 1))) 6 (nI 0)))) (J' := J) (S' := S) am_e63 rfl rfl rfl rfl ?_
    refine w_st (i' := 45) (ls' := [.ref 1, .int x1, d2]) (st' := [.int ((I 1) 4), .ref 1]) (E' := E) (I' := (u_I I 1 (upd (upd (I 1) 5 (((I 1) 4) + (nI 1))) 6 (nI 0)))) (J' := J) (S' := S) am_e63 rfl rfl rfl rfl ?_
    refine w_st (i' := 46) (ls' := [.ref 1, .int x1, d2]) (st' := []) (E' := E) (I' := (u_I (u_I I 1 (upd (upd (I 1) 5 (((I 1) 4) + (nI 1))) 6 (nI 0))) 1 (upd (upd (upd (I 1) 5 (((I 1) 4) + (nI 1))) 6 (nI 0)) 5 ((I 1) 4)))) (J' := J) (S' := S) am_e63 rfl rfl rfl rfl ?_
    refine w_eI (uI_0 ..) ?_
    show am_ww 63 46 [.ref 1, .int x1, d2] [] E (u_I I 1 (upd (upd (upd (I 1) 5 (((I 1) 4) + (nI 1))) 6 (nI 0)) 5 ((I 1) 4))) J S _
    exact w_end am_e63 rfl rfl rfl h
-- 65 findWord
theorem g65_0 {p1 : Int32} {E : am_Ev} {I : Nat → Nat → Int32} {J : Nat → Nat → Int64} {S : Nat → Nat → Option Nat} {Q : am_Qt}  (h : am_ww 65 10 [.ref 1, .int p1] [] E (u_I I 1 (upd (upd (I 1) 6 (nI 2)) 5 ((I 1) 4))) (u_J J 1 (vp_updL (J 1) 9 (lN 0))) S Q) : am_ww 65 0 [.ref 1, .int p1] [] E I J S Q := by
  refine w_st (i' := 1) (ls' := [.ref 1, .int p1]) (st' := [.ref 1]) (E' := E) (I' := I) (J' := J) (S' := S) am_e65 rfl rfl rfl rfl ?_
  refine w_st (i' := 2) (ls' := [.ref 1, .int p1]) (st' := [.int (nI 2), .ref 1]) (E' := E) (I' := I) (J' := J) (S' := S) am_e65 rfl rfl rfl rfl ?_
  refine w_st (i' := 3) (ls' := [.ref 1, .int p1]) (st' := []) (E' := E) (I' := (u_I I 1 (upd (I 1) 6 (nI 2)))) (J' := J) (S' := S) am_e65 rfl rfl rfl rfl ?_
  refine w_st (i' := 4) (ls' := [.ref 1, .int p1]) (st' := [.ref 1]) (E' := E) (I' := (u_I I 1 (upd (I 1) 6 (nI 2)))) (J' := J) (S' := S) am_e65 rfl rfl rfl rfl ?_
  refine w_st (i' := 5) (ls' := [.ref 1, .int p1]) (st' := [.long (lN 0), .ref 1]) (E' := E) (I' := (u_I I 1 (upd (I 1) 6 (nI 2)))) (J' := J) (S' := S) am_e65 rfl rfl rfl rfl ?_
  refine w_st (i' := 6) (ls' := [.ref 1, .int p1]) (st' := []) (E' := E) (I' := (u_I I 1 (upd (I 1) 6 (nI 2)))) (J' := (u_J J 1 (vp_updL (J 1) 9 (lN 0)))) (S' := S) am_e65 rfl rfl rfl rfl ?_
  refine w_st (i' := 7) (ls' := [.ref 1, .int p1]) (st' := [.ref 1]) (E' := E) (I' := (u_I I 1 (upd (I 1) 6 (nI 2)))) (J' := (u_J J 1 (vp_updL (J 1) 9 (lN 0)))) (S' := S) am_e65 rfl rfl rfl rfl ?_
  refine w_st (i' := 8) (ls' := [.ref 1, .int p1]) (st' := [.ref 1, .ref 1]) (E' := E) (I' := (u_I I 1 (upd (I 1) 6 (nI 2)))) (J' := (u_J J 1 (vp_updL (J 1) 9 (lN 0)))) (S' := S) am_e65 rfl rfl rfl rfl ?_
  refine w_st (i' := 9) (ls' := [.ref 1, .int p1]) (st' := [.int ((I 1) 4), .ref 1]) (E' := E) (I' := (u_I I 1 (upd (I 1) 6 (nI 2)))) (J' := (u_J J 1 (vp_updL (J 1) 9 (lN 0)))) (S' := S) am_e65 rfl rfl rfl rfl ?_
  refine w_st (i' := 10) (ls' := [.ref 1, .int p1]) (st' := []) (E' := E) (I' := (u_I (u_I I 1 (upd (I 1) 6 (nI 2))) 1 (upd (upd (I 1) 6 (nI 2)) 5 ((I 1) 4)))) (J' := (u_J J 1 (vp_updL (J 1) 9 (lN 0)))) (S' := S) am_e65 rfl rfl rfl rfl ?_
  refine w_eI (uI_0 ..) ?_
  show am_ww 65 10 [.ref 1, .int p1] [] E (u_I I 1 (upd (upd (I 1) 6 (nI 2)) 5 ((I 1) 4))) (u_J J 1 (vp_updL (J 1) 9 (lN 0))) S _
  exact h
theorem g65_10 {x1 : Int32} {E : am_Ev} {I : Nat → Nat → Int32} {J : Nat → Nat → Int64} {S : Nat → Nat → Option Nat} {Q : am_Qt}  (h : (x1 ≤ ((I 1) 5) → (am_cl 66 [.ref 1] E I J S (q_I fun v1 E1 I1 J1 S1 => Q (.inl none) E1 (u_I I1 1 (upd (I1 1) 8 v1)) J1 S1))) ∧ (¬ x1 ≤ ((I 1) 5) → (vp_in ((I 1) 5) 700 ∧ (∀ w3 : Int32, w3 = ((I 2) (((I 1) 5).toNatClampNeg)) → ((w3 < (nI 97) → (am_cl 66 [.ref 1] E I J S (q_I fun v4 E4 I4 J4 S4 => Q (.inl none) E4 (u_I I4 1 (upd (I4 1) 8 v4)) J4 S4))) ∧ (¬ w3 < (nI 97) → (((nI 122) < w3 → (am_cl 66 [.ref 1] E I J S (q_I fun v5 E5 I5 J5 S5 => Q (.inl none) E5 (u_I I5 1 (upd (I5 1) 8 v5)) J5 S5))) ∧ (¬ (nI 122) < w3 → (am_ww 65 10 [.ref 1, .int x1] [] E (u_I I 1 (upd (I 1) 5 (((I 1) 5) + (nI 1)))) (u_J J 1 (vp_updL (J 1) 9 ((((J 1) 9) <<< ((nI 5).toInt64 &&& 63)) ||| (((((I 2) (((I 1) 5).toNatClampNeg)) - (nI 97)) + (nI 1)).toInt64)))) S Q))))))))) : am_ww 65 10 [.ref 1, .int x1] [] E I J S Q := by
  refine w_st (i' := 11) (ls' := [.ref 1, .int x1]) (st' := [.ref 1]) (E' := E) (I' := I) (J' := J) (S' := S) am_e65 rfl rfl rfl rfl ?_
  refine w_st (i' := 12) (ls' := [.ref 1, .int x1]) (st' := [.int ((I 1) 5)]) (E' := E) (I' := I) (J' := J) (S' := S) am_e65 rfl rfl rfl rfl ?_
  refine w_st (i' := 13) (ls' := [.ref 1, .int x1]) (st' := [.int x1, .int ((I 1) 5)]) (E' := E) (I' := I) (J' := J) (S' := S) am_e65 rfl rfl rfl rfl ?_
  refine w_if2 am_e65 rfl rfl (fun c => ?_) (fun c => ?_)
  · replace h := h.1 (of_decide_eq_true c)
    refine w_st (i' := 46) (ls' := [.ref 1, .int x1]) (st' := [.ref 1]) (E' := E) (I' := I) (J' := J) (S' := S) am_e65 rfl rfl rfl rfl ?_
    refine w_st (i' := 47) (ls' := [.ref 1, .int x1]) (st' := [.ref 1, .ref 1]) (E' := E) (I' := I) (J' := J) (S' := S) am_e65 rfl rfl rfl rfl ?_
    refine w_cI am_e65 rfl rfl (as := [.ref 1]) (rest := [.ref 1]) rfl rfl (am_ww.mono h ?_)
    rintro _ E1 I1 J1 S1 ⟨v1, rfl, h⟩
    refine q_mkI ?_
    refine w_st (i' := 49) (ls' := [.ref 1, .int x1]) (st' := []) (E' := E1) (I' := (u_I I1 1 (upd (I1 1) 8 v1))) (J' := J1) (S' := S1) am_e65 rfl rfl rfl rfl ?_
    exact w_end am_e65 rfl rfl rfl h
  · replace h := h.2 (of_decide_eq_false c)
    refine w_st (i' := 15) (ls' := [.ref 1, .int x1]) (st' := [.ref 1]) (E' := E) (I' := I) (J' := J) (S' := S) am_e65 rfl rfl rfl rfl ?_
    refine w_st (i' := 16) (ls' := [.ref 1, .int x1]) (st' := [.ref 2]) (E' := E) (I' := I) (J' := J) (S' := S) am_e65 rfl rfl rfl rfl ?_
    refine w_st (i' := 17) (ls' := [.ref 1, .int x1]) (st' := [.ref 1, .ref 2]) (E' := E) (I' := I) (J' := J) (S' := S) am_e65 rfl rfl rfl rfl ?_
    refine w_st (i' := 18) (ls' := [.ref 1, .int x1]) (st' := [.int ((I 1) 5), .ref 2]) (E' := E) (I' := I) (J' := J) (S' := S) am_e65 rfl rfl rfl rfl ?_
    have hf2 := h.1
    replace h := h.2
    refine w_ba (k := 2) (n := 700) (jn := ((I 1) 5).toNatClampNeg) am_e65 rfl rfl (by decide) hf2 rfl ?_
    refine w_cI am_e65 rfl rfl (as := [.int ((I 2) (((I 1) 5).toNatClampNeg))]) (rest := []) rfl rfl ?_
    show am_ww 64 0 [.int ((I 2) (((I 1) 5).toNatClampNeg))] [] E I J S _
    refine w_var (fun w3 => am_ww 64 0 [.int w3] [] E I J S _) ((I 2) (((I 1) 5).toNatClampNeg)) (fun w3 hw3 => ?_)
    replace h := h w3 hw3
    refine w_st (i' := 1) (ls' := [.int w3]) (st' := [.int w3]) (E' := E) (I' := I) (J' := J) (S' := S) am_e64 rfl rfl rfl rfl ?_
    refine w_st (i' := 2) (ls' := [.int w3]) (st' := [.int (nI 97), .int w3]) (E' := E) (I' := I) (J' := J) (S' := S) am_e64 rfl rfl rfl rfl ?_
    refine w_if2 am_e64 rfl rfl (fun c => ?_) (fun c => ?_)
    · replace h := h.1 (of_decide_eq_true c)
      refine w_st (i' := 9) (ls' := [.int w3]) (st' := [.int (nI 0)]) (E' := E) (I' := I) (J' := J) (S' := S) am_e64 rfl rfl rfl rfl ?_
      refine w_end (E' := E) (I' := I) (J' := J) (S' := S) am_e64 rfl rfl rfl (q_mkI ?_)
      show am_ww 65 20 [.ref 1, .int x1] [.int (nI 0)] E I J S _
      refine w_st (i' := 45) (ls' := [.ref 1, .int x1]) (st' := []) (E' := E) (I' := I) (J' := J) (S' := S) am_e65 rfl rfl rfl rfl ?_
      refine w_st (i' := 46) (ls' := [.ref 1, .int x1]) (st' := [.ref 1]) (E' := E) (I' := I) (J' := J) (S' := S) am_e65 rfl rfl rfl rfl ?_
      refine w_st (i' := 47) (ls' := [.ref 1, .int x1]) (st' := [.ref 1, .ref 1]) (E' := E) (I' := I) (J' := J) (S' := S) am_e65 rfl rfl rfl rfl ?_
      refine w_cI am_e65 rfl rfl (as := [.ref 1]) (rest := [.ref 1]) rfl rfl (am_ww.mono h ?_)
      rintro _ E4 I4 J4 S4 ⟨v4, rfl, h⟩
      refine q_mkI ?_
      refine w_st (i' := 49) (ls' := [.ref 1, .int x1]) (st' := []) (E' := E4) (I' := (u_I I4 1 (upd (I4 1) 8 v4))) (J' := J4) (S' := S4) am_e65 rfl rfl rfl rfl ?_
      exact w_end am_e65 rfl rfl rfl h
    · replace h := h.2 (of_decide_eq_false c)
      refine w_st (i' := 4) (ls' := [.int w3]) (st' := [.int w3]) (E' := E) (I' := I) (J' := J) (S' := S) am_e64 rfl rfl rfl rfl ?_
      refine w_st (i' := 5) (ls' := [.int w3]) (st' := [.int (nI 122), .int w3]) (E' := E) (I' := I) (J' := J) (S' := S) am_e64 rfl rfl rfl rfl ?_
      refine w_if2 am_e64 rfl rfl (fun c => ?_) (fun c => ?_)
      · replace h := h.1 (of_decide_eq_true c)
        refine w_st (i' := 9) (ls' := [.int w3]) (st' := [.int (nI 0)]) (E' := E) (I' := I) (J' := J) (S' := S) am_e64 rfl rfl rfl rfl ?_
        refine w_end (E' := E) (I' := I) (J' := J) (S' := S) am_e64 rfl rfl rfl (q_mkI ?_)
        show am_ww 65 20 [.ref 1, .int x1] [.int (nI 0)] E I J S _
        refine w_st (i' := 45) (ls' := [.ref 1, .int x1]) (st' := []) (E' := E) (I' := I) (J' := J) (S' := S) am_e65 rfl rfl rfl rfl ?_
        refine w_st (i' := 46) (ls' := [.ref 1, .int x1]) (st' := [.ref 1]) (E' := E) (I' := I) (J' := J) (S' := S) am_e65 rfl rfl rfl rfl ?_
        refine w_st (i' := 47) (ls' := [.ref 1, .int x1]) (st' := [.ref 1, .ref 1]) (E' := E) (I' := I) (J' := J) (S' := S) am_e65 rfl rfl rfl rfl ?_
        refine w_cI am_e65 rfl rfl (as := [.ref 1]) (rest := [.ref 1]) rfl rfl (am_ww.mono h ?_)
        rintro _ E5 I5 J5 S5 ⟨v5, rfl, h⟩
        refine q_mkI ?_
        refine w_st (i' := 49) (ls' := [.ref 1, .int x1]) (st' := []) (E' := E5) (I' := (u_I I5 1 (upd (I5 1) 8 v5))) (J' := J5) (S' := S5) am_e65 rfl rfl rfl rfl ?_
        exact w_end am_e65 rfl rfl rfl h
      · replace h := h.2 (of_decide_eq_false c)
        refine w_st (i' := 7) (ls' := [.int w3]) (st' := [.int (nI 1)]) (E' := E) (I' := I) (J' := J) (S' := S) am_e64 rfl rfl rfl rfl ?_
        refine w_st (i' := 9) (ls' := [.int w3]) (st' := [.int (nI 1)]) (E' := E) (I' := I) (J' := J) (S' := S) am_e64 rfl rfl rfl rfl ?_
        refine w_end (E' := E) (I' := I) (J' := J) (S' := S) am_e64 rfl rfl rfl (q_mkI ?_)
        show am_ww 65 20 [.ref 1, .int x1] [.int (nI 1)] E I J S _
        refine w_st (i' := 21) (ls' := [.ref 1, .int x1]) (st' := []) (E' := E) (I' := I) (J' := J) (S' := S) am_e65 rfl rfl rfl rfl ?_
        refine w_st (i' := 22) (ls' := [.ref 1, .int x1]) (st' := [.ref 1]) (E' := E) (I' := I) (J' := J) (S' := S) am_e65 rfl rfl rfl rfl ?_
        refine w_st (i' := 23) (ls' := [.ref 1, .int x1]) (st' := [.ref 1, .ref 1]) (E' := E) (I' := I) (J' := J) (S' := S) am_e65 rfl rfl rfl rfl ?_
        refine w_st (i' := 24) (ls' := [.ref 1, .int x1]) (st' := [.long ((J 1) 9), .ref 1]) (E' := E) (I' := I) (J' := J) (S' := S) am_e65 rfl rfl rfl rfl ?_
        refine w_st (i' := 25) (ls' := [.ref 1, .int x1]) (st' := [.int (nI 5), .long ((J 1) 9), .ref 1]) (E' := E) (I' := I) (J' := J) (S' := S) am_e65 rfl rfl rfl rfl ?_
        refine w_st (i' := 26) (ls' := [.ref 1, .int x1]) (st' := [.long (((J 1) 9) <<< ((nI 5).toInt64 &&& 63)), .ref 1]) (E' := E) (I' := I) (J' := J) (S' := S) am_e65 rfl rfl rfl rfl ?_
        refine w_st (i' := 27) (ls' := [.ref 1, .int x1]) (st' := [.ref 1, .long (((J 1) 9) <<< ((nI 5).toInt64 &&& 63)), .ref 1]) (E' := E) (I' := I) (J' := J) (S' := S) am_e65 rfl rfl rfl rfl ?_
        refine w_st (i' := 28) (ls' := [.ref 1, .int x1]) (st' := [.ref 2, .long (((J 1) 9) <<< ((nI 5).toInt64 &&& 63)), .ref 1]) (E' := E) (I' := I) (J' := J) (S' := S) am_e65 rfl rfl rfl rfl ?_
        refine w_st (i' := 29) (ls' := [.ref 1, .int x1]) (st' := [.ref 1, .ref 2, .long (((J 1) 9) <<< ((nI 5).toInt64 &&& 63)), .ref 1]) (E' := E) (I' := I) (J' := J) (S' := S) am_e65 rfl rfl rfl rfl ?_
        refine w_st (i' := 30) (ls' := [.ref 1, .int x1]) (st' := [.int ((I 1) 5), .ref 2, .long (((J 1) 9) <<< ((nI 5).toInt64 &&& 63)), .ref 1]) (E' := E) (I' := I) (J' := J) (S' := S) am_e65 rfl rfl rfl rfl ?_
        refine w_ba (k := 2) (n := 700) (jn := ((I 1) 5).toNatClampNeg) am_e65 rfl rfl (by decide) hf2 rfl ?_
        refine w_st (i' := 32) (ls' := [.ref 1, .int x1]) (st' := [.int (nI 97), .int ((I 2) (((I 1) 5).toNatClampNeg)), .long (((J 1) 9) <<< ((nI 5).toInt64 &&& 63)), .ref 1]) (E' := E) (I' := I) (J' := J) (S' := S) am_e65 rfl rfl rfl rfl ?_
        refine w_st (i' := 33) (ls' := [.ref 1, .int x1]) (st' := [.int (((I 2) (((I 1) 5).toNatClampNeg)) - (nI 97)), .long (((J 1) 9) <<< ((nI 5).toInt64 &&& 63)), .ref 1]) (E' := E) (I' := I) (J' := J) (S' := S) am_e65 rfl rfl rfl rfl ?_
        refine w_st (i' := 34) (ls' := [.ref 1, .int x1]) (st' := [.int (nI 1), .int (((I 2) (((I 1) 5).toNatClampNeg)) - (nI 97)), .long (((J 1) 9) <<< ((nI 5).toInt64 &&& 63)), .ref 1]) (E' := E) (I' := I) (J' := J) (S' := S) am_e65 rfl rfl rfl rfl ?_
        refine w_st (i' := 35) (ls' := [.ref 1, .int x1]) (st' := [.int ((((I 2) (((I 1) 5).toNatClampNeg)) - (nI 97)) + (nI 1)), .long (((J 1) 9) <<< ((nI 5).toInt64 &&& 63)), .ref 1]) (E' := E) (I' := I) (J' := J) (S' := S) am_e65 rfl rfl rfl rfl ?_
        refine w_st (i' := 36) (ls' := [.ref 1, .int x1]) (st' := [.long (((((I 2) (((I 1) 5).toNatClampNeg)) - (nI 97)) + (nI 1)).toInt64), .long (((J 1) 9) <<< ((nI 5).toInt64 &&& 63)), .ref 1]) (E' := E) (I' := I) (J' := J) (S' := S) am_e65 rfl rfl rfl rfl ?_
        refine w_st (i' := 37) (ls' := [.ref 1, .int x1]) (st' := [.long ((((J 1) 9) <<< ((nI 5).toInt64 &&& 63)) ||| (((((I 2) (((I 1) 5).toNatClampNeg)) - (nI 97)) + (nI 1)).toInt64)), .ref 1]) (E' := E) (I' := I) (J' := J) (S' := S) am_e65 rfl rfl rfl rfl ?_
        refine w_st (i' := 38) (ls' := [.ref 1, .int x1]) (st' := []) (E' := E) (I' := I) (J' := (u_J J 1 (vp_updL (J 1) 9 ((((J 1) 9) <<< ((nI 5).toInt64 &&& 63)) ||| (((((I 2) (((I 1) 5).toNatClampNeg)) - (nI 97)) + (nI 1)).toInt64))))) (S' := S) am_e65 rfl rfl rfl rfl ?_
        refine w_st (i' := 39) (ls' := [.ref 1, .int x1]) (st' := [.ref 1]) (E' := E) (I' := I) (J' := (u_J J 1 (vp_updL (J 1) 9 ((((J 1) 9) <<< ((nI 5).toInt64 &&& 63)) ||| (((((I 2) (((I 1) 5).toNatClampNeg)) - (nI 97)) + (nI 1)).toInt64))))) (S' := S) am_e65 rfl rfl rfl rfl ?_
        refine w_st (i' := 40) (ls' := [.ref 1, .int x1]) (st' := [.ref 1, .ref 1]) (E' := E) (I' := I) (J' := (u_J J 1 (vp_updL (J 1) 9 ((((J 1) 9) <<< ((nI 5).toInt64 &&& 63)) ||| (((((I 2) (((I 1) 5).toNatClampNeg)) - (nI 97)) + (nI 1)).toInt64))))) (S' := S) am_e65 rfl rfl rfl rfl ?_
        refine w_st (i' := 41) (ls' := [.ref 1, .int x1]) (st' := [.int ((I 1) 5), .ref 1]) (E' := E) (I' := I) (J' := (u_J J 1 (vp_updL (J 1) 9 ((((J 1) 9) <<< ((nI 5).toInt64 &&& 63)) ||| (((((I 2) (((I 1) 5).toNatClampNeg)) - (nI 97)) + (nI 1)).toInt64))))) (S' := S) am_e65 rfl rfl rfl rfl ?_
        refine w_st (i' := 42) (ls' := [.ref 1, .int x1]) (st' := [.int (nI 1), .int ((I 1) 5), .ref 1]) (E' := E) (I' := I) (J' := (u_J J 1 (vp_updL (J 1) 9 ((((J 1) 9) <<< ((nI 5).toInt64 &&& 63)) ||| (((((I 2) (((I 1) 5).toNatClampNeg)) - (nI 97)) + (nI 1)).toInt64))))) (S' := S) am_e65 rfl rfl rfl rfl ?_
        refine w_st (i' := 43) (ls' := [.ref 1, .int x1]) (st' := [.int (((I 1) 5) + (nI 1)), .ref 1]) (E' := E) (I' := I) (J' := (u_J J 1 (vp_updL (J 1) 9 ((((J 1) 9) <<< ((nI 5).toInt64 &&& 63)) ||| (((((I 2) (((I 1) 5).toNatClampNeg)) - (nI 97)) + (nI 1)).toInt64))))) (S' := S) am_e65 rfl rfl rfl rfl ?_
        refine w_st (i' := 44) (ls' := [.ref 1, .int x1]) (st' := []) (E' := E) (I' := (u_I I 1 (upd (I 1) 5 (((I 1) 5) + (nI 1))))) (J' := (u_J J 1 (vp_updL (J 1) 9 ((((J 1) 9) <<< ((nI 5).toInt64 &&& 63)) ||| (((((I 2) (((I 1) 5).toNatClampNeg)) - (nI 97)) + (nI 1)).toInt64))))) (S' := S) am_e65 rfl rfl rfl rfl ?_
        refine w_st (i' := 10) (ls' := [.ref 1, .int x1]) (st' := []) (E' := E) (I' := (u_I I 1 (upd (I 1) 5 (((I 1) 5) + (nI 1))))) (J' := (u_J J 1 (vp_updL (J 1) 9 ((((J 1) 9) <<< ((nI 5).toInt64 &&& 63)) ||| (((((I 2) (((I 1) 5).toNatClampNeg)) - (nI 97)) + (nI 1)).toInt64))))) (S' := S) am_e65 rfl rfl rfl rfl ?_
        exact h
-- 66 wordNumber
theorem g66_0  {E : am_Ev} {I : Nat → Nat → Int32} {J : Nat → Nat → Int64} {S : Nat → Nat → Option Nat} {Q : am_Qt}  (h : am_ww 66 6 [.ref 1, .int (nI 0), .int (nI 0), .int (nI 0)] [] E I J S Q) : am_ww 66 0 [.ref 1, am_U, am_U, am_U] [] E I J S Q := by
  refine w_st (i' := 1) (ls' := [.ref 1, am_U, am_U, am_U]) (st' := [.int (nI 0)]) (E' := E) (I' := I) (J' := J) (S' := S) am_e66 rfl rfl rfl rfl ?_
  refine w_st (i' := 2) (ls' := [.ref 1, .int (nI 0), am_U, am_U]) (st' := []) (E' := E) (I' := I) (J' := J) (S' := S) am_e66 rfl rfl rfl rfl ?_
  refine w_st (i' := 3) (ls' := [.ref 1, .int (nI 0), am_U, am_U]) (st' := [.int (nI 0)]) (E' := E) (I' := I) (J' := J) (S' := S) am_e66 rfl rfl rfl rfl ?_
  refine w_st (i' := 4) (ls' := [.ref 1, .int (nI 0), .int (nI 0), am_U]) (st' := []) (E' := E) (I' := I) (J' := J) (S' := S) am_e66 rfl rfl rfl rfl ?_
  refine w_st (i' := 5) (ls' := [.ref 1, .int (nI 0), .int (nI 0), am_U]) (st' := [.int (nI 0)]) (E' := E) (I' := I) (J' := J) (S' := S) am_e66 rfl rfl rfl rfl ?_
  refine w_st (i' := 6) (ls' := [.ref 1, .int (nI 0), .int (nI 0), .int (nI 0)]) (st' := []) (E' := E) (I' := I) (J' := J) (S' := S) am_e66 rfl rfl rfl rfl ?_
  exact h
theorem g66_6 {x1 : Int32} {x2 : Int32} {x3 : Int32} {E : am_Ev} {I : Nat → Nat → Int32} {J : Nat → Nat → Int64} {S : Nat → Nat → Option Nat} {Q : am_Qt}  (h : am_cl 67 [.ref 2000002] E I J S (q_I fun v1 E1 I1 J1 S1 => (v1 ≤ x3 → (Q (.inl (some (.int (-1)))) E1 I1 J1 S1)) ∧ (¬ v1 ≤ x3 → (am_cl 69 [.ref 2000002, .int x3] E1 I1 J1 S1 (q_I fun v2 E2 I2 J2 S2 => (v2 = (nI 32) → (((x3 - x2) = (((I2 1) 5) - ((I2 1) 4)) → (am_cl 74 [.ref 1, .int x2] E2 I2 J2 S2 (q_I fun v3 E3 I3 J3 S3 => (v3 = 0 → (am_ww 66 6 [.ref 1, .int (x1 + nI 1), .int (x3 + (nI 1)), .int (x3 + nI 1)] [] E3 I3 J3 S3 Q)) ∧ (¬ v3 = 0 → (Q (.inl (some (.int x1))) E3 I3 J3 S3))))) ∧ (¬ (x3 - x2) = (((I2 1) 5) - ((I2 1) 4)) → (am_ww 66 6 [.ref 1, .int (x1 + nI 1), .int (x3 + (nI 1)), .int (x3 + nI 1)] [] E2 I2 J2 S2 Q)))) ∧ (¬ v2 = (nI 32) → (am_ww 66 6 [.ref 1, .int x1, .int x2, .int (x3 + nI 1)] [] E2 I2 J2 S2 Q))))))) : am_ww 66 6 [.ref 1, .int x1, .int x2, .int x3] [] E I J S Q := by
  refine w_st (i' := 7) (ls' := [.ref 1, .int x1, .int x2, .int x3]) (st' := [.int x3]) (E' := E) (I' := I) (J' := J) (S' := S) am_e66 rfl rfl rfl rfl ?_
  refine w_st (i' := 8) (ls' := [.ref 1, .int x1, .int x2, .int x3]) (st' := [.ref 2000002, .int x3]) (E' := E) (I' := I) (J' := J) (S' := S) am_e66 rfl rfl rfl rfl ?_
  refine w_cI am_e66 rfl rfl (as := [.ref 2000002]) (rest := [.int x3]) rfl rfl (am_ww.mono h ?_)
  rintro _ E1 I1 J1 S1 ⟨v1, rfl, h⟩
  refine q_mkI ?_
  refine w_if2 am_e66 rfl rfl (fun c => ?_) (fun c => ?_)
  · replace h := h.1 (of_decide_eq_true c)
    refine w_st (i' := 38) (ls' := [.ref 1, .int x1, .int x2, .int x3]) (st' := [.int (-1)]) (E' := E1) (I' := I1) (J' := J1) (S' := S1) am_e66 rfl rfl rfl rfl ?_
    exact w_end am_e66 rfl rfl rfl h
  · replace h := h.2 (of_decide_eq_false c)
    refine w_st (i' := 11) (ls' := [.ref 1, .int x1, .int x2, .int x3]) (st' := [.ref 2000002]) (E' := E1) (I' := I1) (J' := J1) (S' := S1) am_e66 rfl rfl rfl rfl ?_
    refine w_st (i' := 12) (ls' := [.ref 1, .int x1, .int x2, .int x3]) (st' := [.int x3, .ref 2000002]) (E' := E1) (I' := I1) (J' := J1) (S' := S1) am_e66 rfl rfl rfl rfl ?_
    refine w_cI am_e66 rfl rfl (as := [.ref 2000002, .int x3]) (rest := []) rfl rfl (am_ww.mono h ?_)
    rintro _ E2 I2 J2 S2 ⟨v2, rfl, h⟩
    refine q_mkI ?_
    refine w_st (i' := 14) (ls' := [.ref 1, .int x1, .int x2, .int x3]) (st' := [.int (nI 32), .int v2]) (E' := E2) (I' := I2) (J' := J2) (S' := S2) am_e66 rfl rfl rfl rfl ?_
    refine w_if2 am_e66 rfl rfl (fun c => ?_) (fun c => ?_)
    · replace h := h.2 (of_decide_eq_true c)
      refine w_st (i' := 36) (ls' := [.ref 1, .int x1, .int x2, .int (x3 + nI 1)]) (st' := []) (E' := E2) (I' := I2) (J' := J2) (S' := S2) am_e66 rfl rfl rfl rfl ?_
      refine w_st (i' := 6) (ls' := [.ref 1, .int x1, .int x2, .int (x3 + nI 1)]) (st' := []) (E' := E2) (I' := I2) (J' := J2) (S' := S2) am_e66 rfl rfl rfl rfl ?_
      exact h
    · replace h := h.1 (Decidable.not_not.mp (of_decide_eq_false c))
      refine w_st (i' := 16) (ls' := [.ref 1, .int x1, .int x2, .int x3]) (st' := [.int x3]) (E' := E2) (I' := I2) (J' := J2) (S' := S2) am_e66 rfl rfl rfl rfl ?_
      refine w_st (i' := 17) (ls' := [.ref 1, .int x1, .int x2, .int x3]) (st' := [.int x2, .int x3]) (E' := E2) (I' := I2) (J' := J2) (S' := S2) am_e66 rfl rfl rfl rfl ?_
      refine w_st (i' := 18) (ls' := [.ref 1, .int x1, .int x2, .int x3]) (st' := [.int (x3 - x2)]) (E' := E2) (I' := I2) (J' := J2) (S' := S2) am_e66 rfl rfl rfl rfl ?_
      refine w_st (i' := 19) (ls' := [.ref 1, .int x1, .int x2, .int x3]) (st' := [.ref 1, .int (x3 - x2)]) (E' := E2) (I' := I2) (J' := J2) (S' := S2) am_e66 rfl rfl rfl rfl ?_
      refine w_st (i' := 20) (ls' := [.ref 1, .int x1, .int x2, .int x3]) (st' := [.int ((I2 1) 5), .int (x3 - x2)]) (E' := E2) (I' := I2) (J' := J2) (S' := S2) am_e66 rfl rfl rfl rfl ?_
      refine w_st (i' := 21) (ls' := [.ref 1, .int x1, .int x2, .int x3]) (st' := [.ref 1, .int ((I2 1) 5), .int (x3 - x2)]) (E' := E2) (I' := I2) (J' := J2) (S' := S2) am_e66 rfl rfl rfl rfl ?_
      refine w_st (i' := 22) (ls' := [.ref 1, .int x1, .int x2, .int x3]) (st' := [.int ((I2 1) 4), .int ((I2 1) 5), .int (x3 - x2)]) (E' := E2) (I' := I2) (J' := J2) (S' := S2) am_e66 rfl rfl rfl rfl ?_
      refine w_st (i' := 23) (ls' := [.ref 1, .int x1, .int x2, .int x3]) (st' := [.int (((I2 1) 5) - ((I2 1) 4)), .int (x3 - x2)]) (E' := E2) (I' := I2) (J' := J2) (S' := S2) am_e66 rfl rfl rfl rfl ?_
      refine w_if2 am_e66 rfl rfl (fun c => ?_) (fun c => ?_)
      · replace h := h.2 (of_decide_eq_true c)
        refine w_st (i' := 31) (ls' := [.ref 1, .int (x1 + nI 1), .int x2, .int x3]) (st' := []) (E' := E2) (I' := I2) (J' := J2) (S' := S2) am_e66 rfl rfl rfl rfl ?_
        refine w_st (i' := 32) (ls' := [.ref 1, .int (x1 + nI 1), .int x2, .int x3]) (st' := [.int x3]) (E' := E2) (I' := I2) (J' := J2) (S' := S2) am_e66 rfl rfl rfl rfl ?_
        refine w_st (i' := 33) (ls' := [.ref 1, .int (x1 + nI 1), .int x2, .int x3]) (st' := [.int (nI 1), .int x3]) (E' := E2) (I' := I2) (J' := J2) (S' := S2) am_e66 rfl rfl rfl rfl ?_
        refine w_st (i' := 34) (ls' := [.ref 1, .int (x1 + nI 1), .int x2, .int x3]) (st' := [.int (x3 + (nI 1))]) (E' := E2) (I' := I2) (J' := J2) (S' := S2) am_e66 rfl rfl rfl rfl ?_
        refine w_st (i' := 35) (ls' := [.ref 1, .int (x1 + nI 1), .int (x3 + (nI 1)), .int x3]) (st' := []) (E' := E2) (I' := I2) (J' := J2) (S' := S2) am_e66 rfl rfl rfl rfl ?_
        refine w_st (i' := 36) (ls' := [.ref 1, .int (x1 + nI 1), .int (x3 + (nI 1)), .int (x3 + nI 1)]) (st' := []) (E' := E2) (I' := I2) (J' := J2) (S' := S2) am_e66 rfl rfl rfl rfl ?_
        refine w_st (i' := 6) (ls' := [.ref 1, .int (x1 + nI 1), .int (x3 + (nI 1)), .int (x3 + nI 1)]) (st' := []) (E' := E2) (I' := I2) (J' := J2) (S' := S2) am_e66 rfl rfl rfl rfl ?_
        exact h
      · replace h := h.1 (Decidable.not_not.mp (of_decide_eq_false c))
        refine w_st (i' := 25) (ls' := [.ref 1, .int x1, .int x2, .int x3]) (st' := [.ref 1]) (E' := E2) (I' := I2) (J' := J2) (S' := S2) am_e66 rfl rfl rfl rfl ?_
        refine w_st (i' := 26) (ls' := [.ref 1, .int x1, .int x2, .int x3]) (st' := [.int x2, .ref 1]) (E' := E2) (I' := I2) (J' := J2) (S' := S2) am_e66 rfl rfl rfl rfl ?_
        refine w_cI am_e66 rfl rfl (as := [.ref 1, .int x2]) (rest := []) rfl rfl (am_ww.mono h ?_)
        rintro _ E3 I3 J3 S3 ⟨v3, rfl, h⟩
        refine q_mkI ?_
        refine w_if1 am_e66 rfl rfl (fun c => ?_) (fun c => ?_)
        · replace h := h.1 (of_decide_eq_true c)
          refine w_st (i' := 31) (ls' := [.ref 1, .int (x1 + nI 1), .int x2, .int x3]) (st' := []) (E' := E3) (I' := I3) (J' := J3) (S' := S3) am_e66 rfl rfl rfl rfl ?_
          refine w_st (i' := 32) (ls' := [.ref 1, .int (x1 + nI 1), .int x2, .int x3]) (st' := [.int x3]) (E' := E3) (I' := I3) (J' := J3) (S' := S3) am_e66 rfl rfl rfl rfl ?_
          refine w_st (i' := 33) (ls' := [.ref 1, .int (x1 + nI 1), .int x2, .int x3]) (st' := [.int (nI 1), .int x3]) (E' := E3) (I' := I3) (J' := J3) (S' := S3) am_e66 rfl rfl rfl rfl ?_
          refine w_st (i' := 34) (ls' := [.ref 1, .int (x1 + nI 1), .int x2, .int x3]) (st' := [.int (x3 + (nI 1))]) (E' := E3) (I' := I3) (J' := J3) (S' := S3) am_e66 rfl rfl rfl rfl ?_
          refine w_st (i' := 35) (ls' := [.ref 1, .int (x1 + nI 1), .int (x3 + (nI 1)), .int x3]) (st' := []) (E' := E3) (I' := I3) (J' := J3) (S' := S3) am_e66 rfl rfl rfl rfl ?_
          refine w_st (i' := 36) (ls' := [.ref 1, .int (x1 + nI 1), .int (x3 + (nI 1)), .int (x3 + nI 1)]) (st' := []) (E' := E3) (I' := I3) (J' := J3) (S' := S3) am_e66 rfl rfl rfl rfl ?_
          refine w_st (i' := 6) (ls' := [.ref 1, .int (x1 + nI 1), .int (x3 + (nI 1)), .int (x3 + nI 1)]) (st' := []) (E' := E3) (I' := I3) (J' := J3) (S' := S3) am_e66 rfl rfl rfl rfl ?_
          exact h
        · replace h := h.2 (of_decide_eq_false c)
          refine w_st (i' := 29) (ls' := [.ref 1, .int x1, .int x2, .int x3]) (st' := [.int x1]) (E' := E3) (I' := I3) (J' := J3) (S' := S3) am_e66 rfl rfl rfl rfl ?_
          exact w_ri am_e66 rfl rfl h
-- 74 isSpelled
theorem g74_0 {p1 : Int32} {E : am_Ev} {I : Nat → Nat → Int32} {J : Nat → Nat → Int64} {S : Nat → Nat → Option Nat} {Q : am_Qt}  (h : am_ww 74 3 [.ref 1, .int p1, .int ((I 1) 4)] [] E I J S Q) : am_ww 74 0 [.ref 1, .int p1, am_U] [] E I J S Q := by
  refine w_st (i' := 1) (ls' := [.ref 1, .int p1, am_U]) (st' := [.ref 1]) (E' := E) (I' := I) (J' := J) (S' := S) am_e74 rfl rfl rfl rfl ?_
  refine w_st (i' := 2) (ls' := [.ref 1, .int p1, am_U]) (st' := [.int ((I 1) 4)]) (E' := E) (I' := I) (J' := J) (S' := S) am_e74 rfl rfl rfl rfl ?_
  refine w_st (i' := 3) (ls' := [.ref 1, .int p1, .int ((I 1) 4)]) (st' := []) (E' := E) (I' := I) (J' := J) (S' := S) am_e74 rfl rfl rfl rfl ?_
  exact h
theorem g74_3 {x1 : Int32} {x2 : Int32} {E : am_Ev} {I : Nat → Nat → Int32} {J : Nat → Nat → Int64} {S : Nat → Nat → Option Nat} {Q : am_Qt}  (h : (((I 1) 5) ≤ x2 → (Q (.inl (some (.int (nI 1)))) E I J S)) ∧ (¬ ((I 1) 5) ≤ x2 → (vp_in x2 700 ∧ (am_cl 69 [.ref 2000002, .int ((x1 + x2) - ((I 1) 4))] E I J S (q_I fun v2 E2 I2 J2 S2 => (((I 2) x2.toNatClampNeg) = v2 → (am_ww 74 3 [.ref 1, .int x1, .int (x2 + nI 1)] [] E2 I2 J2 S2 Q)) ∧ (¬ ((I 2) x2.toNatClampNeg) = v2 → (Q (.inl (some (.int (nI 0)))) E2 I2 J2 S2))))))) : am_ww 74 3 [.ref 1, .int x1, .int x2] [] E I J S Q := by
  refine w_st (i' := 4) (ls' := [.ref 1, .int x1, .int x2]) (st' := [.int x2]) (E' := E) (I' := I) (J' := J) (S' := S) am_e74 rfl rfl rfl rfl ?_
  refine w_st (i' := 5) (ls' := [.ref 1, .int x1, .int x2]) (st' := [.ref 1, .int x2]) (E' := E) (I' := I) (J' := J) (S' := S) am_e74 rfl rfl rfl rfl ?_
  refine w_st (i' := 6) (ls' := [.ref 1, .int x1, .int x2]) (st' := [.int ((I 1) 5), .int x2]) (E' := E) (I' := I) (J' := J) (S' := S) am_e74 rfl rfl rfl rfl ?_
  refine w_if2 am_e74 rfl rfl (fun c => ?_) (fun c => ?_)
  · replace h := h.1 (of_decide_eq_true c)
    refine w_st (i' := 25) (ls' := [.ref 1, .int x1, .int x2]) (st' := [.int (nI 1)]) (E' := E) (I' := I) (J' := J) (S' := S) am_e74 rfl rfl rfl rfl ?_
    exact w_end am_e74 rfl rfl rfl h
  · replace h := h.2 (of_decide_eq_false c)
    refine w_st (i' := 8) (ls' := [.ref 1, .int x1, .int x2]) (st' := [.ref 1]) (E' := E) (I' := I) (J' := J) (S' := S) am_e74 rfl rfl rfl rfl ?_
    refine w_st (i' := 9) (ls' := [.ref 1, .int x1, .int x2]) (st' := [.ref 2]) (E' := E) (I' := I) (J' := J) (S' := S) am_e74 rfl rfl rfl rfl ?_
    refine w_st (i' := 10) (ls' := [.ref 1, .int x1, .int x2]) (st' := [.int x2, .ref 2]) (E' := E) (I' := I) (J' := J) (S' := S) am_e74 rfl rfl rfl rfl ?_
    have hf1 := h.1
    replace h := h.2
    refine w_ba (k := 2) (n := 700) (jn := x2.toNatClampNeg) am_e74 rfl rfl (by decide) hf1 rfl ?_
    refine w_st (i' := 12) (ls' := [.ref 1, .int x1, .int x2]) (st' := [.ref 2000002, .int ((I 2) x2.toNatClampNeg)]) (E' := E) (I' := I) (J' := J) (S' := S) am_e74 rfl rfl rfl rfl ?_
    refine w_st (i' := 13) (ls' := [.ref 1, .int x1, .int x2]) (st' := [.int x1, .ref 2000002, .int ((I 2) x2.toNatClampNeg)]) (E' := E) (I' := I) (J' := J) (S' := S) am_e74 rfl rfl rfl rfl ?_
    refine w_st (i' := 14) (ls' := [.ref 1, .int x1, .int x2]) (st' := [.int x2, .int x1, .ref 2000002, .int ((I 2) x2.toNatClampNeg)]) (E' := E) (I' := I) (J' := J) (S' := S) am_e74 rfl rfl rfl rfl ?_
    refine w_st (i' := 15) (ls' := [.ref 1, .int x1, .int x2]) (st' := [.int (x1 + x2), .ref 2000002, .int ((I 2) x2.toNatClampNeg)]) (E' := E) (I' := I) (J' := J) (S' := S) am_e74 rfl rfl rfl rfl ?_
    refine w_st (i' := 16) (ls' := [.ref 1, .int x1, .int x2]) (st' := [.ref 1, .int (x1 + x2), .ref 2000002, .int ((I 2) x2.toNatClampNeg)]) (E' := E) (I' := I) (J' := J) (S' := S) am_e74 rfl rfl rfl rfl ?_
    refine w_st (i' := 17) (ls' := [.ref 1, .int x1, .int x2]) (st' := [.int ((I 1) 4), .int (x1 + x2), .ref 2000002, .int ((I 2) x2.toNatClampNeg)]) (E' := E) (I' := I) (J' := J) (S' := S) am_e74 rfl rfl rfl rfl ?_
    refine w_st (i' := 18) (ls' := [.ref 1, .int x1, .int x2]) (st' := [.int ((x1 + x2) - ((I 1) 4)), .ref 2000002, .int ((I 2) x2.toNatClampNeg)]) (E' := E) (I' := I) (J' := J) (S' := S) am_e74 rfl rfl rfl rfl ?_
    refine w_cI am_e74 rfl rfl (as := [.ref 2000002, .int ((x1 + x2) - ((I 1) 4))]) (rest := [.int ((I 2) x2.toNatClampNeg)]) rfl rfl (am_ww.mono h ?_)
    rintro _ E2 I2 J2 S2 ⟨v2, rfl, h⟩
    refine q_mkI ?_
    refine w_if2 am_e74 rfl rfl (fun c => ?_) (fun c => ?_)
    · replace h := h.1 (of_decide_eq_true c)
      refine w_st (i' := 23) (ls' := [.ref 1, .int x1, .int (x2 + nI 1)]) (st' := []) (E' := E2) (I' := I2) (J' := J2) (S' := S2) am_e74 rfl rfl rfl rfl ?_
      refine w_st (i' := 3) (ls' := [.ref 1, .int x1, .int (x2 + nI 1)]) (st' := []) (E' := E2) (I' := I2) (J' := J2) (S' := S2) am_e74 rfl rfl rfl rfl ?_
      exact h
    · replace h := h.2 (of_decide_eq_false c)
      refine w_st (i' := 21) (ls' := [.ref 1, .int x1, .int x2]) (st' := [.int (nI 0)]) (E' := E2) (I' := I2) (J' := J2) (S' := S2) am_e74 rfl rfl rfl rfl ?_
      exact w_end am_e74 rfl rfl rfl h
-- 76 findNumber
theorem g76_0 {p1 : Int32} {E : am_Ev} {I : Nat → Nat → Int32} {J : Nat → Nat → Int64} {S : Nat → Nat → Option Nat} {Q : am_Qt}  (h : am_ww 76 10 [.ref 1, .int p1] [] E (u_I I 1 (upd (upd (upd (I 1) 6 (nI 3)) 7 (nI 0)) 5 ((I 1) 4))) J S Q) : am_ww 76 0 [.ref 1, .int p1] [] E I J S Q := by
  refine w_st (i' := 1) (ls' := [.ref 1, .int p1]) (st' := [.ref 1]) (E' := E) (I' := I) (J' := J) (S' := S) am_e76 rfl rfl rfl rfl ?_
  refine w_st (i' := 2) (ls' := [.ref 1, .int p1]) (st' := [.int (nI 3), .ref 1]) (E' := E) (I' := I) (J' := J) (S' := S) am_e76 rfl rfl rfl rfl ?_
  refine w_st (i' := 3) (ls' := [.ref 1, .int p1]) (st' := []) (E' := E) (I' := (u_I I 1 (upd (I 1) 6 (nI 3)))) (J' := J) (S' := S) am_e76 rfl rfl rfl rfl ?_
  refine w_st (i' := 4) (ls' := [.ref 1, .int p1]) (st' := [.ref 1]) (E' := E) (I' := (u_I I 1 (upd (I 1) 6 (nI 3)))) (J' := J) (S' := S) am_e76 rfl rfl rfl rfl ?_
  refine w_st (i' := 5) (ls' := [.ref 1, .int p1]) (st' := [.int (nI 0), .ref 1]) (E' := E) (I' := (u_I I 1 (upd (I 1) 6 (nI 3)))) (J' := J) (S' := S) am_e76 rfl rfl rfl rfl ?_
  refine w_st (i' := 6) (ls' := [.ref 1, .int p1]) (st' := []) (E' := E) (I' := (u_I (u_I I 1 (upd (I 1) 6 (nI 3))) 1 (upd (upd (I 1) 6 (nI 3)) 7 (nI 0)))) (J' := J) (S' := S) am_e76 rfl rfl rfl rfl ?_
  refine w_eI (uI_0 ..) ?_
  show am_ww 76 6 [.ref 1, .int p1] [] E (u_I I 1 (upd (upd (I 1) 6 (nI 3)) 7 (nI 0))) J S _
  refine w_st (i' := 7) (ls' := [.ref 1, .int p1]) (st' := [.ref 1]) (E' := E) (I' := (u_I I 1 (upd (upd (I 1) 6 (nI 3)) 7 (nI 0)))) (J' := J) (S' := S) am_e76 rfl rfl rfl rfl ?_
  refine w_st (i' := 8) (ls' := [.ref 1, .int p1]) (st' := [.ref 1, .ref 1]) (E' := E) (I' := (u_I I 1 (upd (upd (I 1) 6 (nI 3)) 7 (nI 0)))) (J' := J) (S' := S) am_e76 rfl rfl rfl rfl ?_
  refine w_st (i' := 9) (ls' := [.ref 1, .int p1]) (st' := [.int ((I 1) 4), .ref 1]) (E' := E) (I' := (u_I I 1 (upd (upd (I 1) 6 (nI 3)) 7 (nI 0)))) (J' := J) (S' := S) am_e76 rfl rfl rfl rfl ?_
  refine w_st (i' := 10) (ls' := [.ref 1, .int p1]) (st' := []) (E' := E) (I' := (u_I (u_I I 1 (upd (upd (I 1) 6 (nI 3)) 7 (nI 0))) 1 (upd (upd (upd (I 1) 6 (nI 3)) 7 (nI 0)) 5 ((I 1) 4)))) (J' := J) (S' := S) am_e76 rfl rfl rfl rfl ?_
  refine w_eI (uI_0 ..) ?_
  show am_ww 76 10 [.ref 1, .int p1] [] E (u_I I 1 (upd (upd (upd (I 1) 6 (nI 3)) 7 (nI 0)) 5 ((I 1) 4))) J S _
  exact h
theorem g76_10 {x1 : Int32} {E : am_Ev} {I : Nat → Nat → Int32} {J : Nat → Nat → Int64} {S : Nat → Nat → Option Nat} {Q : am_Qt}  (h : (x1 ≤ ((I 1) 5) → (Q (.inl none) E I J S)) ∧ (¬ x1 ≤ ((I 1) 5) → (vp_in ((I 1) 5) 700 ∧ (∀ w2 : Int32, w2 = ((I 2) (((I 1) 5).toNatClampNeg)) → ((w2 < (nI 48) → (Q (.inl none) E I J S)) ∧ (¬ w2 < (nI 48) → (((nI 57) < w2 → (Q (.inl none) E I J S)) ∧ (¬ (nI 57) < w2 → (∀ w4 : Int32, w4 = (if (nI 4) ≤ (((I 1) 5) - ((I 1) 4)) then (-1) else (((((I 1) 7) * (nI 10)) + ((I 2) (((I 1) 5).toNatClampNeg))) - (nI 48))) → (am_ww 76 10 [.ref 1, .int x1] [] E (u_I I 1 (upd (upd (I 1) 7 w4) 5 (((I 1) 5) + (nI 1)))) J S Q)))))))))) : am_ww 76 10 [.ref 1, .int x1] [] E I J S Q := by
  refine w_st (i' := 11) (ls' := [.ref 1, .int x1]) (st' := [.ref 1]) (E' := E) (I' := I) (J' := J) (S' := S) am_e76 rfl rfl rfl rfl ?_
  refine w_st (i' := 12) (ls' := [.ref 1, .int x1]) (st' := [.int ((I 1) 5)]) (E' := E) (I' := I) (J' := J) (S' := S) am_e76 rfl rfl rfl rfl ?_
  refine w_st (i' := 13) (ls' := [.ref 1, .int x1]) (st' := [.int x1, .int ((I 1) 5)]) (E' := E) (I' := I) (J' := J) (S' := S) am_e76 rfl rfl rfl rfl ?_
  refine w_if2 am_e76 rfl rfl (fun c => ?_) (fun c => ?_)
  · replace h := h.1 (of_decide_eq_true c)
    exact w_end am_e76 rfl rfl rfl h
  · replace h := h.2 (of_decide_eq_false c)
    refine w_st (i' := 15) (ls' := [.ref 1, .int x1]) (st' := [.ref 1]) (E' := E) (I' := I) (J' := J) (S' := S) am_e76 rfl rfl rfl rfl ?_
    refine w_st (i' := 16) (ls' := [.ref 1, .int x1]) (st' := [.ref 2]) (E' := E) (I' := I) (J' := J) (S' := S) am_e76 rfl rfl rfl rfl ?_
    refine w_st (i' := 17) (ls' := [.ref 1, .int x1]) (st' := [.ref 1, .ref 2]) (E' := E) (I' := I) (J' := J) (S' := S) am_e76 rfl rfl rfl rfl ?_
    refine w_st (i' := 18) (ls' := [.ref 1, .int x1]) (st' := [.int ((I 1) 5), .ref 2]) (E' := E) (I' := I) (J' := J) (S' := S) am_e76 rfl rfl rfl rfl ?_
    have hf1 := h.1
    replace h := h.2
    refine w_ba (k := 2) (n := 700) (jn := ((I 1) 5).toNatClampNeg) am_e76 rfl rfl (by decide) hf1 rfl ?_
    refine w_cI am_e76 rfl rfl (as := [.int ((I 2) (((I 1) 5).toNatClampNeg))]) (rest := []) rfl rfl ?_
    show am_ww 75 0 [.int ((I 2) (((I 1) 5).toNatClampNeg))] [] E I J S _
    refine w_var (fun w2 => am_ww 75 0 [.int w2] [] E I J S _) ((I 2) (((I 1) 5).toNatClampNeg)) (fun w2 hw2 => ?_)
    replace h := h w2 hw2
    refine w_st (i' := 1) (ls' := [.int w2]) (st' := [.int w2]) (E' := E) (I' := I) (J' := J) (S' := S) am_e75 rfl rfl rfl rfl ?_
    refine w_st (i' := 2) (ls' := [.int w2]) (st' := [.int (nI 48), .int w2]) (E' := E) (I' := I) (J' := J) (S' := S) am_e75 rfl rfl rfl rfl ?_
    refine w_if2 am_e75 rfl rfl (fun c => ?_) (fun c => ?_)
    · replace h := h.1 (of_decide_eq_true c)
      refine w_st (i' := 9) (ls' := [.int w2]) (st' := [.int (nI 0)]) (E' := E) (I' := I) (J' := J) (S' := S) am_e75 rfl rfl rfl rfl ?_
      refine w_end (E' := E) (I' := I) (J' := J) (S' := S) am_e75 rfl rfl rfl (q_mkI ?_)
      show am_ww 76 20 [.ref 1, .int x1] [.int (nI 0)] E I J S _
      refine w_st (i' := 51) (ls' := [.ref 1, .int x1]) (st' := []) (E' := E) (I' := I) (J' := J) (S' := S) am_e76 rfl rfl rfl rfl ?_
      exact w_end am_e76 rfl rfl rfl h
    · replace h := h.2 (of_decide_eq_false c)
      refine w_st (i' := 4) (ls' := [.int w2]) (st' := [.int w2]) (E' := E) (I' := I) (J' := J) (S' := S) am_e75 rfl rfl rfl rfl ?_
      refine w_st (i' := 5) (ls' := [.int w2]) (st' := [.int (nI 57), .int w2]) (E' := E) (I' := I) (J' := J) (S' := S) am_e75 rfl rfl rfl rfl ?_
      refine w_if2 am_e75 rfl rfl (fun c => ?_) (fun c => ?_)
      · replace h := h.1 (of_decide_eq_true c)
        refine w_st (i' := 9) (ls' := [.int w2]) (st' := [.int (nI 0)]) (E' := E) (I' := I) (J' := J) (S' := S) am_e75 rfl rfl rfl rfl ?_
        refine w_end (E' := E) (I' := I) (J' := J) (S' := S) am_e75 rfl rfl rfl (q_mkI ?_)
        show am_ww 76 20 [.ref 1, .int x1] [.int (nI 0)] E I J S _
        refine w_st (i' := 51) (ls' := [.ref 1, .int x1]) (st' := []) (E' := E) (I' := I) (J' := J) (S' := S) am_e76 rfl rfl rfl rfl ?_
        exact w_end am_e76 rfl rfl rfl h
      · replace h := h.2 (of_decide_eq_false c)
        refine w_st (i' := 7) (ls' := [.int w2]) (st' := [.int (nI 1)]) (E' := E) (I' := I) (J' := J) (S' := S) am_e75 rfl rfl rfl rfl ?_
        refine w_st (i' := 9) (ls' := [.int w2]) (st' := [.int (nI 1)]) (E' := E) (I' := I) (J' := J) (S' := S) am_e75 rfl rfl rfl rfl ?_
        refine w_end (E' := E) (I' := I) (J' := J) (S' := S) am_e75 rfl rfl rfl (q_mkI ?_)
        show am_ww 76 20 [.ref 1, .int x1] [.int (nI 1)] E I J S _
        refine w_st (i' := 21) (ls' := [.ref 1, .int x1]) (st' := []) (E' := E) (I' := I) (J' := J) (S' := S) am_e76 rfl rfl rfl rfl ?_
        refine w_st (i' := 22) (ls' := [.ref 1, .int x1]) (st' := [.ref 1]) (E' := E) (I' := I) (J' := J) (S' := S) am_e76 rfl rfl rfl rfl ?_
        refine w_st (i' := 23) (ls' := [.ref 1, .int x1]) (st' := [.ref 1, .ref 1]) (E' := E) (I' := I) (J' := J) (S' := S) am_e76 rfl rfl rfl rfl ?_
        refine w_st (i' := 24) (ls' := [.ref 1, .int x1]) (st' := [.int ((I 1) 5), .ref 1]) (E' := E) (I' := I) (J' := J) (S' := S) am_e76 rfl rfl rfl rfl ?_
        refine w_st (i' := 25) (ls' := [.ref 1, .int x1]) (st' := [.ref 1, .int ((I 1) 5), .ref 1]) (E' := E) (I' := I) (J' := J) (S' := S) am_e76 rfl rfl rfl rfl ?_
        refine w_st (i' := 26) (ls' := [.ref 1, .int x1]) (st' := [.int ((I 1) 4), .int ((I 1) 5), .ref 1]) (E' := E) (I' := I) (J' := J) (S' := S) am_e76 rfl rfl rfl rfl ?_
        refine w_st (i' := 27) (ls' := [.ref 1, .int x1]) (st' := [.int (((I 1) 5) - ((I 1) 4)), .ref 1]) (E' := E) (I' := I) (J' := J) (S' := S) am_e76 rfl rfl rfl rfl ?_
        refine w_st (i' := 28) (ls' := [.ref 1, .int x1]) (st' := [.int (nI 4), .int (((I 1) 5) - ((I 1) 4)), .ref 1]) (E' := E) (I' := I) (J' := J) (S' := S) am_e76 rfl rfl rfl rfl ?_
        refine w_mg (i := 43) (ls' := [.ref 1, .int x1]) (st' := [.int (if (nI 4) ≤ (((I 1) 5) - ((I 1) 4)) then (-1) else (((((I 1) 7) * (nI 10)) + ((I 2) (((I 1) 5).toNatClampNeg))) - (nI 48))), .ref 1]) (fun hm => ?_) ?_
        · clear h
          refine w_if2 am_e76 rfl rfl (fun c => ?_) (fun c => ?_)
          · have m3 : (nI 4) ≤ (((I 1) 5) - ((I 1) 4)) := (of_decide_eq_true c)
            refine w_st (i' := 43) (ls' := [.ref 1, .int x1]) (st' := [.int (-1), .ref 1]) (E' := E) (I' := I) (J' := J) (S' := S) am_e76 rfl rfl rfl rfl ?_
            first | exact hm | (simp only [if_pos m3] at hm; exact hm)
          · have m3 : ¬ ((nI 4) ≤ (((I 1) 5) - ((I 1) 4))) := (of_decide_eq_false c)
            refine w_st (i' := 30) (ls' := [.ref 1, .int x1]) (st' := [.ref 1, .ref 1]) (E' := E) (I' := I) (J' := J) (S' := S) am_e76 rfl rfl rfl rfl ?_
            refine w_st (i' := 31) (ls' := [.ref 1, .int x1]) (st' := [.int ((I 1) 7), .ref 1]) (E' := E) (I' := I) (J' := J) (S' := S) am_e76 rfl rfl rfl rfl ?_
            refine w_st (i' := 32) (ls' := [.ref 1, .int x1]) (st' := [.int (nI 10), .int ((I 1) 7), .ref 1]) (E' := E) (I' := I) (J' := J) (S' := S) am_e76 rfl rfl rfl rfl ?_
            refine w_st (i' := 33) (ls' := [.ref 1, .int x1]) (st' := [.int (((I 1) 7) * (nI 10)), .ref 1]) (E' := E) (I' := I) (J' := J) (S' := S) am_e76 rfl rfl rfl rfl ?_
            refine w_st (i' := 34) (ls' := [.ref 1, .int x1]) (st' := [.ref 1, .int (((I 1) 7) * (nI 10)), .ref 1]) (E' := E) (I' := I) (J' := J) (S' := S) am_e76 rfl rfl rfl rfl ?_
            refine w_st (i' := 35) (ls' := [.ref 1, .int x1]) (st' := [.ref 2, .int (((I 1) 7) * (nI 10)), .ref 1]) (E' := E) (I' := I) (J' := J) (S' := S) am_e76 rfl rfl rfl rfl ?_
            refine w_st (i' := 36) (ls' := [.ref 1, .int x1]) (st' := [.ref 1, .ref 2, .int (((I 1) 7) * (nI 10)), .ref 1]) (E' := E) (I' := I) (J' := J) (S' := S) am_e76 rfl rfl rfl rfl ?_
            refine w_st (i' := 37) (ls' := [.ref 1, .int x1]) (st' := [.int ((I 1) 5), .ref 2, .int (((I 1) 7) * (nI 10)), .ref 1]) (E' := E) (I' := I) (J' := J) (S' := S) am_e76 rfl rfl rfl rfl ?_
            refine w_ba (k := 2) (n := 700) (jn := ((I 1) 5).toNatClampNeg) am_e76 rfl rfl (by decide) hf1 rfl ?_
            show am_ww 76 38 [.ref 1, .int x1] [.int ((I 2) (((I 1) 5).toNatClampNeg)), .int (((I 1) 7) * (nI 10)), .ref 1] E I J S _
            refine w_st (i' := 39) (ls' := [.ref 1, .int x1]) (st' := [.int ((((I 1) 7) * (nI 10)) + ((I 2) (((I 1) 5).toNatClampNeg))), .ref 1]) (E' := E) (I' := I) (J' := J) (S' := S) am_e76 rfl rfl rfl rfl ?_
            refine w_st (i' := 40) (ls' := [.ref 1, .int x1]) (st' := [.int (nI 48), .int ((((I 1) 7) * (nI 10)) + ((I 2) (((I 1) 5).toNatClampNeg))), .ref 1]) (E' := E) (I' := I) (J' := J) (S' := S) am_e76 rfl rfl rfl rfl ?_
            refine w_st (i' := 41) (ls' := [.ref 1, .int x1]) (st' := [.int (((((I 1) 7) * (nI 10)) + ((I 2) (((I 1) 5).toNatClampNeg))) - (nI 48)), .ref 1]) (E' := E) (I' := I) (J' := J) (S' := S) am_e76 rfl rfl rfl rfl ?_
            refine w_st (i' := 43) (ls' := [.ref 1, .int x1]) (st' := [.int (((((I 1) 7) * (nI 10)) + ((I 2) (((I 1) 5).toNatClampNeg))) - (nI 48)), .ref 1]) (E' := E) (I' := I) (J' := J) (S' := S) am_e76 rfl rfl rfl rfl ?_
            first | exact hm | (simp only [if_neg m3] at hm; exact hm)
        refine w_var (fun w4 => am_ww 76 43 [.ref 1, .int x1] [.int w4, .ref 1] E I J S _) (if (nI 4) ≤ (((I 1) 5) - ((I 1) 4)) then (-1) else (((((I 1) 7) * (nI 10)) + ((I 2) (((I 1) 5).toNatClampNeg))) - (nI 48))) (fun w4 hw4 => ?_)
        replace h := h w4 hw4
        refine w_st (i' := 44) (ls' := [.ref 1, .int x1]) (st' := []) (E' := E) (I' := (u_I I 1 (upd (I 1) 7 w4))) (J' := J) (S' := S) am_e76 rfl rfl rfl rfl ?_
        refine w_st (i' := 45) (ls' := [.ref 1, .int x1]) (st' := [.ref 1]) (E' := E) (I' := (u_I I 1 (upd (I 1) 7 w4))) (J' := J) (S' := S) am_e76 rfl rfl rfl rfl ?_
        refine w_st (i' := 46) (ls' := [.ref 1, .int x1]) (st' := [.ref 1, .ref 1]) (E' := E) (I' := (u_I I 1 (upd (I 1) 7 w4))) (J' := J) (S' := S) am_e76 rfl rfl rfl rfl ?_
        refine w_st (i' := 47) (ls' := [.ref 1, .int x1]) (st' := [.int ((I 1) 5), .ref 1]) (E' := E) (I' := (u_I I 1 (upd (I 1) 7 w4))) (J' := J) (S' := S) am_e76 rfl rfl rfl rfl ?_
        refine w_st (i' := 48) (ls' := [.ref 1, .int x1]) (st' := [.int (nI 1), .int ((I 1) 5), .ref 1]) (E' := E) (I' := (u_I I 1 (upd (I 1) 7 w4))) (J' := J) (S' := S) am_e76 rfl rfl rfl rfl ?_
        refine w_st (i' := 49) (ls' := [.ref 1, .int x1]) (st' := [.int (((I 1) 5) + (nI 1)), .ref 1]) (E' := E) (I' := (u_I I 1 (upd (I 1) 7 w4))) (J' := J) (S' := S) am_e76 rfl rfl rfl rfl ?_
        refine w_st (i' := 50) (ls' := [.ref 1, .int x1]) (st' := []) (E' := E) (I' := (u_I (u_I I 1 (upd (I 1) 7 w4)) 1 (upd (upd (I 1) 7 w4) 5 (((I 1) 5) + (nI 1))))) (J' := J) (S' := S) am_e76 rfl rfl rfl rfl ?_
        refine w_eI (uI_0 ..) ?_
        show am_ww 76 50 [.ref 1, .int x1] [] E (u_I I 1 (upd (upd (I 1) 7 w4) 5 (((I 1) 5) + (nI 1)))) J S _
        refine w_st (i' := 10) (ls' := [.ref 1, .int x1]) (st' := []) (E' := E) (I' := (u_I I 1 (upd (upd (I 1) 7 w4) 5 (((I 1) 5) + (nI 1))))) (J' := J) (S' := S) am_e76 rfl rfl rfl rfl ?_
        exact h
-- 77 take
theorem g77_0  {E : am_Ev} {I : Nat → Nat → Int32} {J : Nat → Nat → Int64} {S : Nat → Nat → Option Nat} {Q : am_Qt}  (h : (((I 1) 10) = nI 0 → (am_cl 78 [.ref 1] E I J S (q_I fun v1 E1 I1 J1 S1 => Q (.inl (some (.int v1))) E1 I1 J1 S1))) ∧ (((I 1) 10) = nI 1 → (am_cl 82 [.ref 1] E I J S (q_I fun v2 E2 I2 J2 S2 => Q (.inl (some (.int v2))) E2 I2 J2 S2))) ∧ (((I 1) 10) = nI 2 → (am_cl 89 [.ref 1] E I J S (q_I fun v3 E3 I3 J3 S3 => Q (.inl (some (.int v3))) E3 I3 J3 S3))) ∧ (((I 1) 10) = nI 3 → (am_cl 93 [.ref 1] E I J S (q_I fun v4 E4 I4 J4 S4 => Q (.inl (some (.int v4))) E4 I4 J4 S4))) ∧ (((I 1) 10) = nI 4 → (am_cl 90 [.ref 1] E I J S (q_I fun v5 E5 I5 J5 S5 => Q (.inl (some (.int v5))) E5 I5 J5 S5))) ∧ (¬ ((I 1) 10) = nI 0 → ¬ ((I 1) 10) = nI 1 → ¬ ((I 1) 10) = nI 2 → ¬ ((I 1) 10) = nI 3 → ¬ ((I 1) 10) = nI 4 → (am_cl 94 [.ref 1] E I J S (q_I fun v6 E6 I6 J6 S6 => Q (.inl (some (.int v6))) E6 I6 J6 S6)))) : am_ww 77 0 [.ref 1] [] E I J S Q := by
  refine w_st (i' := 1) (ls' := [.ref 1]) (st' := [.ref 1]) (E' := E) (I' := I) (J' := J) (S' := S) am_e77 rfl rfl rfl rfl ?_
  refine w_st (i' := 2) (ls' := [.ref 1]) (st' := [.int ((I 1) 10)]) (E' := E) (I' := I) (J' := J) (S' := S) am_e77 rfl rfl rfl rfl ?_
  refine w_tb am_e77 rfl ?_
  by_cases c0 : ((I 1) 10) = nI 0
  · replace h := h.1 c0
    refine w_to (i2 := 3) (by rw [c0]; first | done | rfl) ?_
    refine w_st (i' := 4) (ls' := [.ref 1]) (st' := [.ref 1]) (E' := E) (I' := I) (J' := J) (S' := S) am_e77 rfl rfl rfl rfl ?_
    refine w_cI am_e77 rfl rfl (as := [.ref 1]) (rest := []) rfl rfl (am_ww.mono h ?_)
    rintro _ E1 I1 J1 S1 ⟨v1, rfl, h⟩
    refine q_mkI ?_
    exact w_ri am_e77 rfl rfl h
  by_cases c1 : ((I 1) 10) = nI 1
  · replace h := h.2.1 c1
    refine w_to (i2 := 6) (by rw [c1]; first | done | rfl) ?_
    refine w_st (i' := 7) (ls' := [.ref 1]) (st' := [.ref 1]) (E' := E) (I' := I) (J' := J) (S' := S) am_e77 rfl rfl rfl rfl ?_
    refine w_cI am_e77 rfl rfl (as := [.ref 1]) (rest := []) rfl rfl (am_ww.mono h ?_)
    rintro _ E2 I2 J2 S2 ⟨v2, rfl, h⟩
    refine q_mkI ?_
    exact w_ri am_e77 rfl rfl h
  by_cases c2 : ((I 1) 10) = nI 2
  · replace h := h.2.2.1 c2
    refine w_to (i2 := 9) (by rw [c2]; first | done | rfl) ?_
    refine w_st (i' := 10) (ls' := [.ref 1]) (st' := [.ref 1]) (E' := E) (I' := I) (J' := J) (S' := S) am_e77 rfl rfl rfl rfl ?_
    refine w_cI am_e77 rfl rfl (as := [.ref 1]) (rest := []) rfl rfl (am_ww.mono h ?_)
    rintro _ E3 I3 J3 S3 ⟨v3, rfl, h⟩
    refine q_mkI ?_
    exact w_ri am_e77 rfl rfl h
  by_cases c3 : ((I 1) 10) = nI 3
  · replace h := h.2.2.2.1 c3
    refine w_to (i2 := 12) (by rw [c3]; first | done | rfl) ?_
    refine w_st (i' := 13) (ls' := [.ref 1]) (st' := [.ref 1]) (E' := E) (I' := I) (J' := J) (S' := S) am_e77 rfl rfl rfl rfl ?_
    refine w_cI am_e77 rfl rfl (as := [.ref 1]) (rest := []) rfl rfl (am_ww.mono h ?_)
    rintro _ E4 I4 J4 S4 ⟨v4, rfl, h⟩
    refine q_mkI ?_
    exact w_ri am_e77 rfl rfl h
  by_cases c4 : ((I 1) 10) = nI 4
  · replace h := h.2.2.2.2.1 c4
    refine w_to (i2 := 15) (by rw [c4]; first | done | rfl) ?_
    refine w_st (i' := 16) (ls' := [.ref 1]) (st' := [.ref 1]) (E' := E) (I' := I) (J' := J) (S' := S) am_e77 rfl rfl rfl rfl ?_
    refine w_cI am_e77 rfl rfl (as := [.ref 1]) (rest := []) rfl rfl (am_ww.mono h ?_)
    rintro _ E5 I5 J5 S5 ⟨v5, rfl, h⟩
    refine q_mkI ?_
    exact w_ri am_e77 rfl rfl h
  replace h := h.2.2.2.2.2 c0 c1 c2 c3 c4
  refine w_to (i2 := 18) (am_tb_out (lo := 0) (up := 4) (by intro q h1 h2; have : q = 0 ∨ q = 1 ∨ q = 2 ∨ q = 3 ∨ q = 4 := (by omega); rcases this with rfl | rfl | rfl | rfl | rfl <;> assumption)) ?_
  refine w_st (i' := 19) (ls' := [.ref 1]) (st' := [.ref 1]) (E' := E) (I' := I) (J' := J) (S' := S) am_e77 rfl rfl rfl rfl ?_
  refine w_cI am_e77 rfl rfl (as := [.ref 1]) (rest := []) rfl rfl (am_ww.mono h ?_)
  rintro _ E6 I6 J6 S6 ⟨v6, rfl, h⟩
  refine q_mkI ?_
  exact w_ri am_e77 rfl rfl h
-- 78 takeClause
theorem g78_0  {E : am_Ev} {I : Nat → Nat → Int32} {J : Nat → Nat → Int64} {S : Nat → Nat → Option Nat} {Q : am_Qt}  (h : (((I 1) 6) = (nI 2) → ((((I 1) 8) < 0 → (Q (.inl (some (.int (nI 1)))) E I J S)) ∧ (¬ ((I 1) 8) < 0 → ((((I 1) 8) ≤ (nI 5) → ((((I 1) 8) = (nI 5) → (am_cl 79 [.ref 1] E I J S (q_I fun v3 E3 I3 J3 S3 => Q (.inl (some (.int v3))) E3 I3 J3 S3))) ∧ (¬ ((I 1) 8) = (nI 5) → ((((I 1) 8) = (nI 4) → (am_cl 80 [.ref 1, .ref 2000003] E I J S (q_V fun E2 I2 J2 S2 => Q (.inl (some (.int (nI 0)))) E2 I2 J2 S2))) ∧ (¬ ((I 1) 8) = (nI 4) → (((((I 1) 16) &&& ((nI 1) <<< (((I 1) 8) &&& 31))) = 0 → (am_cl 80 [.ref 1, .ref 2000004] E (u_I I 1 (upd (upd (I 1) 16 (((I 1) 16) ||| ((nI 1) <<< (((I 1) 8) &&& 31)))) 15 ((I 1) 8))) J S (q_V fun E1 I1 J1 S1 => Q (.inl (some (.int (nI 0)))) E1 I1 J1 S1))) ∧ (¬ (((I 1) 16) &&& ((nI 1) <<< (((I 1) 8) &&& 31))) = 0 → (Q (.inl (some (.int (nI 5)))) E I J S)))))))) ∧ (¬ ((I 1) 8) ≤ (nI 5) → (Q (.inl (some (.int (nI 1)))) E I J S)))))) ∧ (¬ ((I 1) 6) = (nI 2) → (Q (.inl (some (.int (nI 1)))) E I J S))) : am_ww 78 0 [.ref 1] [] E I J S Q := by
  refine w_st (i' := 1) (ls' := [.ref 1]) (st' := [.ref 1]) (E' := E) (I' := I) (J' := J) (S' := S) am_e78 rfl rfl rfl rfl ?_
  refine w_st (i' := 2) (ls' := [.ref 1]) (st' := [.int ((I 1) 6)]) (E' := E) (I' := I) (J' := J) (S' := S) am_e78 rfl rfl rfl rfl ?_
  refine w_st (i' := 3) (ls' := [.ref 1]) (st' := [.int (nI 2), .int ((I 1) 6)]) (E' := E) (I' := I) (J' := J) (S' := S) am_e78 rfl rfl rfl rfl ?_
  refine w_if2 am_e78 rfl rfl (fun c => ?_) (fun c => ?_)
  · replace h := h.2 (of_decide_eq_true c)
    refine w_st (i' := 12) (ls' := [.ref 1]) (st' := [.int (nI 1)]) (E' := E) (I' := I) (J' := J) (S' := S) am_e78 rfl rfl rfl rfl ?_
    exact w_end am_e78 rfl rfl rfl h
  · replace h := h.1 (Decidable.not_not.mp (of_decide_eq_false c))
    refine w_st (i' := 5) (ls' := [.ref 1]) (st' := [.ref 1]) (E' := E) (I' := I) (J' := J) (S' := S) am_e78 rfl rfl rfl rfl ?_
    refine w_st (i' := 6) (ls' := [.ref 1]) (st' := [.int ((I 1) 8)]) (E' := E) (I' := I) (J' := J) (S' := S) am_e78 rfl rfl rfl rfl ?_
    refine w_if1 am_e78 rfl rfl (fun c => ?_) (fun c => ?_)
    · replace h := h.1 (of_decide_eq_true c)
      refine w_st (i' := 12) (ls' := [.ref 1]) (st' := [.int (nI 1)]) (E' := E) (I' := I) (J' := J) (S' := S) am_e78 rfl rfl rfl rfl ?_
      exact w_end am_e78 rfl rfl rfl h
    · replace h := h.2 (of_decide_eq_false c)
      refine w_st (i' := 8) (ls' := [.ref 1]) (st' := [.ref 1]) (E' := E) (I' := I) (J' := J) (S' := S) am_e78 rfl rfl rfl rfl ?_
      refine w_st (i' := 9) (ls' := [.ref 1]) (st' := [.int ((I 1) 8)]) (E' := E) (I' := I) (J' := J) (S' := S) am_e78 rfl rfl rfl rfl ?_
      refine w_st (i' := 10) (ls' := [.ref 1]) (st' := [.int (nI 5), .int ((I 1) 8)]) (E' := E) (I' := I) (J' := J) (S' := S) am_e78 rfl rfl rfl rfl ?_
      refine w_if2 am_e78 rfl rfl (fun c => ?_) (fun c => ?_)
      · replace h := h.1 (of_decide_eq_true c)
        refine w_st (i' := 14) (ls' := [.ref 1]) (st' := [.ref 1]) (E' := E) (I' := I) (J' := J) (S' := S) am_e78 rfl rfl rfl rfl ?_
        refine w_st (i' := 15) (ls' := [.ref 1]) (st' := [.int ((I 1) 8)]) (E' := E) (I' := I) (J' := J) (S' := S) am_e78 rfl rfl rfl rfl ?_
        refine w_st (i' := 16) (ls' := [.ref 1]) (st' := [.int (nI 5), .int ((I 1) 8)]) (E' := E) (I' := I) (J' := J) (S' := S) am_e78 rfl rfl rfl rfl ?_
        refine w_if2 am_e78 rfl rfl (fun c => ?_) (fun c => ?_)
        · replace h := h.2 (of_decide_eq_true c)
          refine w_st (i' := 21) (ls' := [.ref 1]) (st' := [.ref 1]) (E' := E) (I' := I) (J' := J) (S' := S) am_e78 rfl rfl rfl rfl ?_
          refine w_st (i' := 22) (ls' := [.ref 1]) (st' := [.int ((I 1) 8)]) (E' := E) (I' := I) (J' := J) (S' := S) am_e78 rfl rfl rfl rfl ?_
          refine w_st (i' := 23) (ls' := [.ref 1]) (st' := [.int (nI 4), .int ((I 1) 8)]) (E' := E) (I' := I) (J' := J) (S' := S) am_e78 rfl rfl rfl rfl ?_
          refine w_if2 am_e78 rfl rfl (fun c => ?_) (fun c => ?_)
          · replace h := h.2 (of_decide_eq_true c)
            refine w_st (i' := 30) (ls' := [.ref 1]) (st' := [.ref 1]) (E' := E) (I' := I) (J' := J) (S' := S) am_e78 rfl rfl rfl rfl ?_
            refine w_st (i' := 31) (ls' := [.ref 1]) (st' := [.int ((I 1) 16)]) (E' := E) (I' := I) (J' := J) (S' := S) am_e78 rfl rfl rfl rfl ?_
            refine w_st (i' := 32) (ls' := [.ref 1]) (st' := [.int (nI 1), .int ((I 1) 16)]) (E' := E) (I' := I) (J' := J) (S' := S) am_e78 rfl rfl rfl rfl ?_
            refine w_st (i' := 33) (ls' := [.ref 1]) (st' := [.ref 1, .int (nI 1), .int ((I 1) 16)]) (E' := E) (I' := I) (J' := J) (S' := S) am_e78 rfl rfl rfl rfl ?_
            refine w_st (i' := 34) (ls' := [.ref 1]) (st' := [.int ((I 1) 8), .int (nI 1), .int ((I 1) 16)]) (E' := E) (I' := I) (J' := J) (S' := S) am_e78 rfl rfl rfl rfl ?_
            refine w_st (i' := 35) (ls' := [.ref 1]) (st' := [.int ((nI 1) <<< (((I 1) 8) &&& 31)), .int ((I 1) 16)]) (E' := E) (I' := I) (J' := J) (S' := S) am_e78 rfl rfl rfl rfl ?_
            refine w_st (i' := 36) (ls' := [.ref 1]) (st' := [.int (((I 1) 16) &&& ((nI 1) <<< (((I 1) 8) &&& 31)))]) (E' := E) (I' := I) (J' := J) (S' := S) am_e78 rfl rfl rfl rfl ?_
            refine w_if1 am_e78 rfl rfl (fun c => ?_) (fun c => ?_)
            · replace h := h.1 (of_decide_eq_true c)
              refine w_st (i' := 40) (ls' := [.ref 1]) (st' := [.ref 1]) (E' := E) (I' := I) (J' := J) (S' := S) am_e78 rfl rfl rfl rfl ?_
              refine w_st (i' := 41) (ls' := [.ref 1]) (st' := [.ref 1, .ref 1]) (E' := E) (I' := I) (J' := J) (S' := S) am_e78 rfl rfl rfl rfl ?_
              refine w_st (i' := 42) (ls' := [.ref 1]) (st' := [.int ((I 1) 16), .ref 1]) (E' := E) (I' := I) (J' := J) (S' := S) am_e78 rfl rfl rfl rfl ?_
              refine w_st (i' := 43) (ls' := [.ref 1]) (st' := [.int (nI 1), .int ((I 1) 16), .ref 1]) (E' := E) (I' := I) (J' := J) (S' := S) am_e78 rfl rfl rfl rfl ?_
              refine w_st (i' := 44) (ls' := [.ref 1]) (st' := [.ref 1, .int (nI 1), .int ((I 1) 16), .ref 1]) (E' := E) (I' := I) (J' := J) (S' := S) am_e78 rfl rfl rfl rfl ?_
              refine w_st (i' := 45) (ls' := [.ref 1]) (st' := [.int ((I 1) 8), .int (nI 1), .int ((I 1) 16), .ref 1]) (E' := E) (I' := I) (J' := J) (S' := S) am_e78 rfl rfl rfl rfl ?_
              refine w_st (i' := 46) (ls' := [.ref 1]) (st' := [.int ((nI 1) <<< (((I 1) 8) &&& 31)), .int ((I 1) 16), .ref 1]) (E' := E) (I' := I) (J' := J) (S' := S) am_e78 rfl rfl rfl rfl ?_
              refine w_st (i' := 47) (ls' := [.ref 1]) (st' := [.int (((I 1) 16) ||| ((nI 1) <<< (((I 1) 8) &&& 31))), .ref 1]) (E' := E) (I' := I) (J' := J) (S' := S) am_e78 rfl rfl rfl rfl ?_
              refine w_st (i' := 48) (ls' := [.ref 1]) (st' := []) (E' := E) (I' := (u_I I 1 (upd (I 1) 16 (((I 1) 16) ||| ((nI 1) <<< (((I 1) 8) &&& 31)))))) (J' := J) (S' := S) am_e78 rfl rfl rfl rfl ?_
              refine w_st (i' := 49) (ls' := [.ref 1]) (st' := [.ref 1]) (E' := E) (I' := (u_I I 1 (upd (I 1) 16 (((I 1) 16) ||| ((nI 1) <<< (((I 1) 8) &&& 31)))))) (J' := J) (S' := S) am_e78 rfl rfl rfl rfl ?_
              refine w_st (i' := 50) (ls' := [.ref 1]) (st' := [.ref 1, .ref 1]) (E' := E) (I' := (u_I I 1 (upd (I 1) 16 (((I 1) 16) ||| ((nI 1) <<< (((I 1) 8) &&& 31)))))) (J' := J) (S' := S) am_e78 rfl rfl rfl rfl ?_
              refine w_st (i' := 51) (ls' := [.ref 1]) (st' := [.int ((I 1) 8), .ref 1]) (E' := E) (I' := (u_I I 1 (upd (I 1) 16 (((I 1) 16) ||| ((nI 1) <<< (((I 1) 8) &&& 31)))))) (J' := J) (S' := S) am_e78 rfl rfl rfl rfl ?_
              refine w_st (i' := 52) (ls' := [.ref 1]) (st' := []) (E' := E) (I' := (u_I (u_I I 1 (upd (I 1) 16 (((I 1) 16) ||| ((nI 1) <<< (((I 1) 8) &&& 31))))) 1 (upd (upd (I 1) 16 (((I 1) 16) ||| ((nI 1) <<< (((I 1) 8) &&& 31)))) 15 ((I 1) 8)))) (J' := J) (S' := S) am_e78 rfl rfl rfl rfl ?_
              refine w_eI (uI_0 ..) ?_
              show am_ww 78 52 [.ref 1] [] E (u_I I 1 (upd (upd (I 1) 16 (((I 1) 16) ||| ((nI 1) <<< (((I 1) 8) &&& 31)))) 15 ((I 1) 8))) J S _
              refine w_st (i' := 53) (ls' := [.ref 1]) (st' := [.ref 1]) (E' := E) (I' := (u_I I 1 (upd (upd (I 1) 16 (((I 1) 16) ||| ((nI 1) <<< (((I 1) 8) &&& 31)))) 15 ((I 1) 8)))) (J' := J) (S' := S) am_e78 rfl rfl rfl rfl ?_
              refine w_st (i' := 54) (ls' := [.ref 1]) (st' := [.ref 2000004, .ref 1]) (E' := E) (I' := (u_I I 1 (upd (upd (I 1) 16 (((I 1) 16) ||| ((nI 1) <<< (((I 1) 8) &&& 31)))) 15 ((I 1) 8)))) (J' := J) (S' := S) am_e78 rfl rfl rfl rfl ?_
              refine w_cV am_e78 rfl rfl (as := [.ref 1, .ref 2000004]) (rest := []) rfl rfl (am_ww.mono h ?_)
              rintro _ E1 I1 J1 S1 ⟨rfl, h⟩
              refine q_mkV ?_
              refine w_st (i' := 56) (ls' := [.ref 1]) (st' := [.int (nI 0)]) (E' := E1) (I' := I1) (J' := J1) (S' := S1) am_e78 rfl rfl rfl rfl ?_
              exact w_end am_e78 rfl rfl rfl h
            · replace h := h.2 (of_decide_eq_false c)
              refine w_st (i' := 38) (ls' := [.ref 1]) (st' := [.int (nI 5)]) (E' := E) (I' := I) (J' := J) (S' := S) am_e78 rfl rfl rfl rfl ?_
              exact w_end am_e78 rfl rfl rfl h
          · replace h := h.1 (Decidable.not_not.mp (of_decide_eq_false c))
            refine w_st (i' := 25) (ls' := [.ref 1]) (st' := [.ref 1]) (E' := E) (I' := I) (J' := J) (S' := S) am_e78 rfl rfl rfl rfl ?_
            refine w_st (i' := 26) (ls' := [.ref 1]) (st' := [.ref 2000003, .ref 1]) (E' := E) (I' := I) (J' := J) (S' := S) am_e78 rfl rfl rfl rfl ?_
            refine w_cV am_e78 rfl rfl (as := [.ref 1, .ref 2000003]) (rest := []) rfl rfl (am_ww.mono h ?_)
            rintro _ E2 I2 J2 S2 ⟨rfl, h⟩
            refine q_mkV ?_
            refine w_st (i' := 28) (ls' := [.ref 1]) (st' := [.int (nI 0)]) (E' := E2) (I' := I2) (J' := J2) (S' := S2) am_e78 rfl rfl rfl rfl ?_
            exact w_end am_e78 rfl rfl rfl h
        · replace h := h.1 (Decidable.not_not.mp (of_decide_eq_false c))
          refine w_st (i' := 18) (ls' := [.ref 1]) (st' := [.ref 1]) (E' := E) (I' := I) (J' := J) (S' := S) am_e78 rfl rfl rfl rfl ?_
          refine w_cI am_e78 rfl rfl (as := [.ref 1]) (rest := []) rfl rfl (am_ww.mono h ?_)
          rintro _ E3 I3 J3 S3 ⟨v3, rfl, h⟩
          refine q_mkI ?_
          exact w_ri am_e78 rfl rfl h
      · replace h := h.2 (of_decide_eq_false c)
        refine w_st (i' := 12) (ls' := [.ref 1]) (st' := [.int (nI 1)]) (E' := E) (I' := I) (J' := J) (S' := S) am_e78 rfl rfl rfl rfl ?_
        exact w_end am_e78 rfl rfl rfl h
-- 79 takeThread
theorem g79_0  {E : am_Ev} {I : Nat → Nat → Int32} {J : Nat → Nat → Int64} {S : Nat → Nat → Option Nat} {Q : am_Qt}  (h : (((I 3) 5) < (nI 4) → (Q (.inl (some (.int (nI 0)))) E (u_I (u_I I 3 (upd (I 3) 5 (((I 3) 5) + (nI 1)))) 1 (upd (I 1) 10 (nI 2))) J S)) ∧ (¬ ((I 3) 5) < (nI 4) → (Q (.inl (some (.int (nI 2)))) E I J S))) : am_ww 79 0 [.ref 1] [] E I J S Q := by
  refine w_st (i' := 1) (ls' := [.ref 1]) (st' := [.ref 1]) (E' := E) (I' := I) (J' := J) (S' := S) am_e79 rfl rfl rfl rfl ?_
  refine w_st (i' := 2) (ls' := [.ref 1]) (st' := [.ref 3]) (E' := E) (I' := I) (J' := J) (S' := S) am_e79 rfl rfl rfl rfl ?_
  refine w_st (i' := 3) (ls' := [.ref 1]) (st' := [.int ((I 3) 5)]) (E' := E) (I' := I) (J' := J) (S' := S) am_e79 rfl rfl rfl rfl ?_
  refine w_st (i' := 4) (ls' := [.ref 1]) (st' := [.int (nI 4), .int ((I 3) 5)]) (E' := E) (I' := I) (J' := J) (S' := S) am_e79 rfl rfl rfl rfl ?_
  refine w_if2 am_e79 rfl rfl (fun c => ?_) (fun c => ?_)
  · replace h := h.1 (of_decide_eq_true c)
    refine w_st (i' := 8) (ls' := [.ref 1]) (st' := [.ref 1]) (E' := E) (I' := I) (J' := J) (S' := S) am_e79 rfl rfl rfl rfl ?_
    refine w_st (i' := 9) (ls' := [.ref 1]) (st' := [.ref 3]) (E' := E) (I' := I) (J' := J) (S' := S) am_e79 rfl rfl rfl rfl ?_
    refine w_st (i' := 10) (ls' := [.ref 1]) (st' := [.ref 3, .ref 3]) (E' := E) (I' := I) (J' := J) (S' := S) am_e79 rfl rfl rfl rfl ?_
    refine w_st (i' := 11) (ls' := [.ref 1]) (st' := [.int ((I 3) 5), .ref 3]) (E' := E) (I' := I) (J' := J) (S' := S) am_e79 rfl rfl rfl rfl ?_
    refine w_st (i' := 12) (ls' := [.ref 1]) (st' := [.int (nI 1), .int ((I 3) 5), .ref 3]) (E' := E) (I' := I) (J' := J) (S' := S) am_e79 rfl rfl rfl rfl ?_
    refine w_st (i' := 13) (ls' := [.ref 1]) (st' := [.int (((I 3) 5) + (nI 1)), .ref 3]) (E' := E) (I' := I) (J' := J) (S' := S) am_e79 rfl rfl rfl rfl ?_
    refine w_st (i' := 14) (ls' := [.ref 1]) (st' := []) (E' := E) (I' := (u_I I 3 (upd (I 3) 5 (((I 3) 5) + (nI 1))))) (J' := J) (S' := S) am_e79 rfl rfl rfl rfl ?_
    refine w_st (i' := 15) (ls' := [.ref 1]) (st' := [.ref 1]) (E' := E) (I' := (u_I I 3 (upd (I 3) 5 (((I 3) 5) + (nI 1))))) (J' := J) (S' := S) am_e79 rfl rfl rfl rfl ?_
    refine w_st (i' := 16) (ls' := [.ref 1]) (st' := [.int (nI 2), .ref 1]) (E' := E) (I' := (u_I I 3 (upd (I 3) 5 (((I 3) 5) + (nI 1))))) (J' := J) (S' := S) am_e79 rfl rfl rfl rfl ?_
    refine w_st (i' := 17) (ls' := [.ref 1]) (st' := []) (E' := E) (I' := (u_I (u_I I 3 (upd (I 3) 5 (((I 3) 5) + (nI 1)))) 1 (upd (I 1) 10 (nI 2)))) (J' := J) (S' := S) am_e79 rfl rfl rfl rfl ?_
    refine w_st (i' := 18) (ls' := [.ref 1]) (st' := [.int (nI 0)]) (E' := E) (I' := (u_I (u_I I 3 (upd (I 3) 5 (((I 3) 5) + (nI 1)))) 1 (upd (I 1) 10 (nI 2)))) (J' := J) (S' := S) am_e79 rfl rfl rfl rfl ?_
    exact w_end am_e79 rfl rfl rfl h
  · replace h := h.2 (of_decide_eq_false c)
    refine w_st (i' := 6) (ls' := [.ref 1]) (st' := [.int (nI 2)]) (E' := E) (I' := I) (J' := J) (S' := S) am_e79 rfl rfl rfl rfl ?_
    exact w_end am_e79 rfl rfl rfl h
-- 80 expect
theorem g80_0 {p1 : Nat} {E : am_Ev} {I : Nat → Nat → Int32} {J : Nat → Nat → Int64} {S : Nat → Nat → Option Nat} {Q : am_Qt} (hsp1 : p1 < 55) (h : am_cl 81 [.ref (2000000 + p1)] E (u_I I 1 (upd (upd (I 1) 12 (nI 0)) 13 (nI 0))) J (u_S S 1 (am_upO (S 1) 11 (some p1))) (q_I fun v1 E1 I1 J1 S1 => ∀ w3 : Int32, w3 = (if v1 = 0 then nI 1 else nI 5) → (Q (.inl none) E1 (u_I I1 1 (upd (I1 1) 10 w3)) J1 S1))) : am_ww 80 0 [.ref 1, .ref (2000000 + p1)] [] E I J S Q := by
  refine w_st (i' := 1) (ls' := [.ref 1, .ref (2000000 + p1)]) (st' := [.ref 1]) (E' := E) (I' := I) (J' := J) (S' := S) am_e80 rfl rfl rfl rfl ?_
  refine w_al am_e80 rfl rfl (by omega) ?_
  refine w_ps (k := 1) (f := 11) am_e80 rfl (by decide) rfl hsp1 ?_
  refine w_st (i' := 4) (ls' := [.ref 1, .ref (2000000 + p1)]) (st' := [.ref 1]) (E' := E) (I' := I) (J' := J) (S' := (u_S S 1 (am_upO (S 1) 11 (some p1)))) am_e80 rfl rfl rfl rfl ?_
  refine w_st (i' := 5) (ls' := [.ref 1, .ref (2000000 + p1)]) (st' := [.int (nI 0), .ref 1]) (E' := E) (I' := I) (J' := J) (S' := (u_S S 1 (am_upO (S 1) 11 (some p1)))) am_e80 rfl rfl rfl rfl ?_
  refine w_st (i' := 6) (ls' := [.ref 1, .ref (2000000 + p1)]) (st' := []) (E' := E) (I' := (u_I I 1 (upd (I 1) 12 (nI 0)))) (J' := J) (S' := (u_S S 1 (am_upO (S 1) 11 (some p1)))) am_e80 rfl rfl rfl rfl ?_
  refine w_st (i' := 7) (ls' := [.ref 1, .ref (2000000 + p1)]) (st' := [.ref 1]) (E' := E) (I' := (u_I I 1 (upd (I 1) 12 (nI 0)))) (J' := J) (S' := (u_S S 1 (am_upO (S 1) 11 (some p1)))) am_e80 rfl rfl rfl rfl ?_
  refine w_st (i' := 8) (ls' := [.ref 1, .ref (2000000 + p1)]) (st' := [.int (nI 0), .ref 1]) (E' := E) (I' := (u_I I 1 (upd (I 1) 12 (nI 0)))) (J' := J) (S' := (u_S S 1 (am_upO (S 1) 11 (some p1)))) am_e80 rfl rfl rfl rfl ?_
  refine w_st (i' := 9) (ls' := [.ref 1, .ref (2000000 + p1)]) (st' := []) (E' := E) (I' := (u_I (u_I I 1 (upd (I 1) 12 (nI 0))) 1 (upd (upd (I 1) 12 (nI 0)) 13 (nI 0)))) (J' := J) (S' := (u_S S 1 (am_upO (S 1) 11 (some p1)))) am_e80 rfl rfl rfl rfl ?_
  refine w_eI (uI_0 ..) ?_
  show am_ww 80 9 [.ref 1, .ref (2000000 + p1)] [] E (u_I I 1 (upd (upd (I 1) 12 (nI 0)) 13 (nI 0))) J (u_S S 1 (am_upO (S 1) 11 (some p1))) _
  refine w_st (i' := 10) (ls' := [.ref 1, .ref (2000000 + p1)]) (st' := [.ref 1]) (E' := E) (I' := (u_I I 1 (upd (upd (I 1) 12 (nI 0)) 13 (nI 0)))) (J' := J) (S' := (u_S S 1 (am_upO (S 1) 11 (some p1)))) am_e80 rfl rfl rfl rfl ?_
  refine w_al am_e80 rfl rfl (by omega) ?_
  refine w_cI am_e80 rfl rfl (as := [.ref (2000000 + p1)]) (rest := [.ref 1]) rfl (am_ckS hsp1 rfl) (am_ww.mono h ?_)
  rintro _ E1 I1 J1 S1 ⟨v1, rfl, h⟩
  refine q_mkI ?_
  refine w_mg (i := 16) (ls' := [.ref 1, .ref (2000000 + p1)]) (st' := [.int (if v1 = 0 then nI 1 else nI 5), .ref 1]) (fun hm => ?_) ?_
  · clear h
    refine w_if1 am_e80 rfl rfl (fun c => ?_) (fun c => ?_)
    · have m2 : v1 = 0 := (of_decide_eq_true c)
      refine w_st (i' := 16) (ls' := [.ref 1, .ref (2000000 + p1)]) (st' := [.int (nI 1), .ref 1]) (E' := E1) (I' := I1) (J' := J1) (S' := S1) am_e80 rfl rfl rfl rfl ?_
      first | exact hm | (simp only [if_pos m2] at hm; exact hm)
    · have m2 : ¬ (v1 = 0) := (of_decide_eq_false c)
      refine w_st (i' := 14) (ls' := [.ref 1, .ref (2000000 + p1)]) (st' := [.int (nI 5), .ref 1]) (E' := E1) (I' := I1) (J' := J1) (S' := S1) am_e80 rfl rfl rfl rfl ?_
      refine w_st (i' := 16) (ls' := [.ref 1, .ref (2000000 + p1)]) (st' := [.int (nI 5), .ref 1]) (E' := E1) (I' := I1) (J' := J1) (S' := S1) am_e80 rfl rfl rfl rfl ?_
      first | exact hm | (simp only [if_neg m2] at hm; exact hm)
  refine w_var (fun w3 => am_ww 80 16 [.ref 1, .ref (2000000 + p1)] [.int w3, .ref 1] E1 I1 J1 S1 _) (if v1 = 0 then nI 1 else nI 5) (fun w3 hw3 => ?_)
  replace h := h w3 hw3
  refine w_st (i' := 17) (ls' := [.ref 1, .ref (2000000 + p1)]) (st' := []) (E' := E1) (I' := (u_I I1 1 (upd (I1 1) 10 w3))) (J' := J1) (S' := S1) am_e80 rfl rfl rfl rfl ?_
  exact w_end am_e80 rfl rfl rfl h
-- 82 takeOperand
theorem g82_0  {E : am_Ev} {I : Nat → Nat → Int32} {J : Nat → Nat → Int64} {S : Nat → Nat → Option Nat} {Q : am_Qt}  (h : ∃ q1 : Nat, S 1 11 = some q1 ∧ q1 < 55 ∧ (am_cl 67 [.ref (2000000 + q1)] E I J S (q_I fun v2 E2 I2 J2 S2 => (v2 ≤ ((I 1) 12) → (am_ww 82 13 [.ref 1, am_U] [.int (nI 59)] E2 I2 J2 S2 Q)) ∧ (¬ v2 ≤ ((I 1) 12) → (∃ q3 : Nat, S2 1 11 = some q3 ∧ q3 < 55 ∧ (am_cl 69 [.ref (2000000 + q3), .int ((I2 1) 12)] E2 I2 J2 S2 (q_I fun v4 E4 I4 J4 S4 => am_ww 82 13 [.ref 1, am_U] [.int v4] E4 I4 J4 S4 Q))))))) : am_ww 82 0 [.ref 1, am_U] [] E I J S Q := by
  refine w_st (i' := 1) (ls' := [.ref 1, am_U]) (st' := [.ref 1]) (E' := E) (I' := I) (J' := J) (S' := S) am_e82 rfl rfl rfl rfl ?_
  refine w_st (i' := 2) (ls' := [.ref 1, am_U]) (st' := [.int ((I 1) 12)]) (E' := E) (I' := I) (J' := J) (S' := S) am_e82 rfl rfl rfl rfl ?_
  refine w_st (i' := 3) (ls' := [.ref 1, am_U]) (st' := [.ref 1, .int ((I 1) 12)]) (E' := E) (I' := I) (J' := J) (S' := S) am_e82 rfl rfl rfl rfl ?_
  obtain ⟨q1, hq, hsq1, h⟩ := h
  refine w_gs am_e82 rfl (by decide) rfl hq hsq1 ?_
  refine w_cI am_e82 rfl rfl (as := [.ref (2000000 + q1)]) (rest := [.int ((I 1) 12)]) rfl (am_ckS hsq1 rfl) (am_ww.mono h ?_)
  rintro _ E2 I2 J2 S2 ⟨v2, rfl, h⟩
  refine q_mkI ?_
  refine w_if2 am_e82 rfl rfl (fun c => ?_) (fun c => ?_)
  · replace h := h.1 (of_decide_eq_true c)
    refine w_st (i' := 13) (ls' := [.ref 1, am_U]) (st' := [.int (nI 59)]) (E' := E2) (I' := I2) (J' := J2) (S' := S2) am_e82 rfl rfl rfl rfl ?_
    exact h
  · replace h := h.2 (of_decide_eq_false c)
    refine w_st (i' := 7) (ls' := [.ref 1, am_U]) (st' := [.ref 1]) (E' := E2) (I' := I2) (J' := J2) (S' := S2) am_e82 rfl rfl rfl rfl ?_
    obtain ⟨q3, hq, hsq3, h⟩ := h
    refine w_gs am_e82 rfl (by decide) rfl hq hsq3 ?_
    refine w_st (i' := 9) (ls' := [.ref 1, am_U]) (st' := [.ref 1, .ref (2000000 + q3)]) (E' := E2) (I' := I2) (J' := J2) (S' := S2) am_e82 rfl rfl rfl rfl ?_
    refine w_st (i' := 10) (ls' := [.ref 1, am_U]) (st' := [.int ((I2 1) 12), .ref (2000000 + q3)]) (E' := E2) (I' := I2) (J' := J2) (S' := S2) am_e82 rfl rfl rfl rfl ?_
    refine w_cI am_e82 rfl rfl (as := [.ref (2000000 + q3), .int ((I2 1) 12)]) (rest := []) rfl (am_ckS hsq3 rfl) (am_ww.mono h ?_)
    rintro _ E4 I4 J4 S4 ⟨v4, rfl, h⟩
    refine q_mkI ?_
    refine w_st (i' := 13) (ls' := [.ref 1, am_U]) (st' := [.int v4]) (E' := E4) (I' := I4) (J' := J4) (S' := S4) am_e82 rfl rfl rfl rfl ?_
    exact h
theorem g82_13 {d1 : Value} {y0 : Int32} {E : am_Ev} {I : Nat → Nat → Int32} {J : Nat → Nat → Int64} {S : Nat → Nat → Option Nat} {Q : am_Qt} (hd1 : am_isL d1 = false) (h : (y0 = (nI 59) → (∀ w3 : Int32, w3 = (if ((I 1) 6) = (nI 59) then nI 0 else nI 1) → (Q (.inl (some (.int w3))) E (u_I I 1 (upd (I 1) 10 (nI 0))) J S))) ∧ (¬ y0 = (nI 59) → ((y0 = (nI 78) → (am_cl 83 [.ref 1] E I J S (q_I fun v1 E1 I1 J1 S1 => Q (.inl (some (.int v1))) E1 I1 J1 S1))) ∧ (¬ y0 = (nI 78) → ((((I 1) 6) = (nI 45) → ((((I 1) 13) = 0 → ((y0 = (nI 118) → (Q (.inl (some (.int (nI 0)))) E (u_I I 1 (upd (I 1) 13 (nI 1))) J S)) ∧ (¬ y0 = (nI 118) → ((y0 = (nI 119) → (Q (.inl (some (.int (nI 0)))) E (u_I I 1 (upd (I 1) 13 (nI 1))) J S)) ∧ (¬ y0 = (nI 119) → (am_ww 82 52 [.ref 1, .int y0] [] E I J S Q)))))) ∧ (¬ ((I 1) 13) = 0 → (am_ww 82 52 [.ref 1, .int y0] [] E I J S Q)))) ∧ (¬ ((I 1) 6) = (nI 45) → (am_ww 82 52 [.ref 1, .int y0] [] E I J S Q))))))) : am_ww 82 13 [.ref 1, d1] [.int y0] E I J S Q := by
  refine w_st (i' := 14) (ls' := [.ref 1, .int y0]) (st' := []) (E' := E) (I' := I) (J' := J) (S' := S) am_e82 rfl rfl rfl rfl ?_
  refine w_st (i' := 15) (ls' := [.ref 1, .int y0]) (st' := [.int y0]) (E' := E) (I' := I) (J' := J) (S' := S) am_e82 rfl rfl rfl rfl ?_
  refine w_st (i' := 16) (ls' := [.ref 1, .int y0]) (st' := [.int (nI 59), .int y0]) (E' := E) (I' := I) (J' := J) (S' := S) am_e82 rfl rfl rfl rfl ?_
  refine w_if2 am_e82 rfl rfl (fun c => ?_) (fun c => ?_)
  · replace h := h.2 (of_decide_eq_true c)
    refine w_st (i' := 29) (ls' := [.ref 1, .int y0]) (st' := [.int y0]) (E' := E) (I' := I) (J' := J) (S' := S) am_e82 rfl rfl rfl rfl ?_
    refine w_st (i' := 30) (ls' := [.ref 1, .int y0]) (st' := [.int (nI 78), .int y0]) (E' := E) (I' := I) (J' := J) (S' := S) am_e82 rfl rfl rfl rfl ?_
    refine w_if2 am_e82 rfl rfl (fun c => ?_) (fun c => ?_)
    · replace h := h.2 (of_decide_eq_true c)
      refine w_st (i' := 35) (ls' := [.ref 1, .int y0]) (st' := [.ref 1]) (E' := E) (I' := I) (J' := J) (S' := S) am_e82 rfl rfl rfl rfl ?_
      refine w_st (i' := 36) (ls' := [.ref 1, .int y0]) (st' := [.int ((I 1) 6)]) (E' := E) (I' := I) (J' := J) (S' := S) am_e82 rfl rfl rfl rfl ?_
      refine w_st (i' := 37) (ls' := [.ref 1, .int y0]) (st' := [.int (nI 45), .int ((I 1) 6)]) (E' := E) (I' := I) (J' := J) (S' := S) am_e82 rfl rfl rfl rfl ?_
      refine w_if2 am_e82 rfl rfl (fun c => ?_) (fun c => ?_)
      · replace h := h.2 (of_decide_eq_true c)
        exact h
      · replace h := h.1 (Decidable.not_not.mp (of_decide_eq_false c))
        refine w_st (i' := 39) (ls' := [.ref 1, .int y0]) (st' := [.ref 1]) (E' := E) (I' := I) (J' := J) (S' := S) am_e82 rfl rfl rfl rfl ?_
        refine w_st (i' := 40) (ls' := [.ref 1, .int y0]) (st' := [.int ((I 1) 13)]) (E' := E) (I' := I) (J' := J) (S' := S) am_e82 rfl rfl rfl rfl ?_
        refine w_if1 am_e82 rfl rfl (fun c => ?_) (fun c => ?_)
        · replace h := h.2 (of_decide_eq_true c)
          exact h
        · replace h := h.1 (Decidable.not_not.mp (of_decide_eq_false c))
          refine w_st (i' := 42) (ls' := [.ref 1, .int y0]) (st' := [.int y0]) (E' := E) (I' := I) (J' := J) (S' := S) am_e82 rfl rfl rfl rfl ?_
          refine w_st (i' := 43) (ls' := [.ref 1, .int y0]) (st' := [.int (nI 118), .int y0]) (E' := E) (I' := I) (J' := J) (S' := S) am_e82 rfl rfl rfl rfl ?_
          refine w_if2 am_e82 rfl rfl (fun c => ?_) (fun c => ?_)
          · replace h := h.1 (of_decide_eq_true c)
            refine w_st (i' := 48) (ls' := [.ref 1, .int y0]) (st' := [.ref 1]) (E' := E) (I' := I) (J' := J) (S' := S) am_e82 rfl rfl rfl rfl ?_
            refine w_st (i' := 49) (ls' := [.ref 1, .int y0]) (st' := [.int (nI 1), .ref 1]) (E' := E) (I' := I) (J' := J) (S' := S) am_e82 rfl rfl rfl rfl ?_
            refine w_st (i' := 50) (ls' := [.ref 1, .int y0]) (st' := []) (E' := E) (I' := (u_I I 1 (upd (I 1) 13 (nI 1)))) (J' := J) (S' := S) am_e82 rfl rfl rfl rfl ?_
            refine w_st (i' := 51) (ls' := [.ref 1, .int y0]) (st' := [.int (nI 0)]) (E' := E) (I' := (u_I I 1 (upd (I 1) 13 (nI 1)))) (J' := J) (S' := S) am_e82 rfl rfl rfl rfl ?_
            exact w_end am_e82 rfl rfl rfl h
          · replace h := h.2 (of_decide_eq_false c)
            refine w_st (i' := 45) (ls' := [.ref 1, .int y0]) (st' := [.int y0]) (E' := E) (I' := I) (J' := J) (S' := S) am_e82 rfl rfl rfl rfl ?_
            refine w_st (i' := 46) (ls' := [.ref 1, .int y0]) (st' := [.int (nI 119), .int y0]) (E' := E) (I' := I) (J' := J) (S' := S) am_e82 rfl rfl rfl rfl ?_
            refine w_if2 am_e82 rfl rfl (fun c => ?_) (fun c => ?_)
            · replace h := h.2 (of_decide_eq_true c)
              exact h
            · replace h := h.1 (Decidable.not_not.mp (of_decide_eq_false c))
              refine w_st (i' := 48) (ls' := [.ref 1, .int y0]) (st' := [.ref 1]) (E' := E) (I' := I) (J' := J) (S' := S) am_e82 rfl rfl rfl rfl ?_
              refine w_st (i' := 49) (ls' := [.ref 1, .int y0]) (st' := [.int (nI 1), .ref 1]) (E' := E) (I' := I) (J' := J) (S' := S) am_e82 rfl rfl rfl rfl ?_
              refine w_st (i' := 50) (ls' := [.ref 1, .int y0]) (st' := []) (E' := E) (I' := (u_I I 1 (upd (I 1) 13 (nI 1)))) (J' := J) (S' := S) am_e82 rfl rfl rfl rfl ?_
              refine w_st (i' := 51) (ls' := [.ref 1, .int y0]) (st' := [.int (nI 0)]) (E' := E) (I' := (u_I I 1 (upd (I 1) 13 (nI 1)))) (J' := J) (S' := S) am_e82 rfl rfl rfl rfl ?_
              exact w_end am_e82 rfl rfl rfl h
    · replace h := h.1 (Decidable.not_not.mp (of_decide_eq_false c))
      refine w_st (i' := 32) (ls' := [.ref 1, .int y0]) (st' := [.ref 1]) (E' := E) (I' := I) (J' := J) (S' := S) am_e82 rfl rfl rfl rfl ?_
      refine w_cI am_e82 rfl rfl (as := [.ref 1]) (rest := []) rfl rfl (am_ww.mono h ?_)
      rintro _ E1 I1 J1 S1 ⟨v1, rfl, h⟩
      refine q_mkI ?_
      exact w_ri am_e82 rfl rfl h
  · replace h := h.1 (Decidable.not_not.mp (of_decide_eq_false c))
    refine w_st (i' := 18) (ls' := [.ref 1, .int y0]) (st' := [.ref 1]) (E' := E) (I' := I) (J' := J) (S' := S) am_e82 rfl rfl rfl rfl ?_
    refine w_st (i' := 19) (ls' := [.ref 1, .int y0]) (st' := [.int (nI 0), .ref 1]) (E' := E) (I' := I) (J' := J) (S' := S) am_e82 rfl rfl rfl rfl ?_
    refine w_st (i' := 20) (ls' := [.ref 1, .int y0]) (st' := []) (E' := E) (I' := (u_I I 1 (upd (I 1) 10 (nI 0)))) (J' := J) (S' := S) am_e82 rfl rfl rfl rfl ?_
    refine w_st (i' := 21) (ls' := [.ref 1, .int y0]) (st' := [.ref 1]) (E' := E) (I' := (u_I I 1 (upd (I 1) 10 (nI 0)))) (J' := J) (S' := S) am_e82 rfl rfl rfl rfl ?_
    refine w_st (i' := 22) (ls' := [.ref 1, .int y0]) (st' := [.int ((I 1) 6)]) (E' := E) (I' := (u_I I 1 (upd (I 1) 10 (nI 0)))) (J' := J) (S' := S) am_e82 rfl rfl rfl rfl ?_
    refine w_st (i' := 23) (ls' := [.ref 1, .int y0]) (st' := [.int (nI 59), .int ((I 1) 6)]) (E' := E) (I' := (u_I I 1 (upd (I 1) 10 (nI 0)))) (J' := J) (S' := S) am_e82 rfl rfl rfl rfl ?_
    refine w_mg (i := 27) (ls' := [.ref 1, .int y0]) (st' := [.int (if ((I 1) 6) = (nI 59) then nI 0 else nI 1)]) (fun hm => ?_) ?_
    · clear h
      refine w_if2 am_e82 rfl rfl (fun c => ?_) (fun c => ?_)
      · have m2 : ¬ (((I 1) 6) = (nI 59)) := (of_decide_eq_true c)
        refine w_st (i' := 27) (ls' := [.ref 1, .int y0]) (st' := [.int (nI 1)]) (E' := E) (I' := (u_I I 1 (upd (I 1) 10 (nI 0)))) (J' := J) (S' := S) am_e82 rfl rfl rfl rfl ?_
        first | exact hm | (simp only [if_neg m2] at hm; exact hm)
      · have m2 : ((I 1) 6) = (nI 59) := (Decidable.not_not.mp (of_decide_eq_false c))
        refine w_st (i' := 25) (ls' := [.ref 1, .int y0]) (st' := [.int (nI 0)]) (E' := E) (I' := (u_I I 1 (upd (I 1) 10 (nI 0)))) (J' := J) (S' := S) am_e82 rfl rfl rfl rfl ?_
        refine w_st (i' := 27) (ls' := [.ref 1, .int y0]) (st' := [.int (nI 0)]) (E' := E) (I' := (u_I I 1 (upd (I 1) 10 (nI 0)))) (J' := J) (S' := S) am_e82 rfl rfl rfl rfl ?_
        first | exact hm | (simp only [if_pos m2] at hm; exact hm)
    refine w_var (fun w3 => am_ww 82 27 [.ref 1, .int y0] [.int w3] E (u_I I 1 (upd (I 1) 10 (nI 0))) J S _) (if ((I 1) 6) = (nI 59) then nI 0 else nI 1) (fun w3 hw3 => ?_)
    replace h := h w3 hw3
    exact w_ri am_e82 rfl rfl h
theorem g82_52 {x1 : Int32} {E : am_Ev} {I : Nat → Nat → Int32} {J : Nat → Nat → Int64} {S : Nat → Nat → Option Nat} {Q : am_Qt}  (h : (((I 1) 6) = (nI 3) → ((((I 1) 7) = (-1) → (Q (.inl (some (.int (nI 2)))) E I J S)) ∧ (¬ ((I 1) 7) = (-1) → ((x1 = nI 67 → (((nI 16) ≤ ((I 1) 7) → (Q (.inl (some (.int (nI 2)))) E I J S)) ∧ (¬ (nI 16) ≤ ((I 1) 7) → (am_cl 88 [.ref 1, .int x1] E I J S (q_I fun v1 E1 I1 J1 S1 => Q (.inl (some (.int v1))) E1 I1 J1 S1))))) ∧ (x1 = nI 99 → (((nI 16) ≤ ((I 1) 7) → (Q (.inl (some (.int (nI 2)))) E I J S)) ∧ (¬ (nI 16) ≤ ((I 1) 7) → (am_cl 88 [.ref 1, .int x1] E I J S (q_I fun v2 E2 I2 J2 S2 => Q (.inl (some (.int v2))) E2 I2 J2 S2))))) ∧ (x1 = nI 108 → (((nI 4) ≤ ((I 1) 7) → (Q (.inl (some (.int (nI 2)))) E I J S)) ∧ (¬ (nI 4) ≤ ((I 1) 7) → (am_cl 88 [.ref 1, .int x1] E I J S (q_I fun v3 E3 I3 J3 S3 => Q (.inl (some (.int v3))) E3 I3 J3 S3))))) ∧ (x1 = nI 110 → ((((I 1) 15) = nI 0 → ((((I 1) 7) < (nI 1) → (Q (.inl (some (.int (nI 2)))) E I J S)) ∧ (¬ ((I 1) 7) < (nI 1) → (((nI 9) < ((I 1) 7) → (Q (.inl (some (.int (nI 2)))) E I J S)) ∧ (¬ (nI 9) < ((I 1) 7) → (am_cl 88 [.ref 1, .int x1] E I J S (q_I fun v4 E4 I4 J4 S4 => Q (.inl (some (.int v4))) E4 I4 J4 S4))))))) ∧ (((I 1) 15) = nI 1 → (am_cl 88 [.ref 1, .int x1] E I J S (q_I fun v5 E5 I5 J5 S5 => Q (.inl (some (.int v5))) E5 I5 J5 S5))) ∧ (((I 1) 15) = nI 2 → ((((I 1) 7) < (nI 1) → (Q (.inl (some (.int (nI 2)))) E I J S)) ∧ (¬ ((I 1) 7) < (nI 1) → (((nI 50) < ((I 1) 7) → (Q (.inl (some (.int (nI 2)))) E I J S)) ∧ (¬ (nI 50) < ((I 1) 7) → (am_cl 88 [.ref 1, .int x1] E I J S (q_I fun v6 E6 I6 J6 S6 => Q (.inl (some (.int v6))) E6 I6 J6 S6))))))) ∧ (((I 1) 15) = nI 3 → ((((I 1) 7) < (nI 2) → (Q (.inl (some (.int (nI 2)))) E I J S)) ∧ (¬ ((I 1) 7) < (nI 2) → (((nI 8) < ((I 1) 7) → (Q (.inl (some (.int (nI 2)))) E I J S)) ∧ (¬ (nI 8) < ((I 1) 7) → (am_cl 88 [.ref 1, .int x1] E I J S (q_I fun v7 E7 I7 J7 S7 => Q (.inl (some (.int v7))) E7 I7 J7 S7))))))) ∧ (¬ ((I 1) 15) = nI 0 → ¬ ((I 1) 15) = nI 1 → ¬ ((I 1) 15) = nI 2 → ¬ ((I 1) 15) = nI 3 → (am_cl 88 [.ref 1, .int x1] E I J S (q_I fun v8 E8 I8 J8 S8 => Q (.inl (some (.int v8))) E8 I8 J8 S8))))) ∧ (x1 = nI 114 → (((nI 4) ≤ ((I 1) 7) → (Q (.inl (some (.int (nI 2)))) E I J S)) ∧ (¬ (nI 4) ≤ ((I 1) 7) → (am_cl 88 [.ref 1, .int x1] E I J S (q_I fun v9 E9 I9 J9 S9 => Q (.inl (some (.int v9))) E9 I9 J9 S9))))) ∧ (x1 = nI 115 → (((nI 3) ≤ ((I 1) 7) → (Q (.inl (some (.int (nI 2)))) E I J S)) ∧ (¬ (nI 3) ≤ ((I 1) 7) → (am_cl 88 [.ref 1, .int x1] E I J S (q_I fun v10 E10 I10 J10 S10 => Q (.inl (some (.int v10))) E10 I10 J10 S10))))) ∧ (¬ x1 = nI 67 → ¬ x1 = nI 99 → ¬ x1 = nI 108 → ¬ x1 = nI 110 → ¬ x1 = nI 114 → ¬ x1 = nI 115 → (am_cl 88 [.ref 1, .int x1] E I J S (q_I fun v11 E11 I11 J11 S11 => Q (.inl (some (.int v11))) E11 I11 J11 S11))))))) ∧ (¬ ((I 1) 6) = (nI 3) → (Q (.inl (some (.int (nI 1)))) E I J S))) : am_ww 82 52 [.ref 1, .int x1] [] E I J S Q := by
  refine w_st (i' := 53) (ls' := [.ref 1, .int x1]) (st' := [.ref 1]) (E' := E) (I' := I) (J' := J) (S' := S) am_e82 rfl rfl rfl rfl ?_
  refine w_st (i' := 54) (ls' := [.ref 1, .int x1]) (st' := [.int ((I 1) 6)]) (E' := E) (I' := I) (J' := J) (S' := S) am_e82 rfl rfl rfl rfl ?_
  refine w_st (i' := 55) (ls' := [.ref 1, .int x1]) (st' := [.int (nI 3), .int ((I 1) 6)]) (E' := E) (I' := I) (J' := J) (S' := S) am_e82 rfl rfl rfl rfl ?_
  refine w_if2 am_e82 rfl rfl (fun c => ?_) (fun c => ?_)
  · replace h := h.1 (of_decide_eq_true c)
    refine w_st (i' := 59) (ls' := [.ref 1, .int x1]) (st' := [.ref 1]) (E' := E) (I' := I) (J' := J) (S' := S) am_e82 rfl rfl rfl rfl ?_
    refine w_st (i' := 60) (ls' := [.ref 1, .int x1]) (st' := [.int ((I 1) 7)]) (E' := E) (I' := I) (J' := J) (S' := S) am_e82 rfl rfl rfl rfl ?_
    refine w_st (i' := 61) (ls' := [.ref 1, .int x1]) (st' := [.int (-1), .int ((I 1) 7)]) (E' := E) (I' := I) (J' := J) (S' := S) am_e82 rfl rfl rfl rfl ?_
    refine w_if2 am_e82 rfl rfl (fun c => ?_) (fun c => ?_)
    · replace h := h.1 (of_decide_eq_true c)
      refine w_st (i' := 67) (ls' := [.ref 1, .int x1]) (st' := [.int (nI 2)]) (E' := E) (I' := I) (J' := J) (S' := S) am_e82 rfl rfl rfl rfl ?_
      exact w_end am_e82 rfl rfl rfl h
    · replace h := h.2 (of_decide_eq_false c)
      refine w_st (i' := 63) (ls' := [.ref 1, .int x1]) (st' := [.ref 1]) (E' := E) (I' := I) (J' := J) (S' := S) am_e82 rfl rfl rfl rfl ?_
      refine w_st (i' := 64) (ls' := [.ref 1, .int x1]) (st' := [.int x1, .ref 1]) (E' := E) (I' := I) (J' := J) (S' := S) am_e82 rfl rfl rfl rfl ?_
      refine w_cI am_e82 rfl rfl (as := [.ref 1, .int x1]) (rest := []) rfl rfl ?_
      show am_ww 86 0 [.ref 1, .int x1] [] E I J S _
      refine w_st (i' := 1) (ls' := [.ref 1, .int x1]) (st' := [.int x1]) (E' := E) (I' := I) (J' := J) (S' := S) am_e86 rfl rfl rfl rfl ?_
      refine w_lk am_e86 rfl ?_
      by_cases c67 : x1 = nI 67
      · replace h := h.1 c67
        refine w_to (i2 := 10) (by rw [c67]; first | done | rfl) ?_
        refine w_st (i' := 11) (ls' := [.ref 1, .int x1]) (st' := [.ref 1]) (E' := E) (I' := I) (J' := J) (S' := S) am_e86 rfl rfl rfl rfl ?_
        refine w_st (i' := 12) (ls' := [.ref 1, .int x1]) (st' := [.int ((I 1) 7)]) (E' := E) (I' := I) (J' := J) (S' := S) am_e86 rfl rfl rfl rfl ?_
        refine w_st (i' := 13) (ls' := [.ref 1, .int x1]) (st' := [.int (nI 16), .int ((I 1) 7)]) (E' := E) (I' := I) (J' := J) (S' := S) am_e86 rfl rfl rfl rfl ?_
        refine w_if2 am_e86 rfl rfl (fun c => ?_) (fun c => ?_)
        · replace h := h.1 (of_decide_eq_true c)
          refine w_st (i' := 17) (ls' := [.ref 1, .int x1]) (st' := [.int (nI 0)]) (E' := E) (I' := I) (J' := J) (S' := S) am_e86 rfl rfl rfl rfl ?_
          refine w_end (E' := E) (I' := I) (J' := J) (S' := S) am_e86 rfl rfl rfl (q_mkI ?_)
          show am_ww 82 65 [.ref 1, .int x1] [.int (nI 0)] E I J S _
          refine w_st (i' := 66) (ls' := [.ref 1, .int x1]) (st' := []) (E' := E) (I' := I) (J' := J) (S' := S) am_e82 rfl rfl rfl rfl ?_
          refine w_st (i' := 67) (ls' := [.ref 1, .int x1]) (st' := [.int (nI 2)]) (E' := E) (I' := I) (J' := J) (S' := S) am_e82 rfl rfl rfl rfl ?_
          exact w_end am_e82 rfl rfl rfl h
        · replace h := h.2 (of_decide_eq_false c)
          refine w_st (i' := 15) (ls' := [.ref 1, .int x1]) (st' := [.int (nI 1)]) (E' := E) (I' := I) (J' := J) (S' := S) am_e86 rfl rfl rfl rfl ?_
          refine w_st (i' := 17) (ls' := [.ref 1, .int x1]) (st' := [.int (nI 1)]) (E' := E) (I' := I) (J' := J) (S' := S) am_e86 rfl rfl rfl rfl ?_
          refine w_end (E' := E) (I' := I) (J' := J) (S' := S) am_e86 rfl rfl rfl (q_mkI ?_)
          show am_ww 82 65 [.ref 1, .int x1] [.int (nI 1)] E I J S _
          refine w_st (i' := 68) (ls' := [.ref 1, .int x1]) (st' := []) (E' := E) (I' := I) (J' := J) (S' := S) am_e82 rfl rfl rfl rfl ?_
          refine w_st (i' := 69) (ls' := [.ref 1, .int x1]) (st' := [.ref 1]) (E' := E) (I' := I) (J' := J) (S' := S) am_e82 rfl rfl rfl rfl ?_
          refine w_st (i' := 70) (ls' := [.ref 1, .int x1]) (st' := [.int x1, .ref 1]) (E' := E) (I' := I) (J' := J) (S' := S) am_e82 rfl rfl rfl rfl ?_
          refine w_cI am_e82 rfl rfl (as := [.ref 1, .int x1]) (rest := []) rfl rfl (am_ww.mono h ?_)
          rintro _ E1 I1 J1 S1 ⟨v1, rfl, h⟩
          refine q_mkI ?_
          exact w_ri am_e82 rfl rfl h
      by_cases c99 : x1 = nI 99
      · replace h := h.2.1 c99
        refine w_to (i2 := 10) (by rw [c99]; first | done | rfl) ?_
        refine w_st (i' := 11) (ls' := [.ref 1, .int x1]) (st' := [.ref 1]) (E' := E) (I' := I) (J' := J) (S' := S) am_e86 rfl rfl rfl rfl ?_
        refine w_st (i' := 12) (ls' := [.ref 1, .int x1]) (st' := [.int ((I 1) 7)]) (E' := E) (I' := I) (J' := J) (S' := S) am_e86 rfl rfl rfl rfl ?_
        refine w_st (i' := 13) (ls' := [.ref 1, .int x1]) (st' := [.int (nI 16), .int ((I 1) 7)]) (E' := E) (I' := I) (J' := J) (S' := S) am_e86 rfl rfl rfl rfl ?_
        refine w_if2 am_e86 rfl rfl (fun c => ?_) (fun c => ?_)
        · replace h := h.1 (of_decide_eq_true c)
          refine w_st (i' := 17) (ls' := [.ref 1, .int x1]) (st' := [.int (nI 0)]) (E' := E) (I' := I) (J' := J) (S' := S) am_e86 rfl rfl rfl rfl ?_
          refine w_end (E' := E) (I' := I) (J' := J) (S' := S) am_e86 rfl rfl rfl (q_mkI ?_)
          show am_ww 82 65 [.ref 1, .int x1] [.int (nI 0)] E I J S _
          refine w_st (i' := 66) (ls' := [.ref 1, .int x1]) (st' := []) (E' := E) (I' := I) (J' := J) (S' := S) am_e82 rfl rfl rfl rfl ?_
          refine w_st (i' := 67) (ls' := [.ref 1, .int x1]) (st' := [.int (nI 2)]) (E' := E) (I' := I) (J' := J) (S' := S) am_e82 rfl rfl rfl rfl ?_
          exact w_end am_e82 rfl rfl rfl h
        · replace h := h.2 (of_decide_eq_false c)
          refine w_st (i' := 15) (ls' := [.ref 1, .int x1]) (st' := [.int (nI 1)]) (E' := E) (I' := I) (J' := J) (S' := S) am_e86 rfl rfl rfl rfl ?_
          refine w_st (i' := 17) (ls' := [.ref 1, .int x1]) (st' := [.int (nI 1)]) (E' := E) (I' := I) (J' := J) (S' := S) am_e86 rfl rfl rfl rfl ?_
          refine w_end (E' := E) (I' := I) (J' := J) (S' := S) am_e86 rfl rfl rfl (q_mkI ?_)
          show am_ww 82 65 [.ref 1, .int x1] [.int (nI 1)] E I J S _
          refine w_st (i' := 68) (ls' := [.ref 1, .int x1]) (st' := []) (E' := E) (I' := I) (J' := J) (S' := S) am_e82 rfl rfl rfl rfl ?_
          refine w_st (i' := 69) (ls' := [.ref 1, .int x1]) (st' := [.ref 1]) (E' := E) (I' := I) (J' := J) (S' := S) am_e82 rfl rfl rfl rfl ?_
          refine w_st (i' := 70) (ls' := [.ref 1, .int x1]) (st' := [.int x1, .ref 1]) (E' := E) (I' := I) (J' := J) (S' := S) am_e82 rfl rfl rfl rfl ?_
          refine w_cI am_e82 rfl rfl (as := [.ref 1, .int x1]) (rest := []) rfl rfl (am_ww.mono h ?_)
          rintro _ E2 I2 J2 S2 ⟨v2, rfl, h⟩
          refine q_mkI ?_
          exact w_ri am_e82 rfl rfl h
      by_cases c108 : x1 = nI 108
      · replace h := h.2.2.1 c108
        refine w_to (i2 := 26) (by rw [c108]; first | done | rfl) ?_
        refine w_st (i' := 27) (ls' := [.ref 1, .int x1]) (st' := [.ref 1]) (E' := E) (I' := I) (J' := J) (S' := S) am_e86 rfl rfl rfl rfl ?_
        refine w_st (i' := 28) (ls' := [.ref 1, .int x1]) (st' := [.int ((I 1) 7)]) (E' := E) (I' := I) (J' := J) (S' := S) am_e86 rfl rfl rfl rfl ?_
        refine w_st (i' := 29) (ls' := [.ref 1, .int x1]) (st' := [.int (nI 4), .int ((I 1) 7)]) (E' := E) (I' := I) (J' := J) (S' := S) am_e86 rfl rfl rfl rfl ?_
        refine w_if2 am_e86 rfl rfl (fun c => ?_) (fun c => ?_)
        · replace h := h.1 (of_decide_eq_true c)
          refine w_st (i' := 33) (ls' := [.ref 1, .int x1]) (st' := [.int (nI 0)]) (E' := E) (I' := I) (J' := J) (S' := S) am_e86 rfl rfl rfl rfl ?_
          refine w_end (E' := E) (I' := I) (J' := J) (S' := S) am_e86 rfl rfl rfl (q_mkI ?_)
          show am_ww 82 65 [.ref 1, .int x1] [.int (nI 0)] E I J S _
          refine w_st (i' := 66) (ls' := [.ref 1, .int x1]) (st' := []) (E' := E) (I' := I) (J' := J) (S' := S) am_e82 rfl rfl rfl rfl ?_
          refine w_st (i' := 67) (ls' := [.ref 1, .int x1]) (st' := [.int (nI 2)]) (E' := E) (I' := I) (J' := J) (S' := S) am_e82 rfl rfl rfl rfl ?_
          exact w_end am_e82 rfl rfl rfl h
        · replace h := h.2 (of_decide_eq_false c)
          refine w_st (i' := 31) (ls' := [.ref 1, .int x1]) (st' := [.int (nI 1)]) (E' := E) (I' := I) (J' := J) (S' := S) am_e86 rfl rfl rfl rfl ?_
          refine w_st (i' := 33) (ls' := [.ref 1, .int x1]) (st' := [.int (nI 1)]) (E' := E) (I' := I) (J' := J) (S' := S) am_e86 rfl rfl rfl rfl ?_
          refine w_end (E' := E) (I' := I) (J' := J) (S' := S) am_e86 rfl rfl rfl (q_mkI ?_)
          show am_ww 82 65 [.ref 1, .int x1] [.int (nI 1)] E I J S _
          refine w_st (i' := 68) (ls' := [.ref 1, .int x1]) (st' := []) (E' := E) (I' := I) (J' := J) (S' := S) am_e82 rfl rfl rfl rfl ?_
          refine w_st (i' := 69) (ls' := [.ref 1, .int x1]) (st' := [.ref 1]) (E' := E) (I' := I) (J' := J) (S' := S) am_e82 rfl rfl rfl rfl ?_
          refine w_st (i' := 70) (ls' := [.ref 1, .int x1]) (st' := [.int x1, .ref 1]) (E' := E) (I' := I) (J' := J) (S' := S) am_e82 rfl rfl rfl rfl ?_
          refine w_cI am_e82 rfl rfl (as := [.ref 1, .int x1]) (rest := []) rfl rfl (am_ww.mono h ?_)
          rintro _ E3 I3 J3 S3 ⟨v3, rfl, h⟩
          refine q_mkI ?_
          exact w_ri am_e82 rfl rfl h
      by_cases c110 : x1 = nI 110
      · replace h := h.2.2.2.1 c110
        refine w_to (i2 := 34) (by rw [c110]; first | done | rfl) ?_
        refine w_st (i' := 35) (ls' := [.ref 1, .int x1]) (st' := [.ref 1]) (E' := E) (I' := I) (J' := J) (S' := S) am_e86 rfl rfl rfl rfl ?_
        refine w_cI am_e86 rfl rfl (as := [.ref 1]) (rest := []) rfl rfl ?_
        show am_ww 87 0 [.ref 1] [] E I J S _
        refine w_st (i' := 1) (ls' := [.ref 1]) (st' := [.ref 1]) (E' := E) (I' := I) (J' := J) (S' := S) am_e87 rfl rfl rfl rfl ?_
        refine w_st (i' := 2) (ls' := [.ref 1]) (st' := [.int ((I 1) 15)]) (E' := E) (I' := I) (J' := J) (S' := S) am_e87 rfl rfl rfl rfl ?_
        refine w_tb am_e87 rfl ?_
        by_cases c0 : ((I 1) 15) = nI 0
        · replace h := h.1 c0
          refine w_to (i2 := 3) (by rw [c0]; first | done | rfl) ?_
          refine w_st (i' := 4) (ls' := [.ref 1]) (st' := [.ref 1]) (E' := E) (I' := I) (J' := J) (S' := S) am_e87 rfl rfl rfl rfl ?_
          refine w_st (i' := 5) (ls' := [.ref 1]) (st' := [.int ((I 1) 7)]) (E' := E) (I' := I) (J' := J) (S' := S) am_e87 rfl rfl rfl rfl ?_
          refine w_st (i' := 6) (ls' := [.ref 1]) (st' := [.int (nI 1), .int ((I 1) 7)]) (E' := E) (I' := I) (J' := J) (S' := S) am_e87 rfl rfl rfl rfl ?_
          refine w_if2 am_e87 rfl rfl (fun c => ?_) (fun c => ?_)
          · replace h := h.1 (of_decide_eq_true c)
            refine w_st (i' := 14) (ls' := [.ref 1]) (st' := [.int (nI 0)]) (E' := E) (I' := I) (J' := J) (S' := S) am_e87 rfl rfl rfl rfl ?_
            refine w_end (E' := E) (I' := I) (J' := J) (S' := S) am_e87 rfl rfl rfl (q_mkI ?_)
            show am_ww 86 36 [.ref 1, .int x1] [.int (nI 0)] E I J S _
            refine w_end (E' := E) (I' := I) (J' := J) (S' := S) am_e86 rfl rfl rfl (q_mkI ?_)
            show am_ww 82 65 [.ref 1, .int x1] [.int (nI 0)] E I J S _
            refine w_st (i' := 66) (ls' := [.ref 1, .int x1]) (st' := []) (E' := E) (I' := I) (J' := J) (S' := S) am_e82 rfl rfl rfl rfl ?_
            refine w_st (i' := 67) (ls' := [.ref 1, .int x1]) (st' := [.int (nI 2)]) (E' := E) (I' := I) (J' := J) (S' := S) am_e82 rfl rfl rfl rfl ?_
            exact w_end am_e82 rfl rfl rfl h
          · replace h := h.2 (of_decide_eq_false c)
            refine w_st (i' := 8) (ls' := [.ref 1]) (st' := [.ref 1]) (E' := E) (I' := I) (J' := J) (S' := S) am_e87 rfl rfl rfl rfl ?_
            refine w_st (i' := 9) (ls' := [.ref 1]) (st' := [.int ((I 1) 7)]) (E' := E) (I' := I) (J' := J) (S' := S) am_e87 rfl rfl rfl rfl ?_
            refine w_st (i' := 10) (ls' := [.ref 1]) (st' := [.int (nI 9), .int ((I 1) 7)]) (E' := E) (I' := I) (J' := J) (S' := S) am_e87 rfl rfl rfl rfl ?_
            refine w_if2 am_e87 rfl rfl (fun c => ?_) (fun c => ?_)
            · replace h := h.1 (of_decide_eq_true c)
              refine w_st (i' := 14) (ls' := [.ref 1]) (st' := [.int (nI 0)]) (E' := E) (I' := I) (J' := J) (S' := S) am_e87 rfl rfl rfl rfl ?_
              refine w_end (E' := E) (I' := I) (J' := J) (S' := S) am_e87 rfl rfl rfl (q_mkI ?_)
              show am_ww 86 36 [.ref 1, .int x1] [.int (nI 0)] E I J S _
              refine w_end (E' := E) (I' := I) (J' := J) (S' := S) am_e86 rfl rfl rfl (q_mkI ?_)
              show am_ww 82 65 [.ref 1, .int x1] [.int (nI 0)] E I J S _
              refine w_st (i' := 66) (ls' := [.ref 1, .int x1]) (st' := []) (E' := E) (I' := I) (J' := J) (S' := S) am_e82 rfl rfl rfl rfl ?_
              refine w_st (i' := 67) (ls' := [.ref 1, .int x1]) (st' := [.int (nI 2)]) (E' := E) (I' := I) (J' := J) (S' := S) am_e82 rfl rfl rfl rfl ?_
              exact w_end am_e82 rfl rfl rfl h
            · replace h := h.2 (of_decide_eq_false c)
              refine w_st (i' := 12) (ls' := [.ref 1]) (st' := [.int (nI 1)]) (E' := E) (I' := I) (J' := J) (S' := S) am_e87 rfl rfl rfl rfl ?_
              refine w_st (i' := 14) (ls' := [.ref 1]) (st' := [.int (nI 1)]) (E' := E) (I' := I) (J' := J) (S' := S) am_e87 rfl rfl rfl rfl ?_
              refine w_end (E' := E) (I' := I) (J' := J) (S' := S) am_e87 rfl rfl rfl (q_mkI ?_)
              show am_ww 86 36 [.ref 1, .int x1] [.int (nI 1)] E I J S _
              refine w_end (E' := E) (I' := I) (J' := J) (S' := S) am_e86 rfl rfl rfl (q_mkI ?_)
              show am_ww 82 65 [.ref 1, .int x1] [.int (nI 1)] E I J S _
              refine w_st (i' := 68) (ls' := [.ref 1, .int x1]) (st' := []) (E' := E) (I' := I) (J' := J) (S' := S) am_e82 rfl rfl rfl rfl ?_
              refine w_st (i' := 69) (ls' := [.ref 1, .int x1]) (st' := [.ref 1]) (E' := E) (I' := I) (J' := J) (S' := S) am_e82 rfl rfl rfl rfl ?_
              refine w_st (i' := 70) (ls' := [.ref 1, .int x1]) (st' := [.int x1, .ref 1]) (E' := E) (I' := I) (J' := J) (S' := S) am_e82 rfl rfl rfl rfl ?_
              refine w_cI am_e82 rfl rfl (as := [.ref 1, .int x1]) (rest := []) rfl rfl (am_ww.mono h ?_)
              rintro _ E4 I4 J4 S4 ⟨v4, rfl, h⟩
              refine q_mkI ?_
              exact w_ri am_e82 rfl rfl h
        by_cases c1 : ((I 1) 15) = nI 1
        · replace h := h.2.1 c1
          refine w_to (i2 := 39) (by rw [c1]; first | done | rfl) ?_
          refine w_st (i' := 40) (ls' := [.ref 1]) (st' := [.int (nI 1)]) (E' := E) (I' := I) (J' := J) (S' := S) am_e87 rfl rfl rfl rfl ?_
          refine w_end (E' := E) (I' := I) (J' := J) (S' := S) am_e87 rfl rfl rfl (q_mkI ?_)
          show am_ww 86 36 [.ref 1, .int x1] [.int (nI 1)] E I J S _
          refine w_end (E' := E) (I' := I) (J' := J) (S' := S) am_e86 rfl rfl rfl (q_mkI ?_)
          show am_ww 82 65 [.ref 1, .int x1] [.int (nI 1)] E I J S _
          refine w_st (i' := 68) (ls' := [.ref 1, .int x1]) (st' := []) (E' := E) (I' := I) (J' := J) (S' := S) am_e82 rfl rfl rfl rfl ?_
          refine w_st (i' := 69) (ls' := [.ref 1, .int x1]) (st' := [.ref 1]) (E' := E) (I' := I) (J' := J) (S' := S) am_e82 rfl rfl rfl rfl ?_
          refine w_st (i' := 70) (ls' := [.ref 1, .int x1]) (st' := [.int x1, .ref 1]) (E' := E) (I' := I) (J' := J) (S' := S) am_e82 rfl rfl rfl rfl ?_
          refine w_cI am_e82 rfl rfl (as := [.ref 1, .int x1]) (rest := []) rfl rfl (am_ww.mono h ?_)
          rintro _ E5 I5 J5 S5 ⟨v5, rfl, h⟩
          refine q_mkI ?_
          exact w_ri am_e82 rfl rfl h
        by_cases c2 : ((I 1) 15) = nI 2
        · replace h := h.2.2.1 c2
          refine w_to (i2 := 15) (by rw [c2]; first | done | rfl) ?_
          refine w_st (i' := 16) (ls' := [.ref 1]) (st' := [.ref 1]) (E' := E) (I' := I) (J' := J) (S' := S) am_e87 rfl rfl rfl rfl ?_
          refine w_st (i' := 17) (ls' := [.ref 1]) (st' := [.int ((I 1) 7)]) (E' := E) (I' := I) (J' := J) (S' := S) am_e87 rfl rfl rfl rfl ?_
          refine w_st (i' := 18) (ls' := [.ref 1]) (st' := [.int (nI 1), .int ((I 1) 7)]) (E' := E) (I' := I) (J' := J) (S' := S) am_e87 rfl rfl rfl rfl ?_
          refine w_if2 am_e87 rfl rfl (fun c => ?_) (fun c => ?_)
          · replace h := h.1 (of_decide_eq_true c)
            refine w_st (i' := 26) (ls' := [.ref 1]) (st' := [.int (nI 0)]) (E' := E) (I' := I) (J' := J) (S' := S) am_e87 rfl rfl rfl rfl ?_
            refine w_end (E' := E) (I' := I) (J' := J) (S' := S) am_e87 rfl rfl rfl (q_mkI ?_)
            show am_ww 86 36 [.ref 1, .int x1] [.int (nI 0)] E I J S _
            refine w_end (E' := E) (I' := I) (J' := J) (S' := S) am_e86 rfl rfl rfl (q_mkI ?_)
            show am_ww 82 65 [.ref 1, .int x1] [.int (nI 0)] E I J S _
            refine w_st (i' := 66) (ls' := [.ref 1, .int x1]) (st' := []) (E' := E) (I' := I) (J' := J) (S' := S) am_e82 rfl rfl rfl rfl ?_
            refine w_st (i' := 67) (ls' := [.ref 1, .int x1]) (st' := [.int (nI 2)]) (E' := E) (I' := I) (J' := J) (S' := S) am_e82 rfl rfl rfl rfl ?_
            exact w_end am_e82 rfl rfl rfl h
          · replace h := h.2 (of_decide_eq_false c)
            refine w_st (i' := 20) (ls' := [.ref 1]) (st' := [.ref 1]) (E' := E) (I' := I) (J' := J) (S' := S) am_e87 rfl rfl rfl rfl ?_
            refine w_st (i' := 21) (ls' := [.ref 1]) (st' := [.int ((I 1) 7)]) (E' := E) (I' := I) (J' := J) (S' := S) am_e87 rfl rfl rfl rfl ?_
            refine w_st (i' := 22) (ls' := [.ref 1]) (st' := [.int (nI 50), .int ((I 1) 7)]) (E' := E) (I' := I) (J' := J) (S' := S) am_e87 rfl rfl rfl rfl ?_
            refine w_if2 am_e87 rfl rfl (fun c => ?_) (fun c => ?_)
            · replace h := h.1 (of_decide_eq_true c)
              refine w_st (i' := 26) (ls' := [.ref 1]) (st' := [.int (nI 0)]) (E' := E) (I' := I) (J' := J) (S' := S) am_e87 rfl rfl rfl rfl ?_
              refine w_end (E' := E) (I' := I) (J' := J) (S' := S) am_e87 rfl rfl rfl (q_mkI ?_)
              show am_ww 86 36 [.ref 1, .int x1] [.int (nI 0)] E I J S _
              refine w_end (E' := E) (I' := I) (J' := J) (S' := S) am_e86 rfl rfl rfl (q_mkI ?_)
              show am_ww 82 65 [.ref 1, .int x1] [.int (nI 0)] E I J S _
              refine w_st (i' := 66) (ls' := [.ref 1, .int x1]) (st' := []) (E' := E) (I' := I) (J' := J) (S' := S) am_e82 rfl rfl rfl rfl ?_
              refine w_st (i' := 67) (ls' := [.ref 1, .int x1]) (st' := [.int (nI 2)]) (E' := E) (I' := I) (J' := J) (S' := S) am_e82 rfl rfl rfl rfl ?_
              exact w_end am_e82 rfl rfl rfl h
            · replace h := h.2 (of_decide_eq_false c)
              refine w_st (i' := 24) (ls' := [.ref 1]) (st' := [.int (nI 1)]) (E' := E) (I' := I) (J' := J) (S' := S) am_e87 rfl rfl rfl rfl ?_
              refine w_st (i' := 26) (ls' := [.ref 1]) (st' := [.int (nI 1)]) (E' := E) (I' := I) (J' := J) (S' := S) am_e87 rfl rfl rfl rfl ?_
              refine w_end (E' := E) (I' := I) (J' := J) (S' := S) am_e87 rfl rfl rfl (q_mkI ?_)
              show am_ww 86 36 [.ref 1, .int x1] [.int (nI 1)] E I J S _
              refine w_end (E' := E) (I' := I) (J' := J) (S' := S) am_e86 rfl rfl rfl (q_mkI ?_)
              show am_ww 82 65 [.ref 1, .int x1] [.int (nI 1)] E I J S _
              refine w_st (i' := 68) (ls' := [.ref 1, .int x1]) (st' := []) (E' := E) (I' := I) (J' := J) (S' := S) am_e82 rfl rfl rfl rfl ?_
              refine w_st (i' := 69) (ls' := [.ref 1, .int x1]) (st' := [.ref 1]) (E' := E) (I' := I) (J' := J) (S' := S) am_e82 rfl rfl rfl rfl ?_
              refine w_st (i' := 70) (ls' := [.ref 1, .int x1]) (st' := [.int x1, .ref 1]) (E' := E) (I' := I) (J' := J) (S' := S) am_e82 rfl rfl rfl rfl ?_
              refine w_cI am_e82 rfl rfl (as := [.ref 1, .int x1]) (rest := []) rfl rfl (am_ww.mono h ?_)
              rintro _ E6 I6 J6 S6 ⟨v6, rfl, h⟩
              refine q_mkI ?_
              exact w_ri am_e82 rfl rfl h
        by_cases c3 : ((I 1) 15) = nI 3
        · replace h := h.2.2.2.1 c3
          refine w_to (i2 := 27) (by rw [c3]; first | done | rfl) ?_
          refine w_st (i' := 28) (ls' := [.ref 1]) (st' := [.ref 1]) (E' := E) (I' := I) (J' := J) (S' := S) am_e87 rfl rfl rfl rfl ?_
          refine w_st (i' := 29) (ls' := [.ref 1]) (st' := [.int ((I 1) 7)]) (E' := E) (I' := I) (J' := J) (S' := S) am_e87 rfl rfl rfl rfl ?_
          refine w_st (i' := 30) (ls' := [.ref 1]) (st' := [.int (nI 2), .int ((I 1) 7)]) (E' := E) (I' := I) (J' := J) (S' := S) am_e87 rfl rfl rfl rfl ?_
          refine w_if2 am_e87 rfl rfl (fun c => ?_) (fun c => ?_)
          · replace h := h.1 (of_decide_eq_true c)
            refine w_st (i' := 38) (ls' := [.ref 1]) (st' := [.int (nI 0)]) (E' := E) (I' := I) (J' := J) (S' := S) am_e87 rfl rfl rfl rfl ?_
            refine w_end (E' := E) (I' := I) (J' := J) (S' := S) am_e87 rfl rfl rfl (q_mkI ?_)
            show am_ww 86 36 [.ref 1, .int x1] [.int (nI 0)] E I J S _
            refine w_end (E' := E) (I' := I) (J' := J) (S' := S) am_e86 rfl rfl rfl (q_mkI ?_)
            show am_ww 82 65 [.ref 1, .int x1] [.int (nI 0)] E I J S _
            refine w_st (i' := 66) (ls' := [.ref 1, .int x1]) (st' := []) (E' := E) (I' := I) (J' := J) (S' := S) am_e82 rfl rfl rfl rfl ?_
            refine w_st (i' := 67) (ls' := [.ref 1, .int x1]) (st' := [.int (nI 2)]) (E' := E) (I' := I) (J' := J) (S' := S) am_e82 rfl rfl rfl rfl ?_
            exact w_end am_e82 rfl rfl rfl h
          · replace h := h.2 (of_decide_eq_false c)
            refine w_st (i' := 32) (ls' := [.ref 1]) (st' := [.ref 1]) (E' := E) (I' := I) (J' := J) (S' := S) am_e87 rfl rfl rfl rfl ?_
            refine w_st (i' := 33) (ls' := [.ref 1]) (st' := [.int ((I 1) 7)]) (E' := E) (I' := I) (J' := J) (S' := S) am_e87 rfl rfl rfl rfl ?_
            refine w_st (i' := 34) (ls' := [.ref 1]) (st' := [.int (nI 8), .int ((I 1) 7)]) (E' := E) (I' := I) (J' := J) (S' := S) am_e87 rfl rfl rfl rfl ?_
            refine w_if2 am_e87 rfl rfl (fun c => ?_) (fun c => ?_)
            · replace h := h.1 (of_decide_eq_true c)
              refine w_st (i' := 38) (ls' := [.ref 1]) (st' := [.int (nI 0)]) (E' := E) (I' := I) (J' := J) (S' := S) am_e87 rfl rfl rfl rfl ?_
              refine w_end (E' := E) (I' := I) (J' := J) (S' := S) am_e87 rfl rfl rfl (q_mkI ?_)
              show am_ww 86 36 [.ref 1, .int x1] [.int (nI 0)] E I J S _
              refine w_end (E' := E) (I' := I) (J' := J) (S' := S) am_e86 rfl rfl rfl (q_mkI ?_)
              show am_ww 82 65 [.ref 1, .int x1] [.int (nI 0)] E I J S _
              refine w_st (i' := 66) (ls' := [.ref 1, .int x1]) (st' := []) (E' := E) (I' := I) (J' := J) (S' := S) am_e82 rfl rfl rfl rfl ?_
              refine w_st (i' := 67) (ls' := [.ref 1, .int x1]) (st' := [.int (nI 2)]) (E' := E) (I' := I) (J' := J) (S' := S) am_e82 rfl rfl rfl rfl ?_
              exact w_end am_e82 rfl rfl rfl h
            · replace h := h.2 (of_decide_eq_false c)
              refine w_st (i' := 36) (ls' := [.ref 1]) (st' := [.int (nI 1)]) (E' := E) (I' := I) (J' := J) (S' := S) am_e87 rfl rfl rfl rfl ?_
              refine w_st (i' := 38) (ls' := [.ref 1]) (st' := [.int (nI 1)]) (E' := E) (I' := I) (J' := J) (S' := S) am_e87 rfl rfl rfl rfl ?_
              refine w_end (E' := E) (I' := I) (J' := J) (S' := S) am_e87 rfl rfl rfl (q_mkI ?_)
              show am_ww 86 36 [.ref 1, .int x1] [.int (nI 1)] E I J S _
              refine w_end (E' := E) (I' := I) (J' := J) (S' := S) am_e86 rfl rfl rfl (q_mkI ?_)
              show am_ww 82 65 [.ref 1, .int x1] [.int (nI 1)] E I J S _
              refine w_st (i' := 68) (ls' := [.ref 1, .int x1]) (st' := []) (E' := E) (I' := I) (J' := J) (S' := S) am_e82 rfl rfl rfl rfl ?_
              refine w_st (i' := 69) (ls' := [.ref 1, .int x1]) (st' := [.ref 1]) (E' := E) (I' := I) (J' := J) (S' := S) am_e82 rfl rfl rfl rfl ?_
              refine w_st (i' := 70) (ls' := [.ref 1, .int x1]) (st' := [.int x1, .ref 1]) (E' := E) (I' := I) (J' := J) (S' := S) am_e82 rfl rfl rfl rfl ?_
              refine w_cI am_e82 rfl rfl (as := [.ref 1, .int x1]) (rest := []) rfl rfl (am_ww.mono h ?_)
              rintro _ E7 I7 J7 S7 ⟨v7, rfl, h⟩
              refine q_mkI ?_
              exact w_ri am_e82 rfl rfl h
        replace h := h.2.2.2.2 c0 c1 c2 c3
        refine w_to (i2 := 39) (am_tb_out (lo := 0) (up := 3) (by intro q h1 h2; have : q = 0 ∨ q = 1 ∨ q = 2 ∨ q = 3 := (by omega); rcases this with rfl | rfl | rfl | rfl <;> assumption)) ?_
        refine w_st (i' := 40) (ls' := [.ref 1]) (st' := [.int (nI 1)]) (E' := E) (I' := I) (J' := J) (S' := S) am_e87 rfl rfl rfl rfl ?_
        refine w_end (E' := E) (I' := I) (J' := J) (S' := S) am_e87 rfl rfl rfl (q_mkI ?_)
        show am_ww 86 36 [.ref 1, .int x1] [.int (nI 1)] E I J S _
        refine w_end (E' := E) (I' := I) (J' := J) (S' := S) am_e86 rfl rfl rfl (q_mkI ?_)
        show am_ww 82 65 [.ref 1, .int x1] [.int (nI 1)] E I J S _
        refine w_st (i' := 68) (ls' := [.ref 1, .int x1]) (st' := []) (E' := E) (I' := I) (J' := J) (S' := S) am_e82 rfl rfl rfl rfl ?_
        refine w_st (i' := 69) (ls' := [.ref 1, .int x1]) (st' := [.ref 1]) (E' := E) (I' := I) (J' := J) (S' := S) am_e82 rfl rfl rfl rfl ?_
        refine w_st (i' := 70) (ls' := [.ref 1, .int x1]) (st' := [.int x1, .ref 1]) (E' := E) (I' := I) (J' := J) (S' := S) am_e82 rfl rfl rfl rfl ?_
        refine w_cI am_e82 rfl rfl (as := [.ref 1, .int x1]) (rest := []) rfl rfl (am_ww.mono h ?_)
        rintro _ E8 I8 J8 S8 ⟨v8, rfl, h⟩
        refine q_mkI ?_
        exact w_ri am_e82 rfl rfl h
      by_cases c114 : x1 = nI 114
      · replace h := h.2.2.2.2.1 c114
        refine w_to (i2 := 2) (by rw [c114]; first | done | rfl) ?_
        refine w_st (i' := 3) (ls' := [.ref 1, .int x1]) (st' := [.ref 1]) (E' := E) (I' := I) (J' := J) (S' := S) am_e86 rfl rfl rfl rfl ?_
        refine w_st (i' := 4) (ls' := [.ref 1, .int x1]) (st' := [.int ((I 1) 7)]) (E' := E) (I' := I) (J' := J) (S' := S) am_e86 rfl rfl rfl rfl ?_
        refine w_st (i' := 5) (ls' := [.ref 1, .int x1]) (st' := [.int (nI 4), .int ((I 1) 7)]) (E' := E) (I' := I) (J' := J) (S' := S) am_e86 rfl rfl rfl rfl ?_
        refine w_if2 am_e86 rfl rfl (fun c => ?_) (fun c => ?_)
        · replace h := h.1 (of_decide_eq_true c)
          refine w_st (i' := 9) (ls' := [.ref 1, .int x1]) (st' := [.int (nI 0)]) (E' := E) (I' := I) (J' := J) (S' := S) am_e86 rfl rfl rfl rfl ?_
          refine w_end (E' := E) (I' := I) (J' := J) (S' := S) am_e86 rfl rfl rfl (q_mkI ?_)
          show am_ww 82 65 [.ref 1, .int x1] [.int (nI 0)] E I J S _
          refine w_st (i' := 66) (ls' := [.ref 1, .int x1]) (st' := []) (E' := E) (I' := I) (J' := J) (S' := S) am_e82 rfl rfl rfl rfl ?_
          refine w_st (i' := 67) (ls' := [.ref 1, .int x1]) (st' := [.int (nI 2)]) (E' := E) (I' := I) (J' := J) (S' := S) am_e82 rfl rfl rfl rfl ?_
          exact w_end am_e82 rfl rfl rfl h
        · replace h := h.2 (of_decide_eq_false c)
          refine w_st (i' := 7) (ls' := [.ref 1, .int x1]) (st' := [.int (nI 1)]) (E' := E) (I' := I) (J' := J) (S' := S) am_e86 rfl rfl rfl rfl ?_
          refine w_st (i' := 9) (ls' := [.ref 1, .int x1]) (st' := [.int (nI 1)]) (E' := E) (I' := I) (J' := J) (S' := S) am_e86 rfl rfl rfl rfl ?_
          refine w_end (E' := E) (I' := I) (J' := J) (S' := S) am_e86 rfl rfl rfl (q_mkI ?_)
          show am_ww 82 65 [.ref 1, .int x1] [.int (nI 1)] E I J S _
          refine w_st (i' := 68) (ls' := [.ref 1, .int x1]) (st' := []) (E' := E) (I' := I) (J' := J) (S' := S) am_e82 rfl rfl rfl rfl ?_
          refine w_st (i' := 69) (ls' := [.ref 1, .int x1]) (st' := [.ref 1]) (E' := E) (I' := I) (J' := J) (S' := S) am_e82 rfl rfl rfl rfl ?_
          refine w_st (i' := 70) (ls' := [.ref 1, .int x1]) (st' := [.int x1, .ref 1]) (E' := E) (I' := I) (J' := J) (S' := S) am_e82 rfl rfl rfl rfl ?_
          refine w_cI am_e82 rfl rfl (as := [.ref 1, .int x1]) (rest := []) rfl rfl (am_ww.mono h ?_)
          rintro _ E9 I9 J9 S9 ⟨v9, rfl, h⟩
          refine q_mkI ?_
          exact w_ri am_e82 rfl rfl h
      by_cases c115 : x1 = nI 115
      · replace h := h.2.2.2.2.2.1 c115
        refine w_to (i2 := 18) (by rw [c115]; first | done | rfl) ?_
        refine w_st (i' := 19) (ls' := [.ref 1, .int x1]) (st' := [.ref 1]) (E' := E) (I' := I) (J' := J) (S' := S) am_e86 rfl rfl rfl rfl ?_
        refine w_st (i' := 20) (ls' := [.ref 1, .int x1]) (st' := [.int ((I 1) 7)]) (E' := E) (I' := I) (J' := J) (S' := S) am_e86 rfl rfl rfl rfl ?_
        refine w_st (i' := 21) (ls' := [.ref 1, .int x1]) (st' := [.int (nI 3), .int ((I 1) 7)]) (E' := E) (I' := I) (J' := J) (S' := S) am_e86 rfl rfl rfl rfl ?_
        refine w_if2 am_e86 rfl rfl (fun c => ?_) (fun c => ?_)
        · replace h := h.1 (of_decide_eq_true c)
          refine w_st (i' := 25) (ls' := [.ref 1, .int x1]) (st' := [.int (nI 0)]) (E' := E) (I' := I) (J' := J) (S' := S) am_e86 rfl rfl rfl rfl ?_
          refine w_end (E' := E) (I' := I) (J' := J) (S' := S) am_e86 rfl rfl rfl (q_mkI ?_)
          show am_ww 82 65 [.ref 1, .int x1] [.int (nI 0)] E I J S _
          refine w_st (i' := 66) (ls' := [.ref 1, .int x1]) (st' := []) (E' := E) (I' := I) (J' := J) (S' := S) am_e82 rfl rfl rfl rfl ?_
          refine w_st (i' := 67) (ls' := [.ref 1, .int x1]) (st' := [.int (nI 2)]) (E' := E) (I' := I) (J' := J) (S' := S) am_e82 rfl rfl rfl rfl ?_
          exact w_end am_e82 rfl rfl rfl h
        · replace h := h.2 (of_decide_eq_false c)
          refine w_st (i' := 23) (ls' := [.ref 1, .int x1]) (st' := [.int (nI 1)]) (E' := E) (I' := I) (J' := J) (S' := S) am_e86 rfl rfl rfl rfl ?_
          refine w_st (i' := 25) (ls' := [.ref 1, .int x1]) (st' := [.int (nI 1)]) (E' := E) (I' := I) (J' := J) (S' := S) am_e86 rfl rfl rfl rfl ?_
          refine w_end (E' := E) (I' := I) (J' := J) (S' := S) am_e86 rfl rfl rfl (q_mkI ?_)
          show am_ww 82 65 [.ref 1, .int x1] [.int (nI 1)] E I J S _
          refine w_st (i' := 68) (ls' := [.ref 1, .int x1]) (st' := []) (E' := E) (I' := I) (J' := J) (S' := S) am_e82 rfl rfl rfl rfl ?_
          refine w_st (i' := 69) (ls' := [.ref 1, .int x1]) (st' := [.ref 1]) (E' := E) (I' := I) (J' := J) (S' := S) am_e82 rfl rfl rfl rfl ?_
          refine w_st (i' := 70) (ls' := [.ref 1, .int x1]) (st' := [.int x1, .ref 1]) (E' := E) (I' := I) (J' := J) (S' := S) am_e82 rfl rfl rfl rfl ?_
          refine w_cI am_e82 rfl rfl (as := [.ref 1, .int x1]) (rest := []) rfl rfl (am_ww.mono h ?_)
          rintro _ E10 I10 J10 S10 ⟨v10, rfl, h⟩
          refine q_mkI ?_
          exact w_ri am_e82 rfl rfl h
      replace h := h.2.2.2.2.2.2 c67 c99 c108 c110 c114 c115
      refine w_to (i2 := 37) (am_lk_out (by intro q h1; have : q = 67 ∨ q = 99 ∨ q = 108 ∨ q = 110 ∨ q = 114 ∨ q = 115 := (by simpa using h1); rcases this with rfl | rfl | rfl | rfl | rfl | rfl <;> assumption)) ?_
      refine w_st (i' := 38) (ls' := [.ref 1, .int x1]) (st' := [.int (nI 1)]) (E' := E) (I' := I) (J' := J) (S' := S) am_e86 rfl rfl rfl rfl ?_
      refine w_end (E' := E) (I' := I) (J' := J) (S' := S) am_e86 rfl rfl rfl (q_mkI ?_)
      show am_ww 82 65 [.ref 1, .int x1] [.int (nI 1)] E I J S _
      refine w_st (i' := 68) (ls' := [.ref 1, .int x1]) (st' := []) (E' := E) (I' := I) (J' := J) (S' := S) am_e82 rfl rfl rfl rfl ?_
      refine w_st (i' := 69) (ls' := [.ref 1, .int x1]) (st' := [.ref 1]) (E' := E) (I' := I) (J' := J) (S' := S) am_e82 rfl rfl rfl rfl ?_
      refine w_st (i' := 70) (ls' := [.ref 1, .int x1]) (st' := [.int x1, .ref 1]) (E' := E) (I' := I) (J' := J) (S' := S) am_e82 rfl rfl rfl rfl ?_
      refine w_cI am_e82 rfl rfl (as := [.ref 1, .int x1]) (rest := []) rfl rfl (am_ww.mono h ?_)
      rintro _ E11 I11 J11 S11 ⟨v11, rfl, h⟩
      refine q_mkI ?_
      exact w_ri am_e82 rfl rfl h
  · replace h := h.2 (of_decide_eq_false c)
    refine w_st (i' := 57) (ls' := [.ref 1, .int x1]) (st' := [.int (nI 1)]) (E' := E) (I' := I) (J' := J) (S' := S) am_e82 rfl rfl rfl rfl ?_
    exact w_end am_e82 rfl rfl rfl h
-- 83 takeName
theorem g83_0  {E : am_Ev} {I : Nat → Nat → Int32} {J : Nat → Nat → Int64} {S : Nat → Nat → Option Nat} {Q : am_Qt}  (h : (((I 1) 6) = (nI 2) → ((((I 1) 8) = (-1) → (((((I 1) 5) - ((I 1) 4)) ≤ (nI 8) → (vp_in ((I 1) 14) 64 ∧ (∃ q2 : Nat, S 1 11 = some q2 ∧ q2 < 55 ∧ (am_cl 67 [.ref (2000000 + q2)] E (u_I (u_I I 11 (upd (I 11) (((I 1) 14).toNatClampNeg) ((I 1) 4))) 1 (upd (I 1) 12 (((I 1) 12) + (nI 1)))) (u_J J 10 (vp_updL (J 10) (((I 1) 14).toNatClampNeg) ((J 1) 9))) S (q_I fun v3 E3 I3 J3 S3 => ((((I 1) 12) + (nI 1)) < v3 → (Q (.inl (some (.int (nI 0)))) E3 I3 J3 S3)) ∧ (¬ (((I 1) 12) + (nI 1)) < v3 → (Q (.inl (some (.int (nI 0)))) E3 (u_I I3 1 (upd (I3 1) 10 (nI 5))) J3 S3))))))) ∧ (¬ (((I 1) 5) - ((I 1) 4)) ≤ (nI 8) → (Q (.inl (some (.int (nI 2)))) E I J S)))) ∧ (¬ ((I 1) 8) = (-1) → (Q (.inl (some (.int (nI 1)))) E I J S)))) ∧ (¬ ((I 1) 6) = (nI 2) → (Q (.inl (some (.int (nI 1)))) E I J S))) : am_ww 83 0 [.ref 1] [] E I J S Q := by
  refine w_st (i' := 1) (ls' := [.ref 1]) (st' := [.ref 1]) (E' := E) (I' := I) (J' := J) (S' := S) am_e83 rfl rfl rfl rfl ?_
  refine w_st (i' := 2) (ls' := [.ref 1]) (st' := [.int ((I 1) 6)]) (E' := E) (I' := I) (J' := J) (S' := S) am_e83 rfl rfl rfl rfl ?_
  refine w_st (i' := 3) (ls' := [.ref 1]) (st' := [.int (nI 2), .int ((I 1) 6)]) (E' := E) (I' := I) (J' := J) (S' := S) am_e83 rfl rfl rfl rfl ?_
  refine w_if2 am_e83 rfl rfl (fun c => ?_) (fun c => ?_)
  · replace h := h.2 (of_decide_eq_true c)
    refine w_st (i' := 9) (ls' := [.ref 1]) (st' := [.int (nI 1)]) (E' := E) (I' := I) (J' := J) (S' := S) am_e83 rfl rfl rfl rfl ?_
    exact w_end am_e83 rfl rfl rfl h
  · replace h := h.1 (Decidable.not_not.mp (of_decide_eq_false c))
    refine w_st (i' := 5) (ls' := [.ref 1]) (st' := [.ref 1]) (E' := E) (I' := I) (J' := J) (S' := S) am_e83 rfl rfl rfl rfl ?_
    refine w_st (i' := 6) (ls' := [.ref 1]) (st' := [.int ((I 1) 8)]) (E' := E) (I' := I) (J' := J) (S' := S) am_e83 rfl rfl rfl rfl ?_
    refine w_st (i' := 7) (ls' := [.ref 1]) (st' := [.int (-1), .int ((I 1) 8)]) (E' := E) (I' := I) (J' := J) (S' := S) am_e83 rfl rfl rfl rfl ?_
    refine w_if2 am_e83 rfl rfl (fun c => ?_) (fun c => ?_)
    · replace h := h.1 (of_decide_eq_true c)
      refine w_st (i' := 11) (ls' := [.ref 1]) (st' := [.ref 1]) (E' := E) (I' := I) (J' := J) (S' := S) am_e83 rfl rfl rfl rfl ?_
      refine w_cI am_e83 rfl rfl (as := [.ref 1]) (rest := []) rfl rfl ?_
      show am_ww 84 0 [.ref 1] [] E I J S _
      refine w_st (i' := 1) (ls' := [.ref 1]) (st' := [.ref 1]) (E' := E) (I' := I) (J' := J) (S' := S) am_e84 rfl rfl rfl rfl ?_
      refine w_st (i' := 2) (ls' := [.ref 1]) (st' := [.int ((I 1) 5)]) (E' := E) (I' := I) (J' := J) (S' := S) am_e84 rfl rfl rfl rfl ?_
      refine w_st (i' := 3) (ls' := [.ref 1]) (st' := [.ref 1, .int ((I 1) 5)]) (E' := E) (I' := I) (J' := J) (S' := S) am_e84 rfl rfl rfl rfl ?_
      refine w_st (i' := 4) (ls' := [.ref 1]) (st' := [.int ((I 1) 4), .int ((I 1) 5)]) (E' := E) (I' := I) (J' := J) (S' := S) am_e84 rfl rfl rfl rfl ?_
      refine w_st (i' := 5) (ls' := [.ref 1]) (st' := [.int (((I 1) 5) - ((I 1) 4))]) (E' := E) (I' := I) (J' := J) (S' := S) am_e84 rfl rfl rfl rfl ?_
      refine w_st (i' := 6) (ls' := [.ref 1]) (st' := [.int (nI 8), .int (((I 1) 5) - ((I 1) 4))]) (E' := E) (I' := I) (J' := J) (S' := S) am_e84 rfl rfl rfl rfl ?_
      refine w_if2 am_e84 rfl rfl (fun c => ?_) (fun c => ?_)
      · replace h := h.1 (of_decide_eq_true c)
        refine w_st (i' := 10) (ls' := [.ref 1]) (st' := [.int (nI 0)]) (E' := E) (I' := I) (J' := J) (S' := S) am_e84 rfl rfl rfl rfl ?_
        refine w_end (E' := E) (I' := I) (J' := J) (S' := S) am_e84 rfl rfl rfl (q_mkI ?_)
        show am_ww 83 12 [.ref 1] [.int (nI 0)] E I J S _
        refine w_st (i' := 15) (ls' := [.ref 1]) (st' := []) (E' := E) (I' := I) (J' := J) (S' := S) am_e83 rfl rfl rfl rfl ?_
        refine w_st (i' := 16) (ls' := [.ref 1]) (st' := [.ref 1]) (E' := E) (I' := I) (J' := J) (S' := S) am_e83 rfl rfl rfl rfl ?_
        refine w_st (i' := 17) (ls' := [.ref 1]) (st' := [.ref 10]) (E' := E) (I' := I) (J' := J) (S' := S) am_e83 rfl rfl rfl rfl ?_
        refine w_st (i' := 18) (ls' := [.ref 1]) (st' := [.ref 1, .ref 10]) (E' := E) (I' := I) (J' := J) (S' := S) am_e83 rfl rfl rfl rfl ?_
        refine w_st (i' := 19) (ls' := [.ref 1]) (st' := [.int ((I 1) 14), .ref 10]) (E' := E) (I' := I) (J' := J) (S' := S) am_e83 rfl rfl rfl rfl ?_
        refine w_st (i' := 20) (ls' := [.ref 1]) (st' := [.ref 1, .int ((I 1) 14), .ref 10]) (E' := E) (I' := I) (J' := J) (S' := S) am_e83 rfl rfl rfl rfl ?_
        refine w_st (i' := 21) (ls' := [.ref 1]) (st' := [.long ((J 1) 9), .int ((I 1) 14), .ref 10]) (E' := E) (I' := I) (J' := J) (S' := S) am_e83 rfl rfl rfl rfl ?_
        have hf1 := h.1
        replace h := h.2
        refine w_ls (k := 10) (n := 64) (jn := ((I 1) 14).toNatClampNeg) am_e83 rfl rfl (by decide) hf1 rfl ?_
        show am_ww 83 22 [.ref 1] [] E I (u_J J 10 (vp_updL (J 10) (((I 1) 14).toNatClampNeg) ((J 1) 9))) S _
        refine w_st (i' := 23) (ls' := [.ref 1]) (st' := [.ref 1]) (E' := E) (I' := I) (J' := (u_J J 10 (vp_updL (J 10) (((I 1) 14).toNatClampNeg) ((J 1) 9)))) (S' := S) am_e83 rfl rfl rfl rfl ?_
        refine w_st (i' := 24) (ls' := [.ref 1]) (st' := [.ref 11]) (E' := E) (I' := I) (J' := (u_J J 10 (vp_updL (J 10) (((I 1) 14).toNatClampNeg) ((J 1) 9)))) (S' := S) am_e83 rfl rfl rfl rfl ?_
        refine w_st (i' := 25) (ls' := [.ref 1]) (st' := [.ref 1, .ref 11]) (E' := E) (I' := I) (J' := (u_J J 10 (vp_updL (J 10) (((I 1) 14).toNatClampNeg) ((J 1) 9)))) (S' := S) am_e83 rfl rfl rfl rfl ?_
        refine w_st (i' := 26) (ls' := [.ref 1]) (st' := [.int ((I 1) 14), .ref 11]) (E' := E) (I' := I) (J' := (u_J J 10 (vp_updL (J 10) (((I 1) 14).toNatClampNeg) ((J 1) 9)))) (S' := S) am_e83 rfl rfl rfl rfl ?_
        refine w_st (i' := 27) (ls' := [.ref 1]) (st' := [.ref 1, .int ((I 1) 14), .ref 11]) (E' := E) (I' := I) (J' := (u_J J 10 (vp_updL (J 10) (((I 1) 14).toNatClampNeg) ((J 1) 9)))) (S' := S) am_e83 rfl rfl rfl rfl ?_
        refine w_st (i' := 28) (ls' := [.ref 1]) (st' := [.int ((I 1) 4), .int ((I 1) 14), .ref 11]) (E' := E) (I' := I) (J' := (u_J J 10 (vp_updL (J 10) (((I 1) 14).toNatClampNeg) ((J 1) 9)))) (S' := S) am_e83 rfl rfl rfl rfl ?_
        refine w_is (k := 11) (n := 64) (jn := ((I 1) 14).toNatClampNeg) am_e83 rfl rfl (by decide) hf1 rfl ?_
        show am_ww 83 29 [.ref 1] [] E (u_I I 11 (upd (I 11) (((I 1) 14).toNatClampNeg) ((I 1) 4))) (u_J J 10 (vp_updL (J 10) (((I 1) 14).toNatClampNeg) ((J 1) 9))) S _
        refine w_st (i' := 30) (ls' := [.ref 1]) (st' := [.ref 1]) (E' := E) (I' := (u_I I 11 (upd (I 11) (((I 1) 14).toNatClampNeg) ((I 1) 4)))) (J' := (u_J J 10 (vp_updL (J 10) (((I 1) 14).toNatClampNeg) ((J 1) 9)))) (S' := S) am_e83 rfl rfl rfl rfl ?_
        refine w_cV am_e83 rfl rfl (as := [.ref 1]) (rest := []) rfl rfl ?_
        show am_ww 85 0 [.ref 1] [] E (u_I I 11 (upd (I 11) (((I 1) 14).toNatClampNeg) ((I 1) 4))) (u_J J 10 (vp_updL (J 10) (((I 1) 14).toNatClampNeg) ((J 1) 9))) S _
        refine w_st (i' := 1) (ls' := [.ref 1]) (st' := [.ref 1]) (E' := E) (I' := (u_I I 11 (upd (I 11) (((I 1) 14).toNatClampNeg) ((I 1) 4)))) (J' := (u_J J 10 (vp_updL (J 10) (((I 1) 14).toNatClampNeg) ((J 1) 9)))) (S' := S) am_e85 rfl rfl rfl rfl ?_
        refine w_st (i' := 2) (ls' := [.ref 1]) (st' := [.ref 1, .ref 1]) (E' := E) (I' := (u_I I 11 (upd (I 11) (((I 1) 14).toNatClampNeg) ((I 1) 4)))) (J' := (u_J J 10 (vp_updL (J 10) (((I 1) 14).toNatClampNeg) ((J 1) 9)))) (S' := S) am_e85 rfl rfl rfl rfl ?_
        refine w_st (i' := 3) (ls' := [.ref 1]) (st' := [.int ((I 1) 12), .ref 1]) (E' := E) (I' := (u_I I 11 (upd (I 11) (((I 1) 14).toNatClampNeg) ((I 1) 4)))) (J' := (u_J J 10 (vp_updL (J 10) (((I 1) 14).toNatClampNeg) ((J 1) 9)))) (S' := S) am_e85 rfl rfl rfl rfl ?_
        refine w_st (i' := 4) (ls' := [.ref 1]) (st' := [.int (nI 1), .int ((I 1) 12), .ref 1]) (E' := E) (I' := (u_I I 11 (upd (I 11) (((I 1) 14).toNatClampNeg) ((I 1) 4)))) (J' := (u_J J 10 (vp_updL (J 10) (((I 1) 14).toNatClampNeg) ((J 1) 9)))) (S' := S) am_e85 rfl rfl rfl rfl ?_
        refine w_st (i' := 5) (ls' := [.ref 1]) (st' := [.int (((I 1) 12) + (nI 1)), .ref 1]) (E' := E) (I' := (u_I I 11 (upd (I 11) (((I 1) 14).toNatClampNeg) ((I 1) 4)))) (J' := (u_J J 10 (vp_updL (J 10) (((I 1) 14).toNatClampNeg) ((J 1) 9)))) (S' := S) am_e85 rfl rfl rfl rfl ?_
        refine w_st (i' := 6) (ls' := [.ref 1]) (st' := []) (E' := E) (I' := (u_I (u_I I 11 (upd (I 11) (((I 1) 14).toNatClampNeg) ((I 1) 4))) 1 (upd (I 1) 12 (((I 1) 12) + (nI 1))))) (J' := (u_J J 10 (vp_updL (J 10) (((I 1) 14).toNatClampNeg) ((J 1) 9)))) (S' := S) am_e85 rfl rfl rfl rfl ?_
        refine w_st (i' := 7) (ls' := [.ref 1]) (st' := [.ref 1]) (E' := E) (I' := (u_I (u_I I 11 (upd (I 11) (((I 1) 14).toNatClampNeg) ((I 1) 4))) 1 (upd (I 1) 12 (((I 1) 12) + (nI 1))))) (J' := (u_J J 10 (vp_updL (J 10) (((I 1) 14).toNatClampNeg) ((J 1) 9)))) (S' := S) am_e85 rfl rfl rfl rfl ?_
        refine w_st (i' := 8) (ls' := [.ref 1]) (st' := [.int (((I 1) 12) + (nI 1))]) (E' := E) (I' := (u_I (u_I I 11 (upd (I 11) (((I 1) 14).toNatClampNeg) ((I 1) 4))) 1 (upd (I 1) 12 (((I 1) 12) + (nI 1))))) (J' := (u_J J 10 (vp_updL (J 10) (((I 1) 14).toNatClampNeg) ((J 1) 9)))) (S' := S) am_e85 rfl rfl rfl rfl ?_
        refine w_st (i' := 9) (ls' := [.ref 1]) (st' := [.ref 1, .int (((I 1) 12) + (nI 1))]) (E' := E) (I' := (u_I (u_I I 11 (upd (I 11) (((I 1) 14).toNatClampNeg) ((I 1) 4))) 1 (upd (I 1) 12 (((I 1) 12) + (nI 1))))) (J' := (u_J J 10 (vp_updL (J 10) (((I 1) 14).toNatClampNeg) ((J 1) 9)))) (S' := S) am_e85 rfl rfl rfl rfl ?_
        obtain ⟨q2, hq, hsq2, h⟩ := h
        refine w_gs am_e85 rfl (by decide) rfl hq hsq2 ?_
        refine w_cI am_e85 rfl rfl (as := [.ref (2000000 + q2)]) (rest := [.int (((I 1) 12) + (nI 1))]) rfl (am_ckS hsq2 rfl) (am_ww.mono h ?_)
        rintro _ E3 I3 J3 S3 ⟨v3, rfl, h⟩
        refine q_mkI ?_
        refine w_if2 am_e85 rfl rfl (fun c => ?_) (fun c => ?_)
        · replace h := h.1 (of_decide_eq_true c)
          refine w_end (E' := E3) (I' := I3) (J' := J3) (S' := S3) am_e85 rfl rfl rfl (q_mkV ?_)
          show am_ww 83 31 [.ref 1] [] E3 I3 J3 S3 _
          refine w_st (i' := 32) (ls' := [.ref 1]) (st' := [.int (nI 0)]) (E' := E3) (I' := I3) (J' := J3) (S' := S3) am_e83 rfl rfl rfl rfl ?_
          exact w_end am_e83 rfl rfl rfl h
        · replace h := h.2 (of_decide_eq_false c)
          refine w_st (i' := 13) (ls' := [.ref 1]) (st' := [.ref 1]) (E' := E3) (I' := I3) (J' := J3) (S' := S3) am_e85 rfl rfl rfl rfl ?_
          refine w_st (i' := 14) (ls' := [.ref 1]) (st' := [.int (nI 5), .ref 1]) (E' := E3) (I' := I3) (J' := J3) (S' := S3) am_e85 rfl rfl rfl rfl ?_
          refine w_st (i' := 15) (ls' := [.ref 1]) (st' := []) (E' := E3) (I' := (u_I I3 1 (upd (I3 1) 10 (nI 5)))) (J' := J3) (S' := S3) am_e85 rfl rfl rfl rfl ?_
          refine w_end (E' := E3) (I' := (u_I I3 1 (upd (I3 1) 10 (nI 5)))) (J' := J3) (S' := S3) am_e85 rfl rfl rfl (q_mkV ?_)
          show am_ww 83 31 [.ref 1] [] E3 (u_I I3 1 (upd (I3 1) 10 (nI 5))) J3 S3 _
          refine w_st (i' := 32) (ls' := [.ref 1]) (st' := [.int (nI 0)]) (E' := E3) (I' := (u_I I3 1 (upd (I3 1) 10 (nI 5)))) (J' := J3) (S' := S3) am_e83 rfl rfl rfl rfl ?_
          exact w_end am_e83 rfl rfl rfl h
      · replace h := h.2 (of_decide_eq_false c)
        refine w_st (i' := 8) (ls' := [.ref 1]) (st' := [.int (nI 1)]) (E' := E) (I' := I) (J' := J) (S' := S) am_e84 rfl rfl rfl rfl ?_
        refine w_st (i' := 10) (ls' := [.ref 1]) (st' := [.int (nI 1)]) (E' := E) (I' := I) (J' := J) (S' := S) am_e84 rfl rfl rfl rfl ?_
        refine w_end (E' := E) (I' := I) (J' := J) (S' := S) am_e84 rfl rfl rfl (q_mkI ?_)
        show am_ww 83 12 [.ref 1] [.int (nI 1)] E I J S _
        refine w_st (i' := 13) (ls' := [.ref 1]) (st' := []) (E' := E) (I' := I) (J' := J) (S' := S) am_e83 rfl rfl rfl rfl ?_
        refine w_st (i' := 14) (ls' := [.ref 1]) (st' := [.int (nI 2)]) (E' := E) (I' := I) (J' := J) (S' := S) am_e83 rfl rfl rfl rfl ?_
        exact w_end am_e83 rfl rfl rfl h
    · replace h := h.2 (of_decide_eq_false c)
      refine w_st (i' := 9) (ls' := [.ref 1]) (st' := [.int (nI 1)]) (E' := E) (I' := I) (J' := J) (S' := S) am_e83 rfl rfl rfl rfl ?_
      exact w_end am_e83 rfl rfl rfl h
-- 88 takeNumber
theorem g88_0 {p1 : Int32} {E : am_Ev} {I : Nat → Nat → Int32} {J : Nat → Nat → Int64} {S : Nat → Nat → Option Nat} {Q : am_Qt}  (h : ∀ w2 : Int32, w2 = (if ((I 1) 13) = 0 then ((I 1) 7) else (-((I 1) 7))) → ((p1 = (nI 67) → (((((I 1) 16) &&& ((nI 1) <<< (((nI 8) + ((I 1) 7)) &&& 31))) = 0 → (∃ q12 : Nat, S 1 11 = some q12 ∧ q12 < 55 ∧ (am_cl 67 [.ref (2000000 + q12)] E (u_I I 1 (upd (upd (upd (I 1) 16 (((I 1) 16) ||| ((nI 1) <<< (((nI 8) + ((I 1) 7)) &&& 31)))) 15 ((I 1) 7)) 12 (((I 1) 12) + (nI 1)))) J S (q_I fun v13 E13 I13 J13 S13 => ((((I 1) 12) + (nI 1)) < v13 → (Q (.inl (some (.int (nI 0)))) E13 I13 J13 S13)) ∧ (¬ (((I 1) 12) + (nI 1)) < v13 → (Q (.inl (some (.int (nI 0)))) E13 (u_I I13 1 (upd (I13 1) 10 (nI 5))) J13 S13)))))) ∧ (¬ (((I 1) 16) &&& ((nI 1) <<< (((nI 8) + ((I 1) 7)) &&& 31))) = 0 → (Q (.inl (some (.int (nI 5)))) E I J S)))) ∧ (¬ p1 = (nI 67) → ((p1 = (nI 119) → (vp_in ((I 1) 15) 16 ∧ (∃ q10 : Nat, S 1 11 = some q10 ∧ q10 < 55 ∧ (am_cl 67 [.ref (2000000 + q10)] E (u_I (u_I I 7 (upd (I 7) (((I 1) 15).toNatClampNeg) w2)) 1 (upd (I 1) 12 (((I 1) 12) + (nI 1)))) J S (q_I fun v11 E11 I11 J11 S11 => ((((I 1) 12) + (nI 1)) < v11 → (Q (.inl (some (.int (nI 0)))) E11 I11 J11 S11)) ∧ (¬ (((I 1) 12) + (nI 1)) < v11 → (Q (.inl (some (.int (nI 0)))) E11 (u_I I11 1 (upd (I11 1) 10 (nI 5))) J11 S11))))))) ∧ (¬ p1 = (nI 119) → ((p1 = (nI 110) → (vp_in ((I 1) 15) 4 ∧ (∃ q7 : Nat, S 1 11 = some q7 ∧ q7 < 55 ∧ (am_cl 67 [.ref (2000000 + q7)] E (u_I (u_I I 8 (upd (I 8) (((I 1) 15).toNatClampNeg) w2)) 1 (upd (I 1) 12 (((I 1) 12) + (nI 1)))) J S (q_I fun v8 E8 I8 J8 S8 => ((((I 1) 12) + (nI 1)) < v8 → (Q (.inl (some (.int (nI 0)))) E8 I8 J8 S8)) ∧ (¬ (((I 1) 12) + (nI 1)) < v8 → (Q (.inl (some (.int (nI 0)))) E8 (u_I I8 1 (upd (I8 1) 10 (nI 5))) J8 S8))))))) ∧ (¬ p1 = (nI 110) → (vp_in ((((I 1) 14) * (nI 3)) + ((I 1) 12)) 192 ∧ (∃ q4 : Nat, S 1 11 = some q4 ∧ q4 < 55 ∧ (am_cl 67 [.ref (2000000 + q4)] E (u_I (u_I I 5 (upd (I 5) (((((I 1) 14) * (nI 3)) + ((I 1) 12)).toNatClampNeg) w2)) 1 (upd (I 1) 12 (((I 1) 12) + (nI 1)))) J S (q_I fun v5 E5 I5 J5 S5 => ((((I 1) 12) + (nI 1)) < v5 → (Q (.inl (some (.int (nI 0)))) E5 I5 J5 S5)) ∧ (¬ (((I 1) 12) + (nI 1)) < v5 → (Q (.inl (some (.int (nI 0)))) E5 (u_I I5 1 (upd (I5 1) 10 (nI 5))) J5 S5))))))))))))) : am_ww 88 0 [.ref 1, .int p1, am_U] [] E I J S Q := by
  refine w_st (i' := 1) (ls' := [.ref 1, .int p1, am_U]) (st' := [.ref 1]) (E' := E) (I' := I) (J' := J) (S' := S) am_e88 rfl rfl rfl rfl ?_
  refine w_st (i' := 2) (ls' := [.ref 1, .int p1, am_U]) (st' := [.int ((I 1) 13)]) (E' := E) (I' := I) (J' := J) (S' := S) am_e88 rfl rfl rfl rfl ?_
  refine w_mg (i := 9) (ls' := [.ref 1, .int p1, am_U]) (st' := [.int (if ((I 1) 13) = 0 then ((I 1) 7) else (-((I 1) 7)))]) (fun hm => ?_) ?_
  · clear h
    refine w_if1 am_e88 rfl rfl (fun c => ?_) (fun c => ?_)
    · have m1 : ((I 1) 13) = 0 := (of_decide_eq_true c)
      refine w_st (i' := 8) (ls' := [.ref 1, .int p1, am_U]) (st' := [.ref 1]) (E' := E) (I' := I) (J' := J) (S' := S) am_e88 rfl rfl rfl rfl ?_
      refine w_st (i' := 9) (ls' := [.ref 1, .int p1, am_U]) (st' := [.int ((I 1) 7)]) (E' := E) (I' := I) (J' := J) (S' := S) am_e88 rfl rfl rfl rfl ?_
      first | exact hm | (simp only [if_pos m1] at hm; exact hm)
    · have m1 : ¬ (((I 1) 13) = 0) := (of_decide_eq_false c)
      refine w_st (i' := 4) (ls' := [.ref 1, .int p1, am_U]) (st' := [.ref 1]) (E' := E) (I' := I) (J' := J) (S' := S) am_e88 rfl rfl rfl rfl ?_
      refine w_st (i' := 5) (ls' := [.ref 1, .int p1, am_U]) (st' := [.int ((I 1) 7)]) (E' := E) (I' := I) (J' := J) (S' := S) am_e88 rfl rfl rfl rfl ?_
      refine w_st (i' := 6) (ls' := [.ref 1, .int p1, am_U]) (st' := [.int (-((I 1) 7))]) (E' := E) (I' := I) (J' := J) (S' := S) am_e88 rfl rfl rfl rfl ?_
      refine w_st (i' := 9) (ls' := [.ref 1, .int p1, am_U]) (st' := [.int (-((I 1) 7))]) (E' := E) (I' := I) (J' := J) (S' := S) am_e88 rfl rfl rfl rfl ?_
      first | exact hm | (simp only [if_neg m1] at hm; exact hm)
  refine w_var (fun w2 => am_ww 88 9 [.ref 1, .int p1, am_U] [.int w2] E I J S _) (if ((I 1) 13) = 0 then ((I 1) 7) else (-((I 1) 7))) (fun w2 hw2 => ?_)
  replace h := h w2 hw2
  refine w_st (i' := 10) (ls' := [.ref 1, .int p1, .int w2]) (st' := []) (E' := E) (I' := I) (J' := J) (S' := S) am_e88 rfl rfl rfl rfl ?_
  refine w_st (i' := 11) (ls' := [.ref 1, .int p1, .int w2]) (st' := [.int p1]) (E' := E) (I' := I) (J' := J) (S' := S) am_e88 rfl rfl rfl rfl ?_
  refine w_st (i' := 12) (ls' := [.ref 1, .int p1, .int w2]) (st' := [.int (nI 67), .int p1]) (E' := E) (I' := I) (J' := J) (S' := S) am_e88 rfl rfl rfl rfl ?_
  refine w_if2 am_e88 rfl rfl (fun c => ?_) (fun c => ?_)
  · replace h := h.2 (of_decide_eq_true c)
    refine w_st (i' := 42) (ls' := [.ref 1, .int p1, .int w2]) (st' := [.int p1]) (E' := E) (I' := I) (J' := J) (S' := S) am_e88 rfl rfl rfl rfl ?_
    refine w_st (i' := 43) (ls' := [.ref 1, .int p1, .int w2]) (st' := [.int (nI 119), .int p1]) (E' := E) (I' := I) (J' := J) (S' := S) am_e88 rfl rfl rfl rfl ?_
    refine w_if2 am_e88 rfl rfl (fun c => ?_) (fun c => ?_)
    · replace h := h.2 (of_decide_eq_true c)
      refine w_st (i' := 53) (ls' := [.ref 1, .int p1, .int w2]) (st' := [.int p1]) (E' := E) (I' := I) (J' := J) (S' := S) am_e88 rfl rfl rfl rfl ?_
      refine w_st (i' := 54) (ls' := [.ref 1, .int p1, .int w2]) (st' := [.int (nI 110), .int p1]) (E' := E) (I' := I) (J' := J) (S' := S) am_e88 rfl rfl rfl rfl ?_
      refine w_if2 am_e88 rfl rfl (fun c => ?_) (fun c => ?_)
      · replace h := h.2 (of_decide_eq_true c)
        refine w_st (i' := 64) (ls' := [.ref 1, .int p1, .int w2]) (st' := [.ref 1]) (E' := E) (I' := I) (J' := J) (S' := S) am_e88 rfl rfl rfl rfl ?_
        refine w_st (i' := 65) (ls' := [.ref 1, .int p1, .int w2]) (st' := [.ref 3]) (E' := E) (I' := I) (J' := J) (S' := S) am_e88 rfl rfl rfl rfl ?_
        refine w_st (i' := 66) (ls' := [.ref 1, .int p1, .int w2]) (st' := [.ref 5]) (E' := E) (I' := I) (J' := J) (S' := S) am_e88 rfl rfl rfl rfl ?_
        refine w_st (i' := 67) (ls' := [.ref 1, .int p1, .int w2]) (st' := [.ref 1, .ref 5]) (E' := E) (I' := I) (J' := J) (S' := S) am_e88 rfl rfl rfl rfl ?_
        refine w_st (i' := 68) (ls' := [.ref 1, .int p1, .int w2]) (st' := [.int ((I 1) 14), .ref 5]) (E' := E) (I' := I) (J' := J) (S' := S) am_e88 rfl rfl rfl rfl ?_
        refine w_st (i' := 69) (ls' := [.ref 1, .int p1, .int w2]) (st' := [.int (nI 3), .int ((I 1) 14), .ref 5]) (E' := E) (I' := I) (J' := J) (S' := S) am_e88 rfl rfl rfl rfl ?_
        refine w_st (i' := 70) (ls' := [.ref 1, .int p1, .int w2]) (st' := [.int (((I 1) 14) * (nI 3)), .ref 5]) (E' := E) (I' := I) (J' := J) (S' := S) am_e88 rfl rfl rfl rfl ?_
        refine w_st (i' := 71) (ls' := [.ref 1, .int p1, .int w2]) (st' := [.ref 1, .int (((I 1) 14) * (nI 3)), .ref 5]) (E' := E) (I' := I) (J' := J) (S' := S) am_e88 rfl rfl rfl rfl ?_
        refine w_st (i' := 72) (ls' := [.ref 1, .int p1, .int w2]) (st' := [.int ((I 1) 12), .int (((I 1) 14) * (nI 3)), .ref 5]) (E' := E) (I' := I) (J' := J) (S' := S) am_e88 rfl rfl rfl rfl ?_
        refine w_st (i' := 73) (ls' := [.ref 1, .int p1, .int w2]) (st' := [.int ((((I 1) 14) * (nI 3)) + ((I 1) 12)), .ref 5]) (E' := E) (I' := I) (J' := J) (S' := S) am_e88 rfl rfl rfl rfl ?_
        refine w_st (i' := 74) (ls' := [.ref 1, .int p1, .int w2]) (st' := [.int w2, .int ((((I 1) 14) * (nI 3)) + ((I 1) 12)), .ref 5]) (E' := E) (I' := I) (J' := J) (S' := S) am_e88 rfl rfl rfl rfl ?_
        have hf3 := h.1
        replace h := h.2
        refine w_is (k := 5) (n := 192) (jn := ((((I 1) 14) * (nI 3)) + ((I 1) 12)).toNatClampNeg) am_e88 rfl rfl (by decide) hf3 rfl ?_
        show am_ww 88 75 [.ref 1, .int p1, .int w2] [] E (u_I I 5 (upd (I 5) (((((I 1) 14) * (nI 3)) + ((I 1) 12)).toNatClampNeg) w2)) J S _
        refine w_st (i' := 76) (ls' := [.ref 1, .int p1, .int w2]) (st' := [.ref 1]) (E' := E) (I' := (u_I I 5 (upd (I 5) (((((I 1) 14) * (nI 3)) + ((I 1) 12)).toNatClampNeg) w2))) (J' := J) (S' := S) am_e88 rfl rfl rfl rfl ?_
        refine w_cV am_e88 rfl rfl (as := [.ref 1]) (rest := []) rfl rfl ?_
        show am_ww 85 0 [.ref 1] [] E (u_I I 5 (upd (I 5) (((((I 1) 14) * (nI 3)) + ((I 1) 12)).toNatClampNeg) w2)) J S _
        refine w_st (i' := 1) (ls' := [.ref 1]) (st' := [.ref 1]) (E' := E) (I' := (u_I I 5 (upd (I 5) (((((I 1) 14) * (nI 3)) + ((I 1) 12)).toNatClampNeg) w2))) (J' := J) (S' := S) am_e85 rfl rfl rfl rfl ?_
        refine w_st (i' := 2) (ls' := [.ref 1]) (st' := [.ref 1, .ref 1]) (E' := E) (I' := (u_I I 5 (upd (I 5) (((((I 1) 14) * (nI 3)) + ((I 1) 12)).toNatClampNeg) w2))) (J' := J) (S' := S) am_e85 rfl rfl rfl rfl ?_
        refine w_st (i' := 3) (ls' := [.ref 1]) (st' := [.int ((I 1) 12), .ref 1]) (E' := E) (I' := (u_I I 5 (upd (I 5) (((((I 1) 14) * (nI 3)) + ((I 1) 12)).toNatClampNeg) w2))) (J' := J) (S' := S) am_e85 rfl rfl rfl rfl ?_
        refine w_st (i' := 4) (ls' := [.ref 1]) (st' := [.int (nI 1), .int ((I 1) 12), .ref 1]) (E' := E) (I' := (u_I I 5 (upd (I 5) (((((I 1) 14) * (nI 3)) + ((I 1) 12)).toNatClampNeg) w2))) (J' := J) (S' := S) am_e85 rfl rfl rfl rfl ?_
        refine w_st (i' := 5) (ls' := [.ref 1]) (st' := [.int (((I 1) 12) + (nI 1)), .ref 1]) (E' := E) (I' := (u_I I 5 (upd (I 5) (((((I 1) 14) * (nI 3)) + ((I 1) 12)).toNatClampNeg) w2))) (J' := J) (S' := S) am_e85 rfl rfl rfl rfl ?_
        refine w_st (i' := 6) (ls' := [.ref 1]) (st' := []) (E' := E) (I' := (u_I (u_I I 5 (upd (I 5) (((((I 1) 14) * (nI 3)) + ((I 1) 12)).toNatClampNeg) w2)) 1 (upd (I 1) 12 (((I 1) 12) + (nI 1))))) (J' := J) (S' := S) am_e85 rfl rfl rfl rfl ?_
        refine w_st (i' := 7) (ls' := [.ref 1]) (st' := [.ref 1]) (E' := E) (I' := (u_I (u_I I 5 (upd (I 5) (((((I 1) 14) * (nI 3)) + ((I 1) 12)).toNatClampNeg) w2)) 1 (upd (I 1) 12 (((I 1) 12) + (nI 1))))) (J' := J) (S' := S) am_e85 rfl rfl rfl rfl ?_
        refine w_st (i' := 8) (ls' := [.ref 1]) (st' := [.int (((I 1) 12) + (nI 1))]) (E' := E) (I' := (u_I (u_I I 5 (upd (I 5) (((((I 1) 14) * (nI 3)) + ((I 1) 12)).toNatClampNeg) w2)) 1 (upd (I 1) 12 (((I 1) 12) + (nI 1))))) (J' := J) (S' := S) am_e85 rfl rfl rfl rfl ?_
        refine w_st (i' := 9) (ls' := [.ref 1]) (st' := [.ref 1, .int (((I 1) 12) + (nI 1))]) (E' := E) (I' := (u_I (u_I I 5 (upd (I 5) (((((I 1) 14) * (nI 3)) + ((I 1) 12)).toNatClampNeg) w2)) 1 (upd (I 1) 12 (((I 1) 12) + (nI 1))))) (J' := J) (S' := S) am_e85 rfl rfl rfl rfl ?_
        obtain ⟨q4, hq, hsq4, h⟩ := h
        refine w_gs am_e85 rfl (by decide) rfl hq hsq4 ?_
        refine w_cI am_e85 rfl rfl (as := [.ref (2000000 + q4)]) (rest := [.int (((I 1) 12) + (nI 1))]) rfl (am_ckS hsq4 rfl) (am_ww.mono h ?_)
        rintro _ E5 I5 J5 S5 ⟨v5, rfl, h⟩
        refine q_mkI ?_
        refine w_if2 am_e85 rfl rfl (fun c => ?_) (fun c => ?_)
        · replace h := h.1 (of_decide_eq_true c)
          refine w_end (E' := E5) (I' := I5) (J' := J5) (S' := S5) am_e85 rfl rfl rfl (q_mkV ?_)
          show am_ww 88 77 [.ref 1, .int p1, .int w2] [] E5 I5 J5 S5 _
          refine w_st (i' := 78) (ls' := [.ref 1, .int p1, .int w2]) (st' := [.int (nI 0)]) (E' := E5) (I' := I5) (J' := J5) (S' := S5) am_e88 rfl rfl rfl rfl ?_
          exact w_end am_e88 rfl rfl rfl h
        · replace h := h.2 (of_decide_eq_false c)
          refine w_st (i' := 13) (ls' := [.ref 1]) (st' := [.ref 1]) (E' := E5) (I' := I5) (J' := J5) (S' := S5) am_e85 rfl rfl rfl rfl ?_
          refine w_st (i' := 14) (ls' := [.ref 1]) (st' := [.int (nI 5), .ref 1]) (E' := E5) (I' := I5) (J' := J5) (S' := S5) am_e85 rfl rfl rfl rfl ?_
          refine w_st (i' := 15) (ls' := [.ref 1]) (st' := []) (E' := E5) (I' := (u_I I5 1 (upd (I5 1) 10 (nI 5)))) (J' := J5) (S' := S5) am_e85 rfl rfl rfl rfl ?_
          refine w_end (E' := E5) (I' := (u_I I5 1 (upd (I5 1) 10 (nI 5)))) (J' := J5) (S' := S5) am_e85 rfl rfl rfl (q_mkV ?_)
          show am_ww 88 77 [.ref 1, .int p1, .int w2] [] E5 (u_I I5 1 (upd (I5 1) 10 (nI 5))) J5 S5 _
          refine w_st (i' := 78) (ls' := [.ref 1, .int p1, .int w2]) (st' := [.int (nI 0)]) (E' := E5) (I' := (u_I I5 1 (upd (I5 1) 10 (nI 5)))) (J' := J5) (S' := S5) am_e88 rfl rfl rfl rfl ?_
          exact w_end am_e88 rfl rfl rfl h
      · replace h := h.1 (Decidable.not_not.mp (of_decide_eq_false c))
        refine w_st (i' := 56) (ls' := [.ref 1, .int p1, .int w2]) (st' := [.ref 1]) (E' := E) (I' := I) (J' := J) (S' := S) am_e88 rfl rfl rfl rfl ?_
        refine w_st (i' := 57) (ls' := [.ref 1, .int p1, .int w2]) (st' := [.ref 3]) (E' := E) (I' := I) (J' := J) (S' := S) am_e88 rfl rfl rfl rfl ?_
        refine w_st (i' := 58) (ls' := [.ref 1, .int p1, .int w2]) (st' := [.ref 8]) (E' := E) (I' := I) (J' := J) (S' := S) am_e88 rfl rfl rfl rfl ?_
        refine w_st (i' := 59) (ls' := [.ref 1, .int p1, .int w2]) (st' := [.ref 1, .ref 8]) (E' := E) (I' := I) (J' := J) (S' := S) am_e88 rfl rfl rfl rfl ?_
        refine w_st (i' := 60) (ls' := [.ref 1, .int p1, .int w2]) (st' := [.int ((I 1) 15), .ref 8]) (E' := E) (I' := I) (J' := J) (S' := S) am_e88 rfl rfl rfl rfl ?_
        refine w_st (i' := 61) (ls' := [.ref 1, .int p1, .int w2]) (st' := [.int w2, .int ((I 1) 15), .ref 8]) (E' := E) (I' := I) (J' := J) (S' := S) am_e88 rfl rfl rfl rfl ?_
        have hf6 := h.1
        replace h := h.2
        refine w_is (k := 8) (n := 4) (jn := ((I 1) 15).toNatClampNeg) am_e88 rfl rfl (by decide) hf6 rfl ?_
        show am_ww 88 62 [.ref 1, .int p1, .int w2] [] E (u_I I 8 (upd (I 8) (((I 1) 15).toNatClampNeg) w2)) J S _
        refine w_st (i' := 75) (ls' := [.ref 1, .int p1, .int w2]) (st' := []) (E' := E) (I' := (u_I I 8 (upd (I 8) (((I 1) 15).toNatClampNeg) w2))) (J' := J) (S' := S) am_e88 rfl rfl rfl rfl ?_
        refine w_st (i' := 76) (ls' := [.ref 1, .int p1, .int w2]) (st' := [.ref 1]) (E' := E) (I' := (u_I I 8 (upd (I 8) (((I 1) 15).toNatClampNeg) w2))) (J' := J) (S' := S) am_e88 rfl rfl rfl rfl ?_
        refine w_cV am_e88 rfl rfl (as := [.ref 1]) (rest := []) rfl rfl ?_
        show am_ww 85 0 [.ref 1] [] E (u_I I 8 (upd (I 8) (((I 1) 15).toNatClampNeg) w2)) J S _
        refine w_st (i' := 1) (ls' := [.ref 1]) (st' := [.ref 1]) (E' := E) (I' := (u_I I 8 (upd (I 8) (((I 1) 15).toNatClampNeg) w2))) (J' := J) (S' := S) am_e85 rfl rfl rfl rfl ?_
        refine w_st (i' := 2) (ls' := [.ref 1]) (st' := [.ref 1, .ref 1]) (E' := E) (I' := (u_I I 8 (upd (I 8) (((I 1) 15).toNatClampNeg) w2))) (J' := J) (S' := S) am_e85 rfl rfl rfl rfl ?_
        refine w_st (i' := 3) (ls' := [.ref 1]) (st' := [.int ((I 1) 12), .ref 1]) (E' := E) (I' := (u_I I 8 (upd (I 8) (((I 1) 15).toNatClampNeg) w2))) (J' := J) (S' := S) am_e85 rfl rfl rfl rfl ?_
        refine w_st (i' := 4) (ls' := [.ref 1]) (st' := [.int (nI 1), .int ((I 1) 12), .ref 1]) (E' := E) (I' := (u_I I 8 (upd (I 8) (((I 1) 15).toNatClampNeg) w2))) (J' := J) (S' := S) am_e85 rfl rfl rfl rfl ?_
        refine w_st (i' := 5) (ls' := [.ref 1]) (st' := [.int (((I 1) 12) + (nI 1)), .ref 1]) (E' := E) (I' := (u_I I 8 (upd (I 8) (((I 1) 15).toNatClampNeg) w2))) (J' := J) (S' := S) am_e85 rfl rfl rfl rfl ?_
        refine w_st (i' := 6) (ls' := [.ref 1]) (st' := []) (E' := E) (I' := (u_I (u_I I 8 (upd (I 8) (((I 1) 15).toNatClampNeg) w2)) 1 (upd (I 1) 12 (((I 1) 12) + (nI 1))))) (J' := J) (S' := S) am_e85 rfl rfl rfl rfl ?_
        refine w_st (i' := 7) (ls' := [.ref 1]) (st' := [.ref 1]) (E' := E) (I' := (u_I (u_I I 8 (upd (I 8) (((I 1) 15).toNatClampNeg) w2)) 1 (upd (I 1) 12 (((I 1) 12) + (nI 1))))) (J' := J) (S' := S) am_e85 rfl rfl rfl rfl ?_
        refine w_st (i' := 8) (ls' := [.ref 1]) (st' := [.int (((I 1) 12) + (nI 1))]) (E' := E) (I' := (u_I (u_I I 8 (upd (I 8) (((I 1) 15).toNatClampNeg) w2)) 1 (upd (I 1) 12 (((I 1) 12) + (nI 1))))) (J' := J) (S' := S) am_e85 rfl rfl rfl rfl ?_
        refine w_st (i' := 9) (ls' := [.ref 1]) (st' := [.ref 1, .int (((I 1) 12) + (nI 1))]) (E' := E) (I' := (u_I (u_I I 8 (upd (I 8) (((I 1) 15).toNatClampNeg) w2)) 1 (upd (I 1) 12 (((I 1) 12) + (nI 1))))) (J' := J) (S' := S) am_e85 rfl rfl rfl rfl ?_
        obtain ⟨q7, hq, hsq7, h⟩ := h
        refine w_gs am_e85 rfl (by decide) rfl hq hsq7 ?_
        refine w_cI am_e85 rfl rfl (as := [.ref (2000000 + q7)]) (rest := [.int (((I 1) 12) + (nI 1))]) rfl (am_ckS hsq7 rfl) (am_ww.mono h ?_)
        rintro _ E8 I8 J8 S8 ⟨v8, rfl, h⟩
        refine q_mkI ?_
        refine w_if2 am_e85 rfl rfl (fun c => ?_) (fun c => ?_)
        · replace h := h.1 (of_decide_eq_true c)
          refine w_end (E' := E8) (I' := I8) (J' := J8) (S' := S8) am_e85 rfl rfl rfl (q_mkV ?_)
          show am_ww 88 77 [.ref 1, .int p1, .int w2] [] E8 I8 J8 S8 _
          refine w_st (i' := 78) (ls' := [.ref 1, .int p1, .int w2]) (st' := [.int (nI 0)]) (E' := E8) (I' := I8) (J' := J8) (S' := S8) am_e88 rfl rfl rfl rfl ?_
          exact w_end am_e88 rfl rfl rfl h
        · replace h := h.2 (of_decide_eq_false c)
          refine w_st (i' := 13) (ls' := [.ref 1]) (st' := [.ref 1]) (E' := E8) (I' := I8) (J' := J8) (S' := S8) am_e85 rfl rfl rfl rfl ?_
          refine w_st (i' := 14) (ls' := [.ref 1]) (st' := [.int (nI 5), .ref 1]) (E' := E8) (I' := I8) (J' := J8) (S' := S8) am_e85 rfl rfl rfl rfl ?_
          refine w_st (i' := 15) (ls' := [.ref 1]) (st' := []) (E' := E8) (I' := (u_I I8 1 (upd (I8 1) 10 (nI 5)))) (J' := J8) (S' := S8) am_e85 rfl rfl rfl rfl ?_
          refine w_end (E' := E8) (I' := (u_I I8 1 (upd (I8 1) 10 (nI 5)))) (J' := J8) (S' := S8) am_e85 rfl rfl rfl (q_mkV ?_)
          show am_ww 88 77 [.ref 1, .int p1, .int w2] [] E8 (u_I I8 1 (upd (I8 1) 10 (nI 5))) J8 S8 _
          refine w_st (i' := 78) (ls' := [.ref 1, .int p1, .int w2]) (st' := [.int (nI 0)]) (E' := E8) (I' := (u_I I8 1 (upd (I8 1) 10 (nI 5)))) (J' := J8) (S' := S8) am_e88 rfl rfl rfl rfl ?_
          exact w_end am_e88 rfl rfl rfl h
    · replace h := h.1 (Decidable.not_not.mp (of_decide_eq_false c))
      refine w_st (i' := 45) (ls' := [.ref 1, .int p1, .int w2]) (st' := [.ref 1]) (E' := E) (I' := I) (J' := J) (S' := S) am_e88 rfl rfl rfl rfl ?_
      refine w_st (i' := 46) (ls' := [.ref 1, .int p1, .int w2]) (st' := [.ref 3]) (E' := E) (I' := I) (J' := J) (S' := S) am_e88 rfl rfl rfl rfl ?_
      refine w_st (i' := 47) (ls' := [.ref 1, .int p1, .int w2]) (st' := [.ref 7]) (E' := E) (I' := I) (J' := J) (S' := S) am_e88 rfl rfl rfl rfl ?_
      refine w_st (i' := 48) (ls' := [.ref 1, .int p1, .int w2]) (st' := [.ref 1, .ref 7]) (E' := E) (I' := I) (J' := J) (S' := S) am_e88 rfl rfl rfl rfl ?_
      refine w_st (i' := 49) (ls' := [.ref 1, .int p1, .int w2]) (st' := [.int ((I 1) 15), .ref 7]) (E' := E) (I' := I) (J' := J) (S' := S) am_e88 rfl rfl rfl rfl ?_
      refine w_st (i' := 50) (ls' := [.ref 1, .int p1, .int w2]) (st' := [.int w2, .int ((I 1) 15), .ref 7]) (E' := E) (I' := I) (J' := J) (S' := S) am_e88 rfl rfl rfl rfl ?_
      have hf9 := h.1
      replace h := h.2
      refine w_is (k := 7) (n := 16) (jn := ((I 1) 15).toNatClampNeg) am_e88 rfl rfl (by decide) hf9 rfl ?_
      show am_ww 88 51 [.ref 1, .int p1, .int w2] [] E (u_I I 7 (upd (I 7) (((I 1) 15).toNatClampNeg) w2)) J S _
      refine w_st (i' := 75) (ls' := [.ref 1, .int p1, .int w2]) (st' := []) (E' := E) (I' := (u_I I 7 (upd (I 7) (((I 1) 15).toNatClampNeg) w2))) (J' := J) (S' := S) am_e88 rfl rfl rfl rfl ?_
      refine w_st (i' := 76) (ls' := [.ref 1, .int p1, .int w2]) (st' := [.ref 1]) (E' := E) (I' := (u_I I 7 (upd (I 7) (((I 1) 15).toNatClampNeg) w2))) (J' := J) (S' := S) am_e88 rfl rfl rfl rfl ?_
      refine w_cV am_e88 rfl rfl (as := [.ref 1]) (rest := []) rfl rfl ?_
      show am_ww 85 0 [.ref 1] [] E (u_I I 7 (upd (I 7) (((I 1) 15).toNatClampNeg) w2)) J S _
      refine w_st (i' := 1) (ls' := [.ref 1]) (st' := [.ref 1]) (E' := E) (I' := (u_I I 7 (upd (I 7) (((I 1) 15).toNatClampNeg) w2))) (J' := J) (S' := S) am_e85 rfl rfl rfl rfl ?_
      refine w_st (i' := 2) (ls' := [.ref 1]) (st' := [.ref 1, .ref 1]) (E' := E) (I' := (u_I I 7 (upd (I 7) (((I 1) 15).toNatClampNeg) w2))) (J' := J) (S' := S) am_e85 rfl rfl rfl rfl ?_
      refine w_st (i' := 3) (ls' := [.ref 1]) (st' := [.int ((I 1) 12), .ref 1]) (E' := E) (I' := (u_I I 7 (upd (I 7) (((I 1) 15).toNatClampNeg) w2))) (J' := J) (S' := S) am_e85 rfl rfl rfl rfl ?_
      refine w_st (i' := 4) (ls' := [.ref 1]) (st' := [.int (nI 1), .int ((I 1) 12), .ref 1]) (E' := E) (I' := (u_I I 7 (upd (I 7) (((I 1) 15).toNatClampNeg) w2))) (J' := J) (S' := S) am_e85 rfl rfl rfl rfl ?_
      refine w_st (i' := 5) (ls' := [.ref 1]) (st' := [.int (((I 1) 12) + (nI 1)), .ref 1]) (E' := E) (I' := (u_I I 7 (upd (I 7) (((I 1) 15).toNatClampNeg) w2))) (J' := J) (S' := S) am_e85 rfl rfl rfl rfl ?_
      refine w_st (i' := 6) (ls' := [.ref 1]) (st' := []) (E' := E) (I' := (u_I (u_I I 7 (upd (I 7) (((I 1) 15).toNatClampNeg) w2)) 1 (upd (I 1) 12 (((I 1) 12) + (nI 1))))) (J' := J) (S' := S) am_e85 rfl rfl rfl rfl ?_
      refine w_st (i' := 7) (ls' := [.ref 1]) (st' := [.ref 1]) (E' := E) (I' := (u_I (u_I I 7 (upd (I 7) (((I 1) 15).toNatClampNeg) w2)) 1 (upd (I 1) 12 (((I 1) 12) + (nI 1))))) (J' := J) (S' := S) am_e85 rfl rfl rfl rfl ?_
      refine w_st (i' := 8) (ls' := [.ref 1]) (st' := [.int (((I 1) 12) + (nI 1))]) (E' := E) (I' := (u_I (u_I I 7 (upd (I 7) (((I 1) 15).toNatClampNeg) w2)) 1 (upd (I 1) 12 (((I 1) 12) + (nI 1))))) (J' := J) (S' := S) am_e85 rfl rfl rfl rfl ?_
      refine w_st (i' := 9) (ls' := [.ref 1]) (st' := [.ref 1, .int (((I 1) 12) + (nI 1))]) (E' := E) (I' := (u_I (u_I I 7 (upd (I 7) (((I 1) 15).toNatClampNeg) w2)) 1 (upd (I 1) 12 (((I 1) 12) + (nI 1))))) (J' := J) (S' := S) am_e85 rfl rfl rfl rfl ?_
      obtain ⟨q10, hq, hsq10, h⟩ := h
      refine w_gs am_e85 rfl (by decide) rfl hq hsq10 ?_
      refine w_cI am_e85 rfl rfl (as := [.ref (2000000 + q10)]) (rest := [.int (((I 1) 12) + (nI 1))]) rfl (am_ckS hsq10 rfl) (am_ww.mono h ?_)
      rintro _ E11 I11 J11 S11 ⟨v11, rfl, h⟩
      refine q_mkI ?_
      refine w_if2 am_e85 rfl rfl (fun c => ?_) (fun c => ?_)
      · replace h := h.1 (of_decide_eq_true c)
        refine w_end (E' := E11) (I' := I11) (J' := J11) (S' := S11) am_e85 rfl rfl rfl (q_mkV ?_)
        show am_ww 88 77 [.ref 1, .int p1, .int w2] [] E11 I11 J11 S11 _
        refine w_st (i' := 78) (ls' := [.ref 1, .int p1, .int w2]) (st' := [.int (nI 0)]) (E' := E11) (I' := I11) (J' := J11) (S' := S11) am_e88 rfl rfl rfl rfl ?_
        exact w_end am_e88 rfl rfl rfl h
      · replace h := h.2 (of_decide_eq_false c)
        refine w_st (i' := 13) (ls' := [.ref 1]) (st' := [.ref 1]) (E' := E11) (I' := I11) (J' := J11) (S' := S11) am_e85 rfl rfl rfl rfl ?_
        refine w_st (i' := 14) (ls' := [.ref 1]) (st' := [.int (nI 5), .ref 1]) (E' := E11) (I' := I11) (J' := J11) (S' := S11) am_e85 rfl rfl rfl rfl ?_
        refine w_st (i' := 15) (ls' := [.ref 1]) (st' := []) (E' := E11) (I' := (u_I I11 1 (upd (I11 1) 10 (nI 5)))) (J' := J11) (S' := S11) am_e85 rfl rfl rfl rfl ?_
        refine w_end (E' := E11) (I' := (u_I I11 1 (upd (I11 1) 10 (nI 5)))) (J' := J11) (S' := S11) am_e85 rfl rfl rfl (q_mkV ?_)
        show am_ww 88 77 [.ref 1, .int p1, .int w2] [] E11 (u_I I11 1 (upd (I11 1) 10 (nI 5))) J11 S11 _
        refine w_st (i' := 78) (ls' := [.ref 1, .int p1, .int w2]) (st' := [.int (nI 0)]) (E' := E11) (I' := (u_I I11 1 (upd (I11 1) 10 (nI 5)))) (J' := J11) (S' := S11) am_e88 rfl rfl rfl rfl ?_
        exact w_end am_e88 rfl rfl rfl h
  · replace h := h.1 (Decidable.not_not.mp (of_decide_eq_false c))
    refine w_st (i' := 14) (ls' := [.ref 1, .int p1, .int w2]) (st' := [.ref 1]) (E' := E) (I' := I) (J' := J) (S' := S) am_e88 rfl rfl rfl rfl ?_
    refine w_st (i' := 15) (ls' := [.ref 1, .int p1, .int w2]) (st' := [.int ((I 1) 16)]) (E' := E) (I' := I) (J' := J) (S' := S) am_e88 rfl rfl rfl rfl ?_
    refine w_st (i' := 16) (ls' := [.ref 1, .int p1, .int w2]) (st' := [.int (nI 1), .int ((I 1) 16)]) (E' := E) (I' := I) (J' := J) (S' := S) am_e88 rfl rfl rfl rfl ?_
    refine w_st (i' := 17) (ls' := [.ref 1, .int p1, .int w2]) (st' := [.int (nI 8), .int (nI 1), .int ((I 1) 16)]) (E' := E) (I' := I) (J' := J) (S' := S) am_e88 rfl rfl rfl rfl ?_
    refine w_st (i' := 18) (ls' := [.ref 1, .int p1, .int w2]) (st' := [.ref 1, .int (nI 8), .int (nI 1), .int ((I 1) 16)]) (E' := E) (I' := I) (J' := J) (S' := S) am_e88 rfl rfl rfl rfl ?_
    refine w_st (i' := 19) (ls' := [.ref 1, .int p1, .int w2]) (st' := [.int ((I 1) 7), .int (nI 8), .int (nI 1), .int ((I 1) 16)]) (E' := E) (I' := I) (J' := J) (S' := S) am_e88 rfl rfl rfl rfl ?_
    refine w_st (i' := 20) (ls' := [.ref 1, .int p1, .int w2]) (st' := [.int ((nI 8) + ((I 1) 7)), .int (nI 1), .int ((I 1) 16)]) (E' := E) (I' := I) (J' := J) (S' := S) am_e88 rfl rfl rfl rfl ?_
    refine w_st (i' := 21) (ls' := [.ref 1, .int p1, .int w2]) (st' := [.int ((nI 1) <<< (((nI 8) + ((I 1) 7)) &&& 31)), .int ((I 1) 16)]) (E' := E) (I' := I) (J' := J) (S' := S) am_e88 rfl rfl rfl rfl ?_
    refine w_st (i' := 22) (ls' := [.ref 1, .int p1, .int w2]) (st' := [.int (((I 1) 16) &&& ((nI 1) <<< (((nI 8) + ((I 1) 7)) &&& 31)))]) (E' := E) (I' := I) (J' := J) (S' := S) am_e88 rfl rfl rfl rfl ?_
    refine w_if1 am_e88 rfl rfl (fun c => ?_) (fun c => ?_)
    · replace h := h.1 (of_decide_eq_true c)
      refine w_st (i' := 26) (ls' := [.ref 1, .int p1, .int w2]) (st' := [.ref 1]) (E' := E) (I' := I) (J' := J) (S' := S) am_e88 rfl rfl rfl rfl ?_
      refine w_st (i' := 27) (ls' := [.ref 1, .int p1, .int w2]) (st' := [.ref 1, .ref 1]) (E' := E) (I' := I) (J' := J) (S' := S) am_e88 rfl rfl rfl rfl ?_
      refine w_st (i' := 28) (ls' := [.ref 1, .int p1, .int w2]) (st' := [.int ((I 1) 16), .ref 1]) (E' := E) (I' := I) (J' := J) (S' := S) am_e88 rfl rfl rfl rfl ?_
      refine w_st (i' := 29) (ls' := [.ref 1, .int p1, .int w2]) (st' := [.int (nI 1), .int ((I 1) 16), .ref 1]) (E' := E) (I' := I) (J' := J) (S' := S) am_e88 rfl rfl rfl rfl ?_
      refine w_st (i' := 30) (ls' := [.ref 1, .int p1, .int w2]) (st' := [.int (nI 8), .int (nI 1), .int ((I 1) 16), .ref 1]) (E' := E) (I' := I) (J' := J) (S' := S) am_e88 rfl rfl rfl rfl ?_
      refine w_st (i' := 31) (ls' := [.ref 1, .int p1, .int w2]) (st' := [.ref 1, .int (nI 8), .int (nI 1), .int ((I 1) 16), .ref 1]) (E' := E) (I' := I) (J' := J) (S' := S) am_e88 rfl rfl rfl rfl ?_
      refine w_st (i' := 32) (ls' := [.ref 1, .int p1, .int w2]) (st' := [.int ((I 1) 7), .int (nI 8), .int (nI 1), .int ((I 1) 16), .ref 1]) (E' := E) (I' := I) (J' := J) (S' := S) am_e88 rfl rfl rfl rfl ?_
      refine w_st (i' := 33) (ls' := [.ref 1, .int p1, .int w2]) (st' := [.int ((nI 8) + ((I 1) 7)), .int (nI 1), .int ((I 1) 16), .ref 1]) (E' := E) (I' := I) (J' := J) (S' := S) am_e88 rfl rfl rfl rfl ?_
      refine w_st (i' := 34) (ls' := [.ref 1, .int p1, .int w2]) (st' := [.int ((nI 1) <<< (((nI 8) + ((I 1) 7)) &&& 31)), .int ((I 1) 16), .ref 1]) (E' := E) (I' := I) (J' := J) (S' := S) am_e88 rfl rfl rfl rfl ?_
      refine w_st (i' := 35) (ls' := [.ref 1, .int p1, .int w2]) (st' := [.int (((I 1) 16) ||| ((nI 1) <<< (((nI 8) + ((I 1) 7)) &&& 31))), .ref 1]) (E' := E) (I' := I) (J' := J) (S' := S) am_e88 rfl rfl rfl rfl ?_
      refine w_st (i' := 36) (ls' := [.ref 1, .int p1, .int w2]) (st' := []) (E' := E) (I' := (u_I I 1 (upd (I 1) 16 (((I 1) 16) ||| ((nI 1) <<< (((nI 8) + ((I 1) 7)) &&& 31)))))) (J' := J) (S' := S) am_e88 rfl rfl rfl rfl ?_
      refine w_st (i' := 37) (ls' := [.ref 1, .int p1, .int w2]) (st' := [.ref 1]) (E' := E) (I' := (u_I I 1 (upd (I 1) 16 (((I 1) 16) ||| ((nI 1) <<< (((nI 8) + ((I 1) 7)) &&& 31)))))) (J' := J) (S' := S) am_e88 rfl rfl rfl rfl ?_
      refine w_st (i' := 38) (ls' := [.ref 1, .int p1, .int w2]) (st' := [.ref 1, .ref 1]) (E' := E) (I' := (u_I I 1 (upd (I 1) 16 (((I 1) 16) ||| ((nI 1) <<< (((nI 8) + ((I 1) 7)) &&& 31)))))) (J' := J) (S' := S) am_e88 rfl rfl rfl rfl ?_
      refine w_st (i' := 39) (ls' := [.ref 1, .int p1, .int w2]) (st' := [.int ((I 1) 7), .ref 1]) (E' := E) (I' := (u_I I 1 (upd (I 1) 16 (((I 1) 16) ||| ((nI 1) <<< (((nI 8) + ((I 1) 7)) &&& 31)))))) (J' := J) (S' := S) am_e88 rfl rfl rfl rfl ?_
      refine w_st (i' := 40) (ls' := [.ref 1, .int p1, .int w2]) (st' := []) (E' := E) (I' := (u_I (u_I I 1 (upd (I 1) 16 (((I 1) 16) ||| ((nI 1) <<< (((nI 8) + ((I 1) 7)) &&& 31))))) 1 (upd (upd (I 1) 16 (((I 1) 16) ||| ((nI 1) <<< (((nI 8) + ((I 1) 7)) &&& 31)))) 15 ((I 1) 7)))) (J' := J) (S' := S) am_e88 rfl rfl rfl rfl ?_
      refine w_eI (uI_0 ..) ?_
      show am_ww 88 40 [.ref 1, .int p1, .int w2] [] E (u_I I 1 (upd (upd (I 1) 16 (((I 1) 16) ||| ((nI 1) <<< (((nI 8) + ((I 1) 7)) &&& 31)))) 15 ((I 1) 7))) J S _
      refine w_st (i' := 75) (ls' := [.ref 1, .int p1, .int w2]) (st' := []) (E' := E) (I' := (u_I I 1 (upd (upd (I 1) 16 (((I 1) 16) ||| ((nI 1) <<< (((nI 8) + ((I 1) 7)) &&& 31)))) 15 ((I 1) 7)))) (J' := J) (S' := S) am_e88 rfl rfl rfl rfl ?_
      refine w_st (i' := 76) (ls' := [.ref 1, .int p1, .int w2]) (st' := [.ref 1]) (E' := E) (I' := (u_I I 1 (upd (upd (I 1) 16 (((I 1) 16) ||| ((nI 1) <<< (((nI 8) + ((I 1) 7)) &&& 31)))) 15 ((I 1) 7)))) (J' := J) (S' := S) am_e88 rfl rfl rfl rfl ?_
      refine w_cV am_e88 rfl rfl (as := [.ref 1]) (rest := []) rfl rfl ?_
      show am_ww 85 0 [.ref 1] [] E (u_I I 1 (upd (upd (I 1) 16 (((I 1) 16) ||| ((nI 1) <<< (((nI 8) + ((I 1) 7)) &&& 31)))) 15 ((I 1) 7))) J S _
      refine w_st (i' := 1) (ls' := [.ref 1]) (st' := [.ref 1]) (E' := E) (I' := (u_I I 1 (upd (upd (I 1) 16 (((I 1) 16) ||| ((nI 1) <<< (((nI 8) + ((I 1) 7)) &&& 31)))) 15 ((I 1) 7)))) (J' := J) (S' := S) am_e85 rfl rfl rfl rfl ?_
      refine w_st (i' := 2) (ls' := [.ref 1]) (st' := [.ref 1, .ref 1]) (E' := E) (I' := (u_I I 1 (upd (upd (I 1) 16 (((I 1) 16) ||| ((nI 1) <<< (((nI 8) + ((I 1) 7)) &&& 31)))) 15 ((I 1) 7)))) (J' := J) (S' := S) am_e85 rfl rfl rfl rfl ?_
      refine w_st (i' := 3) (ls' := [.ref 1]) (st' := [.int ((I 1) 12), .ref 1]) (E' := E) (I' := (u_I I 1 (upd (upd (I 1) 16 (((I 1) 16) ||| ((nI 1) <<< (((nI 8) + ((I 1) 7)) &&& 31)))) 15 ((I 1) 7)))) (J' := J) (S' := S) am_e85 rfl rfl rfl rfl ?_
      refine w_st (i' := 4) (ls' := [.ref 1]) (st' := [.int (nI 1), .int ((I 1) 12), .ref 1]) (E' := E) (I' := (u_I I 1 (upd (upd (I 1) 16 (((I 1) 16) ||| ((nI 1) <<< (((nI 8) + ((I 1) 7)) &&& 31)))) 15 ((I 1) 7)))) (J' := J) (S' := S) am_e85 rfl rfl rfl rfl ?_
      refine w_st (i' := 5) (ls' := [.ref 1]) (st' := [.int (((I 1) 12) + (nI 1)), .ref 1]) (E' := E) (I' := (u_I I 1 (upd (upd (I 1) 16 (((I 1) 16) ||| ((nI 1) <<< (((nI 8) + ((I 1) 7)) &&& 31)))) 15 ((I 1) 7)))) (J' := J) (S' := S) am_e85 rfl rfl rfl rfl ?_
      refine w_st (i' := 6) (ls' := [.ref 1]) (st' := []) (E' := E) (I' := (u_I (u_I I 1 (upd (upd (I 1) 16 (((I 1) 16) ||| ((nI 1) <<< (((nI 8) + ((I 1) 7)) &&& 31)))) 15 ((I 1) 7))) 1 (upd (upd (upd (I 1) 16 (((I 1) 16) ||| ((nI 1) <<< (((nI 8) + ((I 1) 7)) &&& 31)))) 15 ((I 1) 7)) 12 (((I 1) 12) + (nI 1))))) (J' := J) (S' := S) am_e85 rfl rfl rfl rfl ?_
      refine w_eI (uI_0 ..) ?_
      show am_ww 85 6 [.ref 1] [] E (u_I I 1 (upd (upd (upd (I 1) 16 (((I 1) 16) ||| ((nI 1) <<< (((nI 8) + ((I 1) 7)) &&& 31)))) 15 ((I 1) 7)) 12 (((I 1) 12) + (nI 1)))) J S _
      refine w_st (i' := 7) (ls' := [.ref 1]) (st' := [.ref 1]) (E' := E) (I' := (u_I I 1 (upd (upd (upd (I 1) 16 (((I 1) 16) ||| ((nI 1) <<< (((nI 8) + ((I 1) 7)) &&& 31)))) 15 ((I 1) 7)) 12 (((I 1) 12) + (nI 1))))) (J' := J) (S' := S) am_e85 rfl rfl rfl rfl ?_
      refine w_st (i' := 8) (ls' := [.ref 1]) (st' := [.int (((I 1) 12) + (nI 1))]) (E' := E) (I' := (u_I I 1 (upd (upd (upd (I 1) 16 (((I 1) 16) ||| ((nI 1) <<< (((nI 8) + ((I 1) 7)) &&& 31)))) 15 ((I 1) 7)) 12 (((I 1) 12) + (nI 1))))) (J' := J) (S' := S) am_e85 rfl rfl rfl rfl ?_
      refine w_st (i' := 9) (ls' := [.ref 1]) (st' := [.ref 1, .int (((I 1) 12) + (nI 1))]) (E' := E) (I' := (u_I I 1 (upd (upd (upd (I 1) 16 (((I 1) 16) ||| ((nI 1) <<< (((nI 8) + ((I 1) 7)) &&& 31)))) 15 ((I 1) 7)) 12 (((I 1) 12) + (nI 1))))) (J' := J) (S' := S) am_e85 rfl rfl rfl rfl ?_
      obtain ⟨q12, hq, hsq12, h⟩ := h
      refine w_gs am_e85 rfl (by decide) rfl hq hsq12 ?_
      refine w_cI am_e85 rfl rfl (as := [.ref (2000000 + q12)]) (rest := [.int (((I 1) 12) + (nI 1))]) rfl (am_ckS hsq12 rfl) (am_ww.mono h ?_)
      rintro _ E13 I13 J13 S13 ⟨v13, rfl, h⟩
      refine q_mkI ?_
      refine w_if2 am_e85 rfl rfl (fun c => ?_) (fun c => ?_)
      · replace h := h.1 (of_decide_eq_true c)
        refine w_end (E' := E13) (I' := I13) (J' := J13) (S' := S13) am_e85 rfl rfl rfl (q_mkV ?_)
        show am_ww 88 77 [.ref 1, .int p1, .int w2] [] E13 I13 J13 S13 _
        refine w_st (i' := 78) (ls' := [.ref 1, .int p1, .int w2]) (st' := [.int (nI 0)]) (E' := E13) (I' := I13) (J' := J13) (S' := S13) am_e88 rfl rfl rfl rfl ?_
        exact w_end am_e88 rfl rfl rfl h
      · replace h := h.2 (of_decide_eq_false c)
        refine w_st (i' := 13) (ls' := [.ref 1]) (st' := [.ref 1]) (E' := E13) (I' := I13) (J' := J13) (S' := S13) am_e85 rfl rfl rfl rfl ?_
        refine w_st (i' := 14) (ls' := [.ref 1]) (st' := [.int (nI 5), .ref 1]) (E' := E13) (I' := I13) (J' := J13) (S' := S13) am_e85 rfl rfl rfl rfl ?_
        refine w_st (i' := 15) (ls' := [.ref 1]) (st' := []) (E' := E13) (I' := (u_I I13 1 (upd (I13 1) 10 (nI 5)))) (J' := J13) (S' := S13) am_e85 rfl rfl rfl rfl ?_
        refine w_end (E' := E13) (I' := (u_I I13 1 (upd (I13 1) 10 (nI 5)))) (J' := J13) (S' := S13) am_e85 rfl rfl rfl (q_mkV ?_)
        show am_ww 88 77 [.ref 1, .int p1, .int w2] [] E13 (u_I I13 1 (upd (I13 1) 10 (nI 5))) J13 S13 _
        refine w_st (i' := 78) (ls' := [.ref 1, .int p1, .int w2]) (st' := [.int (nI 0)]) (E' := E13) (I' := (u_I I13 1 (upd (I13 1) 10 (nI 5)))) (J' := J13) (S' := S13) am_e88 rfl rfl rfl rfl ?_
        exact w_end am_e88 rfl rfl rfl h
    · replace h := h.2 (of_decide_eq_false c)
      refine w_st (i' := 24) (ls' := [.ref 1, .int p1, .int w2]) (st' := [.int (nI 5)]) (E' := E) (I' := I) (J' := J) (S' := S) am_e88 rfl rfl rfl rfl ?_
      exact w_end am_e88 rfl rfl rfl h
-- 89 takeLine
theorem g89_0  {E : am_Ev} {I : Nat → Nat → Int32} {J : Nat → Nat → Int64} {S : Nat → Nat → Option Nat} {Q : am_Qt}  (h : ∀ w2 : Int32, w2 = (if ((I 1) 8) < (nI 6) then nI 0 else nI 1) → ((((I 1) 6) = (nI 2) → ((((I 1) 8) = (-1) → (am_ww 89 20 [.ref 1, .int w2, am_U] [] E I J S Q)) ∧ (¬ ((I 1) 8) = (-1) → ((w2 = 0 → (Q (.inl (some (.int (nI 1)))) E I J S)) ∧ (¬ w2 = 0 → (am_ww 89 20 [.ref 1, .int w2, am_U] [] E I J S Q)))))) ∧ (¬ ((I 1) 6) = (nI 2) → (Q (.inl (some (.int (nI 1)))) E I J S)))) : am_ww 89 0 [.ref 1, am_U, am_U] [] E I J S Q := by
  refine w_st (i' := 1) (ls' := [.ref 1, am_U, am_U]) (st' := [.ref 1]) (E' := E) (I' := I) (J' := J) (S' := S) am_e89 rfl rfl rfl rfl ?_
  refine w_st (i' := 2) (ls' := [.ref 1, am_U, am_U]) (st' := [.int ((I 1) 8)]) (E' := E) (I' := I) (J' := J) (S' := S) am_e89 rfl rfl rfl rfl ?_
  refine w_st (i' := 3) (ls' := [.ref 1, am_U, am_U]) (st' := [.int (nI 6), .int ((I 1) 8)]) (E' := E) (I' := I) (J' := J) (S' := S) am_e89 rfl rfl rfl rfl ?_
  refine w_mg (i := 7) (ls' := [.ref 1, am_U, am_U]) (st' := [.int (if ((I 1) 8) < (nI 6) then nI 0 else nI 1)]) (fun hm => ?_) ?_
  · clear h
    refine w_if2 am_e89 rfl rfl (fun c => ?_) (fun c => ?_)
    · have m1 : ((I 1) 8) < (nI 6) := (of_decide_eq_true c)
      refine w_st (i' := 7) (ls' := [.ref 1, am_U, am_U]) (st' := [.int (nI 0)]) (E' := E) (I' := I) (J' := J) (S' := S) am_e89 rfl rfl rfl rfl ?_
      first | exact hm | (simp only [if_pos m1] at hm; exact hm)
    · have m1 : ¬ (((I 1) 8) < (nI 6)) := (of_decide_eq_false c)
      refine w_st (i' := 5) (ls' := [.ref 1, am_U, am_U]) (st' := [.int (nI 1)]) (E' := E) (I' := I) (J' := J) (S' := S) am_e89 rfl rfl rfl rfl ?_
      refine w_st (i' := 7) (ls' := [.ref 1, am_U, am_U]) (st' := [.int (nI 1)]) (E' := E) (I' := I) (J' := J) (S' := S) am_e89 rfl rfl rfl rfl ?_
      first | exact hm | (simp only [if_neg m1] at hm; exact hm)
  refine w_var (fun w2 => am_ww 89 7 [.ref 1, am_U, am_U] [.int w2] E I J S _) (if ((I 1) 8) < (nI 6) then nI 0 else nI 1) (fun w2 hw2 => ?_)
  replace h := h w2 hw2
  refine w_st (i' := 8) (ls' := [.ref 1, .int w2, am_U]) (st' := []) (E' := E) (I' := I) (J' := J) (S' := S) am_e89 rfl rfl rfl rfl ?_
  refine w_st (i' := 9) (ls' := [.ref 1, .int w2, am_U]) (st' := [.ref 1]) (E' := E) (I' := I) (J' := J) (S' := S) am_e89 rfl rfl rfl rfl ?_
  refine w_st (i' := 10) (ls' := [.ref 1, .int w2, am_U]) (st' := [.int ((I 1) 6)]) (E' := E) (I' := I) (J' := J) (S' := S) am_e89 rfl rfl rfl rfl ?_
  refine w_st (i' := 11) (ls' := [.ref 1, .int w2, am_U]) (st' := [.int (nI 2), .int ((I 1) 6)]) (E' := E) (I' := I) (J' := J) (S' := S) am_e89 rfl rfl rfl rfl ?_
  refine w_if2 am_e89 rfl rfl (fun c => ?_) (fun c => ?_)
  · replace h := h.2 (of_decide_eq_true c)
    refine w_st (i' := 19) (ls' := [.ref 1, .int w2, am_U]) (st' := [.int (nI 1)]) (E' := E) (I' := I) (J' := J) (S' := S) am_e89 rfl rfl rfl rfl ?_
    exact w_end am_e89 rfl rfl rfl h
  · replace h := h.1 (Decidable.not_not.mp (of_decide_eq_false c))
    refine w_st (i' := 13) (ls' := [.ref 1, .int w2, am_U]) (st' := [.ref 1]) (E' := E) (I' := I) (J' := J) (S' := S) am_e89 rfl rfl rfl rfl ?_
    refine w_st (i' := 14) (ls' := [.ref 1, .int w2, am_U]) (st' := [.int ((I 1) 8)]) (E' := E) (I' := I) (J' := J) (S' := S) am_e89 rfl rfl rfl rfl ?_
    refine w_st (i' := 15) (ls' := [.ref 1, .int w2, am_U]) (st' := [.int (-1), .int ((I 1) 8)]) (E' := E) (I' := I) (J' := J) (S' := S) am_e89 rfl rfl rfl rfl ?_
    refine w_if2 am_e89 rfl rfl (fun c => ?_) (fun c => ?_)
    · replace h := h.1 (of_decide_eq_true c)
      exact h
    · replace h := h.2 (of_decide_eq_false c)
      refine w_st (i' := 17) (ls' := [.ref 1, .int w2, am_U]) (st' := [.int w2]) (E' := E) (I' := I) (J' := J) (S' := S) am_e89 rfl rfl rfl rfl ?_
      refine w_if1 am_e89 rfl rfl (fun c => ?_) (fun c => ?_)
      · replace h := h.2 (of_decide_eq_true c)
        exact h
      · replace h := h.1 (Decidable.not_not.mp (of_decide_eq_false c))
        refine w_st (i' := 19) (ls' := [.ref 1, .int w2, am_U]) (st' := [.int (nI 1)]) (E' := E) (I' := I) (J' := J) (S' := S) am_e89 rfl rfl rfl rfl ?_
        exact w_end am_e89 rfl rfl rfl h
theorem g89_20 {x1 : Int32} {d2 : Value} {E : am_Ev} {I : Nat → Nat → Int32} {J : Nat → Nat → Int64} {S : Nat → Nat → Option Nat} {Q : am_Qt} (hd2 : am_isL d2 = false) (h : ((((I 1) 5) - ((I 1) 4)) ≤ (nI 8) → (((((I 3) 5) - (nI 1)) < 0 → (Q (.inl (some (.int (nI 2)))) E I J S)) ∧ (¬ (((I 3) 5) - (nI 1)) < 0 → (vp_in (((I 3) 5) - (nI 1)) 4 ∧ ((((I 6) ((((I 3) 5) - (nI 1)).toNatClampNeg)) < (nI 16) → ((x1 = 0 → (am_cl 92 [.ref 1, .int (((I 3) 5) - (nI 1)), .long ((J 1) 9)] E (u_I (u_I I 1 (upd (I 1) 14 (((((I 3) 5) - (nI 1)) * (nI 16)) + ((I 6) ((((I 3) 5) - (nI 1)).toNatClampNeg))))) 6 (upd (I 6) ((((I 3) 5) - (nI 1)).toNatClampNeg) (((I 6) ((((I 3) 5) - (nI 1)).toNatClampNeg)) + (nI 1)))) J S (q_I fun v2 E2 I2 J2 S2 => (v2 = (-1) → (vp_in ((I2 1) 14) 64 ∧ (Q (.inl (some (.int (nI 0)))) E2 (u_I I2 1 (upd (I2 1) 10 (nI 3))) (u_J J2 9 (vp_updL (J2 9) (((I2 1) 14).toNatClampNeg) ((J2 1) 9))) S2))) ∧ (¬ v2 = (-1) → (Q (.inl (some (.int (nI 4)))) E2 I2 J2 S2))))) ∧ (¬ x1 = 0 → (am_cl 90 [.ref 1] E (u_I (u_I I 1 (upd (I 1) 14 (((((I 3) 5) - (nI 1)) * (nI 16)) + ((I 6) ((((I 3) 5) - (nI 1)).toNatClampNeg))))) 6 (upd (I 6) ((((I 3) 5) - (nI 1)).toNatClampNeg) (((I 6) ((((I 3) 5) - (nI 1)).toNatClampNeg)) + (nI 1)))) J S (q_I fun v4 E4 I4 J4 S4 => Q (.inl (some (.int v4))) E4 I4 J4 S4))))) ∧ (¬ ((I 6) ((((I 3) 5) - (nI 1)).toNatClampNeg)) < (nI 16) → (Q (.inl (some (.int (nI 2)))) E I J S))))))) ∧ (¬ (((I 1) 5) - ((I 1) 4)) ≤ (nI 8) → (Q (.inl (some (.int (nI 2)))) E I J S))) : am_ww 89 20 [.ref 1, .int x1, d2] [] E I J S Q := by
  refine w_st (i' := 21) (ls' := [.ref 1, .int x1, d2]) (st' := [.ref 1]) (E' := E) (I' := I) (J' := J) (S' := S) am_e89 rfl rfl rfl rfl ?_
  refine w_st (i' := 22) (ls' := [.ref 1, .int x1, d2]) (st' := [.ref 3]) (E' := E) (I' := I) (J' := J) (S' := S) am_e89 rfl rfl rfl rfl ?_
  refine w_st (i' := 23) (ls' := [.ref 1, .int x1, d2]) (st' := [.int ((I 3) 5)]) (E' := E) (I' := I) (J' := J) (S' := S) am_e89 rfl rfl rfl rfl ?_
  refine w_st (i' := 24) (ls' := [.ref 1, .int x1, d2]) (st' := [.int (nI 1), .int ((I 3) 5)]) (E' := E) (I' := I) (J' := J) (S' := S) am_e89 rfl rfl rfl rfl ?_
  refine w_st (i' := 25) (ls' := [.ref 1, .int x1, d2]) (st' := [.int (((I 3) 5) - (nI 1))]) (E' := E) (I' := I) (J' := J) (S' := S) am_e89 rfl rfl rfl rfl ?_
  refine w_st (i' := 26) (ls' := [.ref 1, .int x1, .int (((I 3) 5) - (nI 1))]) (st' := []) (E' := E) (I' := I) (J' := J) (S' := S) am_e89 rfl rfl rfl rfl ?_
  refine w_st (i' := 27) (ls' := [.ref 1, .int x1, .int (((I 3) 5) - (nI 1))]) (st' := [.ref 1]) (E' := E) (I' := I) (J' := J) (S' := S) am_e89 rfl rfl rfl rfl ?_
  refine w_cI am_e89 rfl rfl (as := [.ref 1]) (rest := []) rfl rfl ?_
  show am_ww 84 0 [.ref 1] [] E I J S _
  refine w_st (i' := 1) (ls' := [.ref 1]) (st' := [.ref 1]) (E' := E) (I' := I) (J' := J) (S' := S) am_e84 rfl rfl rfl rfl ?_
  refine w_st (i' := 2) (ls' := [.ref 1]) (st' := [.int ((I 1) 5)]) (E' := E) (I' := I) (J' := J) (S' := S) am_e84 rfl rfl rfl rfl ?_
  refine w_st (i' := 3) (ls' := [.ref 1]) (st' := [.ref 1, .int ((I 1) 5)]) (E' := E) (I' := I) (J' := J) (S' := S) am_e84 rfl rfl rfl rfl ?_
  refine w_st (i' := 4) (ls' := [.ref 1]) (st' := [.int ((I 1) 4), .int ((I 1) 5)]) (E' := E) (I' := I) (J' := J) (S' := S) am_e84 rfl rfl rfl rfl ?_
  refine w_st (i' := 5) (ls' := [.ref 1]) (st' := [.int (((I 1) 5) - ((I 1) 4))]) (E' := E) (I' := I) (J' := J) (S' := S) am_e84 rfl rfl rfl rfl ?_
  refine w_st (i' := 6) (ls' := [.ref 1]) (st' := [.int (nI 8), .int (((I 1) 5) - ((I 1) 4))]) (E' := E) (I' := I) (J' := J) (S' := S) am_e84 rfl rfl rfl rfl ?_
  refine w_if2 am_e84 rfl rfl (fun c => ?_) (fun c => ?_)
  · replace h := h.1 (of_decide_eq_true c)
    refine w_st (i' := 10) (ls' := [.ref 1]) (st' := [.int (nI 0)]) (E' := E) (I' := I) (J' := J) (S' := S) am_e84 rfl rfl rfl rfl ?_
    refine w_end (E' := E) (I' := I) (J' := J) (S' := S) am_e84 rfl rfl rfl (q_mkI ?_)
    show am_ww 89 28 [.ref 1, .int x1, .int (((I 3) 5) - (nI 1))] [.int (nI 0)] E I J S _
    refine w_st (i' := 29) (ls' := [.ref 1, .int x1, .int (((I 3) 5) - (nI 1))]) (st' := []) (E' := E) (I' := I) (J' := J) (S' := S) am_e89 rfl rfl rfl rfl ?_
    refine w_st (i' := 30) (ls' := [.ref 1, .int x1, .int (((I 3) 5) - (nI 1))]) (st' := [.int (((I 3) 5) - (nI 1))]) (E' := E) (I' := I) (J' := J) (S' := S) am_e89 rfl rfl rfl rfl ?_
    refine w_if1 am_e89 rfl rfl (fun c => ?_) (fun c => ?_)
    · replace h := h.1 (of_decide_eq_true c)
      refine w_st (i' := 39) (ls' := [.ref 1, .int x1, .int (((I 3) 5) - (nI 1))]) (st' := [.int (nI 2)]) (E' := E) (I' := I) (J' := J) (S' := S) am_e89 rfl rfl rfl rfl ?_
      exact w_end am_e89 rfl rfl rfl h
    · replace h := h.2 (of_decide_eq_false c)
      refine w_st (i' := 32) (ls' := [.ref 1, .int x1, .int (((I 3) 5) - (nI 1))]) (st' := [.ref 1]) (E' := E) (I' := I) (J' := J) (S' := S) am_e89 rfl rfl rfl rfl ?_
      refine w_st (i' := 33) (ls' := [.ref 1, .int x1, .int (((I 3) 5) - (nI 1))]) (st' := [.ref 3]) (E' := E) (I' := I) (J' := J) (S' := S) am_e89 rfl rfl rfl rfl ?_
      refine w_st (i' := 34) (ls' := [.ref 1, .int x1, .int (((I 3) 5) - (nI 1))]) (st' := [.ref 6]) (E' := E) (I' := I) (J' := J) (S' := S) am_e89 rfl rfl rfl rfl ?_
      refine w_st (i' := 35) (ls' := [.ref 1, .int x1, .int (((I 3) 5) - (nI 1))]) (st' := [.int (((I 3) 5) - (nI 1)), .ref 6]) (E' := E) (I' := I) (J' := J) (S' := S) am_e89 rfl rfl rfl rfl ?_
      have hf1 := h.1
      replace h := h.2
      refine w_ia (k := 6) (n := 4) (jn := (((I 3) 5) - (nI 1)).toNatClampNeg) am_e89 rfl rfl (by decide) hf1 rfl ?_
      refine w_st (i' := 37) (ls' := [.ref 1, .int x1, .int (((I 3) 5) - (nI 1))]) (st' := [.int (nI 16), .int ((I 6) ((((I 3) 5) - (nI 1)).toNatClampNeg))]) (E' := E) (I' := I) (J' := J) (S' := S) am_e89 rfl rfl rfl rfl ?_
      refine w_if2 am_e89 rfl rfl (fun c => ?_) (fun c => ?_)
      · replace h := h.1 (of_decide_eq_true c)
        refine w_st (i' := 41) (ls' := [.ref 1, .int x1, .int (((I 3) 5) - (nI 1))]) (st' := [.ref 1]) (E' := E) (I' := I) (J' := J) (S' := S) am_e89 rfl rfl rfl rfl ?_
        refine w_st (i' := 42) (ls' := [.ref 1, .int x1, .int (((I 3) 5) - (nI 1))]) (st' := [.int (((I 3) 5) - (nI 1)), .ref 1]) (E' := E) (I' := I) (J' := J) (S' := S) am_e89 rfl rfl rfl rfl ?_
        refine w_st (i' := 43) (ls' := [.ref 1, .int x1, .int (((I 3) 5) - (nI 1))]) (st' := [.int (nI 16), .int (((I 3) 5) - (nI 1)), .ref 1]) (E' := E) (I' := I) (J' := J) (S' := S) am_e89 rfl rfl rfl rfl ?_
        refine w_st (i' := 44) (ls' := [.ref 1, .int x1, .int (((I 3) 5) - (nI 1))]) (st' := [.int ((((I 3) 5) - (nI 1)) * (nI 16)), .ref 1]) (E' := E) (I' := I) (J' := J) (S' := S) am_e89 rfl rfl rfl rfl ?_
        refine w_st (i' := 45) (ls' := [.ref 1, .int x1, .int (((I 3) 5) - (nI 1))]) (st' := [.ref 1, .int ((((I 3) 5) - (nI 1)) * (nI 16)), .ref 1]) (E' := E) (I' := I) (J' := J) (S' := S) am_e89 rfl rfl rfl rfl ?_
        refine w_st (i' := 46) (ls' := [.ref 1, .int x1, .int (((I 3) 5) - (nI 1))]) (st' := [.ref 3, .int ((((I 3) 5) - (nI 1)) * (nI 16)), .ref 1]) (E' := E) (I' := I) (J' := J) (S' := S) am_e89 rfl rfl rfl rfl ?_
        refine w_st (i' := 47) (ls' := [.ref 1, .int x1, .int (((I 3) 5) - (nI 1))]) (st' := [.ref 6, .int ((((I 3) 5) - (nI 1)) * (nI 16)), .ref 1]) (E' := E) (I' := I) (J' := J) (S' := S) am_e89 rfl rfl rfl rfl ?_
        refine w_st (i' := 48) (ls' := [.ref 1, .int x1, .int (((I 3) 5) - (nI 1))]) (st' := [.int (((I 3) 5) - (nI 1)), .ref 6, .int ((((I 3) 5) - (nI 1)) * (nI 16)), .ref 1]) (E' := E) (I' := I) (J' := J) (S' := S) am_e89 rfl rfl rfl rfl ?_
        refine w_ia (k := 6) (n := 4) (jn := (((I 3) 5) - (nI 1)).toNatClampNeg) am_e89 rfl rfl (by decide) hf1 rfl ?_
        refine w_st (i' := 50) (ls' := [.ref 1, .int x1, .int (((I 3) 5) - (nI 1))]) (st' := [.int (((((I 3) 5) - (nI 1)) * (nI 16)) + ((I 6) ((((I 3) 5) - (nI 1)).toNatClampNeg))), .ref 1]) (E' := E) (I' := I) (J' := J) (S' := S) am_e89 rfl rfl rfl rfl ?_
        refine w_st (i' := 51) (ls' := [.ref 1, .int x1, .int (((I 3) 5) - (nI 1))]) (st' := []) (E' := E) (I' := (u_I I 1 (upd (I 1) 14 (((((I 3) 5) - (nI 1)) * (nI 16)) + ((I 6) ((((I 3) 5) - (nI 1)).toNatClampNeg)))))) (J' := J) (S' := S) am_e89 rfl rfl rfl rfl ?_
        refine w_st (i' := 52) (ls' := [.ref 1, .int x1, .int (((I 3) 5) - (nI 1))]) (st' := [.ref 1]) (E' := E) (I' := (u_I I 1 (upd (I 1) 14 (((((I 3) 5) - (nI 1)) * (nI 16)) + ((I 6) ((((I 3) 5) - (nI 1)).toNatClampNeg)))))) (J' := J) (S' := S) am_e89 rfl rfl rfl rfl ?_
        refine w_st (i' := 53) (ls' := [.ref 1, .int x1, .int (((I 3) 5) - (nI 1))]) (st' := [.ref 3]) (E' := E) (I' := (u_I I 1 (upd (I 1) 14 (((((I 3) 5) - (nI 1)) * (nI 16)) + ((I 6) ((((I 3) 5) - (nI 1)).toNatClampNeg)))))) (J' := J) (S' := S) am_e89 rfl rfl rfl rfl ?_
        refine w_st (i' := 54) (ls' := [.ref 1, .int x1, .int (((I 3) 5) - (nI 1))]) (st' := [.ref 6]) (E' := E) (I' := (u_I I 1 (upd (I 1) 14 (((((I 3) 5) - (nI 1)) * (nI 16)) + ((I 6) ((((I 3) 5) - (nI 1)).toNatClampNeg)))))) (J' := J) (S' := S) am_e89 rfl rfl rfl rfl ?_
        refine w_st (i' := 55) (ls' := [.ref 1, .int x1, .int (((I 3) 5) - (nI 1))]) (st' := [.int (((I 3) 5) - (nI 1)), .ref 6]) (E' := E) (I' := (u_I I 1 (upd (I 1) 14 (((((I 3) 5) - (nI 1)) * (nI 16)) + ((I 6) ((((I 3) 5) - (nI 1)).toNatClampNeg)))))) (J' := J) (S' := S) am_e89 rfl rfl rfl rfl ?_
        refine w_st (i' := 56) (ls' := [.ref 1, .int x1, .int (((I 3) 5) - (nI 1))]) (st' := [.int (((I 3) 5) - (nI 1)), .ref 6, .int (((I 3) 5) - (nI 1)), .ref 6]) (E' := E) (I' := (u_I I 1 (upd (I 1) 14 (((((I 3) 5) - (nI 1)) * (nI 16)) + ((I 6) ((((I 3) 5) - (nI 1)).toNatClampNeg)))))) (J' := J) (S' := S) am_e89 rfl rfl rfl rfl ?_
        refine w_ia (k := 6) (n := 4) (jn := (((I 3) 5) - (nI 1)).toNatClampNeg) am_e89 rfl rfl (by decide) hf1 rfl ?_
        show am_ww 89 57 [.ref 1, .int x1, .int (((I 3) 5) - (nI 1))] [.int ((I 6) ((((I 3) 5) - (nI 1)).toNatClampNeg)), .int (((I 3) 5) - (nI 1)), .ref 6] E (u_I I 1 (upd (I 1) 14 (((((I 3) 5) - (nI 1)) * (nI 16)) + ((I 6) ((((I 3) 5) - (nI 1)).toNatClampNeg))))) J S _
        refine w_st (i' := 58) (ls' := [.ref 1, .int x1, .int (((I 3) 5) - (nI 1))]) (st' := [.int (nI 1), .int ((I 6) ((((I 3) 5) - (nI 1)).toNatClampNeg)), .int (((I 3) 5) - (nI 1)), .ref 6]) (E' := E) (I' := (u_I I 1 (upd (I 1) 14 (((((I 3) 5) - (nI 1)) * (nI 16)) + ((I 6) ((((I 3) 5) - (nI 1)).toNatClampNeg)))))) (J' := J) (S' := S) am_e89 rfl rfl rfl rfl ?_
        refine w_st (i' := 59) (ls' := [.ref 1, .int x1, .int (((I 3) 5) - (nI 1))]) (st' := [.int (((I 6) ((((I 3) 5) - (nI 1)).toNatClampNeg)) + (nI 1)), .int (((I 3) 5) - (nI 1)), .ref 6]) (E' := E) (I' := (u_I I 1 (upd (I 1) 14 (((((I 3) 5) - (nI 1)) * (nI 16)) + ((I 6) ((((I 3) 5) - (nI 1)).toNatClampNeg)))))) (J' := J) (S' := S) am_e89 rfl rfl rfl rfl ?_
        refine w_is (k := 6) (n := 4) (jn := (((I 3) 5) - (nI 1)).toNatClampNeg) am_e89 rfl rfl (by decide) hf1 rfl ?_
        show am_ww 89 60 [.ref 1, .int x1, .int (((I 3) 5) - (nI 1))] [] E (u_I (u_I I 1 (upd (I 1) 14 (((((I 3) 5) - (nI 1)) * (nI 16)) + ((I 6) ((((I 3) 5) - (nI 1)).toNatClampNeg))))) 6 (upd (I 6) ((((I 3) 5) - (nI 1)).toNatClampNeg) (((I 6) ((((I 3) 5) - (nI 1)).toNatClampNeg)) + (nI 1)))) J S _
        refine w_st (i' := 61) (ls' := [.ref 1, .int x1, .int (((I 3) 5) - (nI 1))]) (st' := [.int x1]) (E' := E) (I' := (u_I (u_I I 1 (upd (I 1) 14 (((((I 3) 5) - (nI 1)) * (nI 16)) + ((I 6) ((((I 3) 5) - (nI 1)).toNatClampNeg))))) 6 (upd (I 6) ((((I 3) 5) - (nI 1)).toNatClampNeg) (((I 6) ((((I 3) 5) - (nI 1)).toNatClampNeg)) + (nI 1))))) (J' := J) (S' := S) am_e89 rfl rfl rfl rfl ?_
        refine w_if1 am_e89 rfl rfl (fun c => ?_) (fun c => ?_)
        · replace h := h.1 (of_decide_eq_true c)
          refine w_st (i' := 66) (ls' := [.ref 1, .int x1, .int (((I 3) 5) - (nI 1))]) (st' := [.ref 1]) (E' := E) (I' := (u_I (u_I I 1 (upd (I 1) 14 (((((I 3) 5) - (nI 1)) * (nI 16)) + ((I 6) ((((I 3) 5) - (nI 1)).toNatClampNeg))))) 6 (upd (I 6) ((((I 3) 5) - (nI 1)).toNatClampNeg) (((I 6) ((((I 3) 5) - (nI 1)).toNatClampNeg)) + (nI 1))))) (J' := J) (S' := S) am_e89 rfl rfl rfl rfl ?_
          refine w_st (i' := 67) (ls' := [.ref 1, .int x1, .int (((I 3) 5) - (nI 1))]) (st' := [.int (((I 3) 5) - (nI 1)), .ref 1]) (E' := E) (I' := (u_I (u_I I 1 (upd (I 1) 14 (((((I 3) 5) - (nI 1)) * (nI 16)) + ((I 6) ((((I 3) 5) - (nI 1)).toNatClampNeg))))) 6 (upd (I 6) ((((I 3) 5) - (nI 1)).toNatClampNeg) (((I 6) ((((I 3) 5) - (nI 1)).toNatClampNeg)) + (nI 1))))) (J' := J) (S' := S) am_e89 rfl rfl rfl rfl ?_
          refine w_st (i' := 68) (ls' := [.ref 1, .int x1, .int (((I 3) 5) - (nI 1))]) (st' := [.ref 1, .int (((I 3) 5) - (nI 1)), .ref 1]) (E' := E) (I' := (u_I (u_I I 1 (upd (I 1) 14 (((((I 3) 5) - (nI 1)) * (nI 16)) + ((I 6) ((((I 3) 5) - (nI 1)).toNatClampNeg))))) 6 (upd (I 6) ((((I 3) 5) - (nI 1)).toNatClampNeg) (((I 6) ((((I 3) 5) - (nI 1)).toNatClampNeg)) + (nI 1))))) (J' := J) (S' := S) am_e89 rfl rfl rfl rfl ?_
          refine w_st (i' := 69) (ls' := [.ref 1, .int x1, .int (((I 3) 5) - (nI 1))]) (st' := [.long ((J 1) 9), .int (((I 3) 5) - (nI 1)), .ref 1]) (E' := E) (I' := (u_I (u_I I 1 (upd (I 1) 14 (((((I 3) 5) - (nI 1)) * (nI 16)) + ((I 6) ((((I 3) 5) - (nI 1)).toNatClampNeg))))) 6 (upd (I 6) ((((I 3) 5) - (nI 1)).toNatClampNeg) (((I 6) ((((I 3) 5) - (nI 1)).toNatClampNeg)) + (nI 1))))) (J' := J) (S' := S) am_e89 rfl rfl rfl rfl ?_
          refine w_cI am_e89 rfl rfl (as := [.ref 1, .int (((I 3) 5) - (nI 1)), .long ((J 1) 9)]) (rest := []) rfl rfl (am_ww.mono h ?_)
          rintro _ E2 I2 J2 S2 ⟨v2, rfl, h⟩
          refine q_mkI ?_
          refine w_st (i' := 71) (ls' := [.ref 1, .int x1, .int (((I 3) 5) - (nI 1))]) (st' := [.int (-1), .int v2]) (E' := E2) (I' := I2) (J' := J2) (S' := S2) am_e89 rfl rfl rfl rfl ?_
          refine w_if2 am_e89 rfl rfl (fun c => ?_) (fun c => ?_)
          · replace h := h.1 (of_decide_eq_true c)
            refine w_st (i' := 75) (ls' := [.ref 1, .int x1, .int (((I 3) 5) - (nI 1))]) (st' := [.ref 1]) (E' := E2) (I' := I2) (J' := J2) (S' := S2) am_e89 rfl rfl rfl rfl ?_
            refine w_st (i' := 76) (ls' := [.ref 1, .int x1, .int (((I 3) 5) - (nI 1))]) (st' := [.ref 9]) (E' := E2) (I' := I2) (J' := J2) (S' := S2) am_e89 rfl rfl rfl rfl ?_
            refine w_st (i' := 77) (ls' := [.ref 1, .int x1, .int (((I 3) 5) - (nI 1))]) (st' := [.ref 1, .ref 9]) (E' := E2) (I' := I2) (J' := J2) (S' := S2) am_e89 rfl rfl rfl rfl ?_
            refine w_st (i' := 78) (ls' := [.ref 1, .int x1, .int (((I 3) 5) - (nI 1))]) (st' := [.int ((I2 1) 14), .ref 9]) (E' := E2) (I' := I2) (J' := J2) (S' := S2) am_e89 rfl rfl rfl rfl ?_
            refine w_st (i' := 79) (ls' := [.ref 1, .int x1, .int (((I 3) 5) - (nI 1))]) (st' := [.ref 1, .int ((I2 1) 14), .ref 9]) (E' := E2) (I' := I2) (J' := J2) (S' := S2) am_e89 rfl rfl rfl rfl ?_
            refine w_st (i' := 80) (ls' := [.ref 1, .int x1, .int (((I 3) 5) - (nI 1))]) (st' := [.long ((J2 1) 9), .int ((I2 1) 14), .ref 9]) (E' := E2) (I' := I2) (J' := J2) (S' := S2) am_e89 rfl rfl rfl rfl ?_
            have hf3 := h.1
            replace h := h.2
            refine w_ls (k := 9) (n := 64) (jn := ((I2 1) 14).toNatClampNeg) am_e89 rfl rfl (by decide) hf3 rfl ?_
            show am_ww 89 81 [.ref 1, .int x1, .int (((I 3) 5) - (nI 1))] [] E2 I2 (u_J J2 9 (vp_updL (J2 9) (((I2 1) 14).toNatClampNeg) ((J2 1) 9))) S2 _
            refine w_st (i' := 82) (ls' := [.ref 1, .int x1, .int (((I 3) 5) - (nI 1))]) (st' := [.ref 1]) (E' := E2) (I' := I2) (J' := (u_J J2 9 (vp_updL (J2 9) (((I2 1) 14).toNatClampNeg) ((J2 1) 9)))) (S' := S2) am_e89 rfl rfl rfl rfl ?_
            refine w_st (i' := 83) (ls' := [.ref 1, .int x1, .int (((I 3) 5) - (nI 1))]) (st' := [.int (nI 3), .ref 1]) (E' := E2) (I' := I2) (J' := (u_J J2 9 (vp_updL (J2 9) (((I2 1) 14).toNatClampNeg) ((J2 1) 9)))) (S' := S2) am_e89 rfl rfl rfl rfl ?_
            refine w_st (i' := 84) (ls' := [.ref 1, .int x1, .int (((I 3) 5) - (nI 1))]) (st' := []) (E' := E2) (I' := (u_I I2 1 (upd (I2 1) 10 (nI 3)))) (J' := (u_J J2 9 (vp_updL (J2 9) (((I2 1) 14).toNatClampNeg) ((J2 1) 9)))) (S' := S2) am_e89 rfl rfl rfl rfl ?_
            refine w_st (i' := 85) (ls' := [.ref 1, .int x1, .int (((I 3) 5) - (nI 1))]) (st' := [.int (nI 0)]) (E' := E2) (I' := (u_I I2 1 (upd (I2 1) 10 (nI 3)))) (J' := (u_J J2 9 (vp_updL (J2 9) (((I2 1) 14).toNatClampNeg) ((J2 1) 9)))) (S' := S2) am_e89 rfl rfl rfl rfl ?_
            exact w_end am_e89 rfl rfl rfl h
          · replace h := h.2 (of_decide_eq_false c)
            refine w_st (i' := 73) (ls' := [.ref 1, .int x1, .int (((I 3) 5) - (nI 1))]) (st' := [.int (nI 4)]) (E' := E2) (I' := I2) (J' := J2) (S' := S2) am_e89 rfl rfl rfl rfl ?_
            exact w_end am_e89 rfl rfl rfl h
        · replace h := h.2 (of_decide_eq_false c)
          refine w_st (i' := 63) (ls' := [.ref 1, .int x1, .int (((I 3) 5) - (nI 1))]) (st' := [.ref 1]) (E' := E) (I' := (u_I (u_I I 1 (upd (I 1) 14 (((((I 3) 5) - (nI 1)) * (nI 16)) + ((I 6) ((((I 3) 5) - (nI 1)).toNatClampNeg))))) 6 (upd (I 6) ((((I 3) 5) - (nI 1)).toNatClampNeg) (((I 6) ((((I 3) 5) - (nI 1)).toNatClampNeg)) + (nI 1))))) (J' := J) (S' := S) am_e89 rfl rfl rfl rfl ?_
          refine w_cI am_e89 rfl rfl (as := [.ref 1]) (rest := []) rfl rfl (am_ww.mono h ?_)
          rintro _ E4 I4 J4 S4 ⟨v4, rfl, h⟩
          refine q_mkI ?_
          exact w_ri am_e89 rfl rfl h
      · replace h := h.2 (of_decide_eq_false c)
        refine w_st (i' := 39) (ls' := [.ref 1, .int x1, .int (((I 3) 5) - (nI 1))]) (st' := [.int (nI 2)]) (E' := E) (I' := I) (J' := J) (S' := S) am_e89 rfl rfl rfl rfl ?_
        exact w_end am_e89 rfl rfl rfl h
  · replace h := h.2 (of_decide_eq_false c)
    refine w_st (i' := 8) (ls' := [.ref 1]) (st' := [.int (nI 1)]) (E' := E) (I' := I) (J' := J) (S' := S) am_e84 rfl rfl rfl rfl ?_
    refine w_st (i' := 10) (ls' := [.ref 1]) (st' := [.int (nI 1)]) (E' := E) (I' := I) (J' := J) (S' := S) am_e84 rfl rfl rfl rfl ?_
    refine w_end (E' := E) (I' := I) (J' := J) (S' := S) am_e84 rfl rfl rfl (q_mkI ?_)
    show am_ww 89 28 [.ref 1, .int x1, .int (((I 3) 5) - (nI 1))] [.int (nI 1)] E I J S _
    refine w_st (i' := 38) (ls' := [.ref 1, .int x1, .int (((I 3) 5) - (nI 1))]) (st' := []) (E' := E) (I' := I) (J' := J) (S' := S) am_e89 rfl rfl rfl rfl ?_
    refine w_st (i' := 39) (ls' := [.ref 1, .int x1, .int (((I 3) 5) - (nI 1))]) (st' := [.int (nI 2)]) (E' := E) (I' := I) (J' := J) (S' := S) am_e89 rfl rfl rfl rfl ?_
    exact w_end am_e89 rfl rfl rfl h
-- 90 takeInstruction
theorem g90_0  {E : am_Ev} {I : Nat → Nat → Int32} {J : Nat → Nat → Int64} {S : Nat → Nat → Option Nat} {Q : am_Qt}  (h : (((I 1) 6) = (nI 2) → (((nI 6) ≤ ((I 1) 8) → (vp_in ((I 1) 14) 64 ∧ (am_cl 91 [.int ((I 1) 8)] E (u_I I 4 (upd (I 4) (((I 1) 14).toNatClampNeg) ((I 1) 8))) J S (q_R fun a E2 I2 J2 S2 => ∃ q3 : Nat, a = 2000000 + q3 ∧ q3 < 55 ∧ (am_cl 80 [.ref 1, .ref (2000000 + q3)] E2 I2 J2 S2 (q_V fun E4 I4 J4 S4 => Q (.inl (some (.int (nI 0)))) E4 I4 J4 S4)))))) ∧ (¬ (nI 6) ≤ ((I 1) 8) → (Q (.inl (some (.int (nI 1)))) E I J S)))) ∧ (¬ ((I 1) 6) = (nI 2) → (Q (.inl (some (.int (nI 1)))) E I J S))) : am_ww 90 0 [.ref 1] [] E I J S Q := by
  refine w_st (i' := 1) (ls' := [.ref 1]) (st' := [.ref 1]) (E' := E) (I' := I) (J' := J) (S' := S) am_e90 rfl rfl rfl rfl ?_
  refine w_st (i' := 2) (ls' := [.ref 1]) (st' := [.int ((I 1) 6)]) (E' := E) (I' := I) (J' := J) (S' := S) am_e90 rfl rfl rfl rfl ?_
  refine w_st (i' := 3) (ls' := [.ref 1]) (st' := [.int (nI 2), .int ((I 1) 6)]) (E' := E) (I' := I) (J' := J) (S' := S) am_e90 rfl rfl rfl rfl ?_
  refine w_if2 am_e90 rfl rfl (fun c => ?_) (fun c => ?_)
  · replace h := h.2 (of_decide_eq_true c)
    refine w_st (i' := 9) (ls' := [.ref 1]) (st' := [.int (nI 1)]) (E' := E) (I' := I) (J' := J) (S' := S) am_e90 rfl rfl rfl rfl ?_
    exact w_end am_e90 rfl rfl rfl h
  · replace h := h.1 (Decidable.not_not.mp (of_decide_eq_false c))
    refine w_st (i' := 5) (ls' := [.ref 1]) (st' := [.ref 1]) (E' := E) (I' := I) (J' := J) (S' := S) am_e90 rfl rfl rfl rfl ?_
    refine w_st (i' := 6) (ls' := [.ref 1]) (st' := [.int ((I 1) 8)]) (E' := E) (I' := I) (J' := J) (S' := S) am_e90 rfl rfl rfl rfl ?_
    refine w_st (i' := 7) (ls' := [.ref 1]) (st' := [.int (nI 6), .int ((I 1) 8)]) (E' := E) (I' := I) (J' := J) (S' := S) am_e90 rfl rfl rfl rfl ?_
    refine w_if2 am_e90 rfl rfl (fun c => ?_) (fun c => ?_)
    · replace h := h.1 (of_decide_eq_true c)
      refine w_st (i' := 11) (ls' := [.ref 1]) (st' := [.ref 1]) (E' := E) (I' := I) (J' := J) (S' := S) am_e90 rfl rfl rfl rfl ?_
      refine w_st (i' := 12) (ls' := [.ref 1]) (st' := [.ref 3]) (E' := E) (I' := I) (J' := J) (S' := S) am_e90 rfl rfl rfl rfl ?_
      refine w_st (i' := 13) (ls' := [.ref 1]) (st' := [.ref 4]) (E' := E) (I' := I) (J' := J) (S' := S) am_e90 rfl rfl rfl rfl ?_
      refine w_st (i' := 14) (ls' := [.ref 1]) (st' := [.ref 1, .ref 4]) (E' := E) (I' := I) (J' := J) (S' := S) am_e90 rfl rfl rfl rfl ?_
      refine w_st (i' := 15) (ls' := [.ref 1]) (st' := [.int ((I 1) 14), .ref 4]) (E' := E) (I' := I) (J' := J) (S' := S) am_e90 rfl rfl rfl rfl ?_
      refine w_st (i' := 16) (ls' := [.ref 1]) (st' := [.ref 1, .int ((I 1) 14), .ref 4]) (E' := E) (I' := I) (J' := J) (S' := S) am_e90 rfl rfl rfl rfl ?_
      refine w_st (i' := 17) (ls' := [.ref 1]) (st' := [.int ((I 1) 8), .int ((I 1) 14), .ref 4]) (E' := E) (I' := I) (J' := J) (S' := S) am_e90 rfl rfl rfl rfl ?_
      have hf1 := h.1
      replace h := h.2
      refine w_is (k := 4) (n := 64) (jn := ((I 1) 14).toNatClampNeg) am_e90 rfl rfl (by decide) hf1 rfl ?_
      show am_ww 90 18 [.ref 1] [] E (u_I I 4 (upd (I 4) (((I 1) 14).toNatClampNeg) ((I 1) 8))) J S _
      refine w_st (i' := 19) (ls' := [.ref 1]) (st' := [.ref 1]) (E' := E) (I' := (u_I I 4 (upd (I 4) (((I 1) 14).toNatClampNeg) ((I 1) 8)))) (J' := J) (S' := S) am_e90 rfl rfl rfl rfl ?_
      refine w_st (i' := 20) (ls' := [.ref 1]) (st' := [.ref 1, .ref 1]) (E' := E) (I' := (u_I I 4 (upd (I 4) (((I 1) 14).toNatClampNeg) ((I 1) 8)))) (J' := J) (S' := S) am_e90 rfl rfl rfl rfl ?_
      refine w_st (i' := 21) (ls' := [.ref 1]) (st' := [.int ((I 1) 8), .ref 1]) (E' := E) (I' := (u_I I 4 (upd (I 4) (((I 1) 14).toNatClampNeg) ((I 1) 8)))) (J' := J) (S' := S) am_e90 rfl rfl rfl rfl ?_
      refine w_cR am_e90 rfl rfl (as := [.int ((I 1) 8)]) (rest := [.ref 1]) rfl rfl (am_ww.mono h ?_)
      rintro _ E2 I2 J2 S2 ⟨_, rfl, q3, rfl, hsq3, h⟩
      refine q_mkR ?_
      refine w_cV am_e90 rfl rfl (as := [.ref 1, .ref (2000000 + q3)]) (rest := []) rfl rfl (am_ww.mono h ?_)
      rintro _ E4 I4 J4 S4 ⟨rfl, h⟩
      refine q_mkV ?_
      refine w_st (i' := 24) (ls' := [.ref 1]) (st' := [.int (nI 0)]) (E' := E4) (I' := I4) (J' := J4) (S' := S4) am_e90 rfl rfl rfl rfl ?_
      exact w_end am_e90 rfl rfl rfl h
    · replace h := h.2 (of_decide_eq_false c)
      refine w_st (i' := 9) (ls' := [.ref 1]) (st' := [.int (nI 1)]) (E' := E) (I' := I) (J' := J) (S' := S) am_e90 rfl rfl rfl rfl ?_
      exact w_end am_e90 rfl rfl rfl h
-- 91 shapeOf
theorem g91_0 {p1 : Int32} {E : am_Ev} {I : Nat → Nat → Int32} {J : Nat → Nat → Int64} {S : Nat → Nat → Option Nat} {Q : am_Qt}  (h : (p1 = nI 6 → (Q (.inl (some (.ref 2000005))) E I J S)) ∧ (p1 = nI 7 → (Q (.inl (some (.ref 2000006))) E I J S)) ∧ (p1 = nI 8 → (Q (.inl (some (.ref 2000007))) E I J S)) ∧ (p1 = nI 9 → (Q (.inl (some (.ref 2000008))) E I J S)) ∧ (p1 = nI 10 → (Q (.inl (some (.ref 2000008))) E I J S)) ∧ (p1 = nI 11 → (Q (.inl (some (.ref 2000008))) E I J S)) ∧ (p1 = nI 12 → (Q (.inl (some (.ref 2000009))) E I J S)) ∧ (p1 = nI 13 → (Q (.inl (some (.ref 2000010))) E I J S)) ∧ (p1 = nI 14 → (Q (.inl (some (.ref 2000010))) E I J S)) ∧ (p1 = nI 15 → (Q (.inl (some (.ref 2000011))) E I J S)) ∧ (p1 = nI 16 → (Q (.inl (some (.ref 2000012))) E I J S)) ∧ (p1 = nI 17 → (Q (.inl (some (.ref 2000013))) E I J S)) ∧ (¬ p1 = nI 6 → ¬ p1 = nI 7 → ¬ p1 = nI 8 → ¬ p1 = nI 9 → ¬ p1 = nI 10 → ¬ p1 = nI 11 → ¬ p1 = nI 12 → ¬ p1 = nI 13 → ¬ p1 = nI 14 → ¬ p1 = nI 15 → ¬ p1 = nI 16 → ¬ p1 = nI 17 → (Q (.inl (some (.ref 2000000))) E I J S))) : am_ww 91 0 [.int p1] [] E I J S Q := by
  refine w_st (i' := 1) (ls' := [.int p1]) (st' := [.int p1]) (E' := E) (I' := I) (J' := J) (S' := S) am_e91 rfl rfl rfl rfl ?_
  refine w_tb am_e91 rfl ?_
  by_cases c6 : p1 = nI 6
  · replace h := h.1 c6
    refine w_to (i2 := 2) (by rw [c6]; first | done | rfl) ?_
    refine w_st (i' := 3) (ls' := [.int p1]) (st' := [.ref 2000005]) (E' := E) (I' := I) (J' := J) (S' := S) am_e91 rfl rfl rfl rfl ?_
    exact w_end am_e91 rfl rfl rfl h
  by_cases c7 : p1 = nI 7
  · replace h := h.2.1 c7
    refine w_to (i2 := 4) (by rw [c7]; first | done | rfl) ?_
    refine w_st (i' := 5) (ls' := [.int p1]) (st' := [.ref 2000006]) (E' := E) (I' := I) (J' := J) (S' := S) am_e91 rfl rfl rfl rfl ?_
    exact w_end am_e91 rfl rfl rfl h
  by_cases c8 : p1 = nI 8
  · replace h := h.2.2.1 c8
    refine w_to (i2 := 6) (by rw [c8]; first | done | rfl) ?_
    refine w_st (i' := 7) (ls' := [.int p1]) (st' := [.ref 2000007]) (E' := E) (I' := I) (J' := J) (S' := S) am_e91 rfl rfl rfl rfl ?_
    exact w_end am_e91 rfl rfl rfl h
  by_cases c9 : p1 = nI 9
  · replace h := h.2.2.2.1 c9
    refine w_to (i2 := 8) (by rw [c9]; first | done | rfl) ?_
    refine w_st (i' := 9) (ls' := [.int p1]) (st' := [.ref 2000008]) (E' := E) (I' := I) (J' := J) (S' := S) am_e91 rfl rfl rfl rfl ?_
    exact w_end am_e91 rfl rfl rfl h
  by_cases c10 : p1 = nI 10
  · replace h := h.2.2.2.2.1 c10
    refine w_to (i2 := 8) (by rw [c10]; first | done | rfl) ?_
    refine w_st (i' := 9) (ls' := [.int p1]) (st' := [.ref 2000008]) (E' := E) (I' := I) (J' := J) (S' := S) am_e91 rfl rfl rfl rfl ?_
    exact w_end am_e91 rfl rfl rfl h
  by_cases c11 : p1 = nI 11
  · replace h := h.2.2.2.2.2.1 c11
    refine w_to (i2 := 8) (by rw [c11]; first | done | rfl) ?_
    refine w_st (i' := 9) (ls' := [.int p1]) (st' := [.ref 2000008]) (E' := E) (I' := I) (J' := J) (S' := S) am_e91 rfl rfl rfl rfl ?_
    exact w_end am_e91 rfl rfl rfl h
  by_cases c12 : p1 = nI 12
  · replace h := h.2.2.2.2.2.2.1 c12
    refine w_to (i2 := 10) (by rw [c12]; first | done | rfl) ?_
    refine w_st (i' := 11) (ls' := [.int p1]) (st' := [.ref 2000009]) (E' := E) (I' := I) (J' := J) (S' := S) am_e91 rfl rfl rfl rfl ?_
    exact w_end am_e91 rfl rfl rfl h
  by_cases c13 : p1 = nI 13
  · replace h := h.2.2.2.2.2.2.2.1 c13
    refine w_to (i2 := 12) (by rw [c13]; first | done | rfl) ?_
    refine w_st (i' := 13) (ls' := [.int p1]) (st' := [.ref 2000010]) (E' := E) (I' := I) (J' := J) (S' := S) am_e91 rfl rfl rfl rfl ?_
    exact w_end am_e91 rfl rfl rfl h
  by_cases c14 : p1 = nI 14
  · replace h := h.2.2.2.2.2.2.2.2.1 c14
    refine w_to (i2 := 12) (by rw [c14]; first | done | rfl) ?_
    refine w_st (i' := 13) (ls' := [.int p1]) (st' := [.ref 2000010]) (E' := E) (I' := I) (J' := J) (S' := S) am_e91 rfl rfl rfl rfl ?_
    exact w_end am_e91 rfl rfl rfl h
  by_cases c15 : p1 = nI 15
  · replace h := h.2.2.2.2.2.2.2.2.2.1 c15
    refine w_to (i2 := 14) (by rw [c15]; first | done | rfl) ?_
    refine w_st (i' := 15) (ls' := [.int p1]) (st' := [.ref 2000011]) (E' := E) (I' := I) (J' := J) (S' := S) am_e91 rfl rfl rfl rfl ?_
    exact w_end am_e91 rfl rfl rfl h
  by_cases c16 : p1 = nI 16
  · replace h := h.2.2.2.2.2.2.2.2.2.2.1 c16
    refine w_to (i2 := 16) (by rw [c16]; first | done | rfl) ?_
    refine w_st (i' := 17) (ls' := [.int p1]) (st' := [.ref 2000012]) (E' := E) (I' := I) (J' := J) (S' := S) am_e91 rfl rfl rfl rfl ?_
    exact w_end am_e91 rfl rfl rfl h
  by_cases c17 : p1 = nI 17
  · replace h := h.2.2.2.2.2.2.2.2.2.2.2.1 c17
    refine w_to (i2 := 18) (by rw [c17]; first | done | rfl) ?_
    refine w_st (i' := 19) (ls' := [.int p1]) (st' := [.ref 2000013]) (E' := E) (I' := I) (J' := J) (S' := S) am_e91 rfl rfl rfl rfl ?_
    exact w_end am_e91 rfl rfl rfl h
  replace h := h.2.2.2.2.2.2.2.2.2.2.2.2 c6 c7 c8 c9 c10 c11 c12 c13 c14 c15 c16 c17
  refine w_to (i2 := 20) (am_tb_out (lo := 6) (up := 17) (by intro q h1 h2; have : q = 6 ∨ q = 7 ∨ q = 8 ∨ q = 9 ∨ q = 10 ∨ q = 11 ∨ q = 12 ∨ q = 13 ∨ q = 14 ∨ q = 15 ∨ q = 16 ∨ q = 17 := (by omega); rcases this with rfl | rfl | rfl | rfl | rfl | rfl | rfl | rfl | rfl | rfl | rfl | rfl <;> assumption)) ?_
  refine w_st (i' := 21) (ls' := [.int p1]) (st' := [.ref 2000000]) (E' := E) (I' := I) (J' := J) (S' := S) am_e91 rfl rfl rfl rfl ?_
  exact w_end am_e91 rfl rfl rfl h
-- 92 placeOfName
theorem g92_0 {p1 : Int32} {p2 : Int64} {E : am_Ev} {I : Nat → Nat → Int32} {J : Nat → Nat → Int64} {S : Nat → Nat → Option Nat} {Q : am_Qt}  (h : am_ww 92 2 [.ref 1, .int p1, .long p2, am_U, .int (nI 0)] [] E I J S Q) : am_ww 92 0 [.ref 1, .int p1, .long p2, am_U, am_U] [] E I J S Q := by
  refine w_st (i' := 1) (ls' := [.ref 1, .int p1, .long p2, am_U, am_U]) (st' := [.int (nI 0)]) (E' := E) (I' := I) (J' := J) (S' := S) am_e92 rfl rfl rfl rfl ?_
  refine w_st (i' := 2) (ls' := [.ref 1, .int p1, .long p2, am_U, .int (nI 0)]) (st' := []) (E' := E) (I' := I) (J' := J) (S' := S) am_e92 rfl rfl rfl rfl ?_
  exact h
theorem g92_2 {x1 : Int32} {x2 : Int64} {d3 : Value} {x4 : Int32} {E : am_Ev} {I : Nat → Nat → Int32} {J : Nat → Nat → Int64} {S : Nat → Nat → Option Nat} {Q : am_Qt} (hd3 : am_isL d3 = false) (h : vp_in x1 4 ∧ ((((I 6) x1.toNatClampNeg) ≤ x4 → (Q (.inl (some (.int (-1)))) E I J S)) ∧ (¬ ((I 6) x1.toNatClampNeg) ≤ x4 → (vp_in ((x1 * (nI 16)) + x4) 64 ∧ (((lg_cmp ((J 9) (((x1 * (nI 16)) + x4).toNatClampNeg)) x2) = 0 → (Q (.inl (some (.int x4))) E I J S)) ∧ (¬ (lg_cmp ((J 9) (((x1 * (nI 16)) + x4).toNatClampNeg)) x2) = 0 → (am_ww 92 2 [.ref 1, .int x1, .long x2, d3, .int (x4 + nI 1)] [] E I J S Q))))))) : am_ww 92 2 [.ref 1, .int x1, .long x2, d3, .int x4] [] E I J S Q := by
  refine w_st (i' := 3) (ls' := [.ref 1, .int x1, .long x2, d3, .int x4]) (st' := [.int x4]) (E' := E) (I' := I) (J' := J) (S' := S) am_e92 rfl rfl rfl rfl ?_
  refine w_st (i' := 4) (ls' := [.ref 1, .int x1, .long x2, d3, .int x4]) (st' := [.ref 1, .int x4]) (E' := E) (I' := I) (J' := J) (S' := S) am_e92 rfl rfl rfl rfl ?_
  refine w_st (i' := 5) (ls' := [.ref 1, .int x1, .long x2, d3, .int x4]) (st' := [.ref 3, .int x4]) (E' := E) (I' := I) (J' := J) (S' := S) am_e92 rfl rfl rfl rfl ?_
  refine w_st (i' := 6) (ls' := [.ref 1, .int x1, .long x2, d3, .int x4]) (st' := [.ref 6, .int x4]) (E' := E) (I' := I) (J' := J) (S' := S) am_e92 rfl rfl rfl rfl ?_
  refine w_st (i' := 7) (ls' := [.ref 1, .int x1, .long x2, d3, .int x4]) (st' := [.int x1, .ref 6, .int x4]) (E' := E) (I' := I) (J' := J) (S' := S) am_e92 rfl rfl rfl rfl ?_
  have hf1 := h.1
  replace h := h.2
  refine w_ia (k := 6) (n := 4) (jn := x1.toNatClampNeg) am_e92 rfl rfl (by decide) hf1 rfl ?_
  refine w_if2 am_e92 rfl rfl (fun c => ?_) (fun c => ?_)
  · replace h := h.1 (of_decide_eq_true c)
    refine w_st (i' := 25) (ls' := [.ref 1, .int x1, .long x2, d3, .int x4]) (st' := [.int (-1)]) (E' := E) (I' := I) (J' := J) (S' := S) am_e92 rfl rfl rfl rfl ?_
    exact w_end am_e92 rfl rfl rfl h
  · replace h := h.2 (of_decide_eq_false c)
    refine w_st (i' := 10) (ls' := [.ref 1, .int x1, .long x2, d3, .int x4]) (st' := [.ref 1]) (E' := E) (I' := I) (J' := J) (S' := S) am_e92 rfl rfl rfl rfl ?_
    refine w_st (i' := 11) (ls' := [.ref 1, .int x1, .long x2, d3, .int x4]) (st' := [.ref 9]) (E' := E) (I' := I) (J' := J) (S' := S) am_e92 rfl rfl rfl rfl ?_
    refine w_st (i' := 12) (ls' := [.ref 1, .int x1, .long x2, d3, .int x4]) (st' := [.int x1, .ref 9]) (E' := E) (I' := I) (J' := J) (S' := S) am_e92 rfl rfl rfl rfl ?_
    refine w_st (i' := 13) (ls' := [.ref 1, .int x1, .long x2, d3, .int x4]) (st' := [.int (nI 16), .int x1, .ref 9]) (E' := E) (I' := I) (J' := J) (S' := S) am_e92 rfl rfl rfl rfl ?_
    refine w_st (i' := 14) (ls' := [.ref 1, .int x1, .long x2, d3, .int x4]) (st' := [.int (x1 * (nI 16)), .ref 9]) (E' := E) (I' := I) (J' := J) (S' := S) am_e92 rfl rfl rfl rfl ?_
    refine w_st (i' := 15) (ls' := [.ref 1, .int x1, .long x2, d3, .int x4]) (st' := [.int x4, .int (x1 * (nI 16)), .ref 9]) (E' := E) (I' := I) (J' := J) (S' := S) am_e92 rfl rfl rfl rfl ?_
    refine w_st (i' := 16) (ls' := [.ref 1, .int x1, .long x2, d3, .int x4]) (st' := [.int ((x1 * (nI 16)) + x4), .ref 9]) (E' := E) (I' := I) (J' := J) (S' := S) am_e92 rfl rfl rfl rfl ?_
    have hf2 := h.1
    replace h := h.2
    refine w_la (k := 9) (n := 64) (jn := ((x1 * (nI 16)) + x4).toNatClampNeg) am_e92 rfl rfl (by decide) hf2 rfl ?_
    refine w_st (i' := 18) (ls' := [.ref 1, .int x1, .long x2, d3, .int x4]) (st' := [.long x2, .long ((J 9) (((x1 * (nI 16)) + x4).toNatClampNeg))]) (E' := E) (I' := I) (J' := J) (S' := S) am_e92 rfl rfl rfl rfl ?_
    refine w_st (i' := 19) (ls' := [.ref 1, .int x1, .long x2, d3, .int x4]) (st' := [.int (lg_cmp ((J 9) (((x1 * (nI 16)) + x4).toNatClampNeg)) x2)]) (E' := E) (I' := I) (J' := J) (S' := S) am_e92 rfl rfl rfl rfl ?_
    refine w_if1 am_e92 rfl rfl (fun c => ?_) (fun c => ?_)
    · replace h := h.2 (of_decide_eq_true c)
      refine w_st (i' := 23) (ls' := [.ref 1, .int x1, .long x2, d3, .int (x4 + nI 1)]) (st' := []) (E' := E) (I' := I) (J' := J) (S' := S) am_e92 rfl rfl rfl (by simp [am_step, am_sto, am_inc, hd3] <;> rfl) ?_
      refine w_st (i' := 2) (ls' := [.ref 1, .int x1, .long x2, d3, .int (x4 + nI 1)]) (st' := []) (E' := E) (I' := I) (J' := J) (S' := S) am_e92 rfl rfl rfl rfl ?_
      exact h
    · replace h := h.1 (Decidable.not_not.mp (of_decide_eq_false c))
      refine w_st (i' := 21) (ls' := [.ref 1, .int x1, .long x2, d3, .int x4]) (st' := [.int x4]) (E' := E) (I' := I) (J' := J) (S' := S) am_e92 rfl rfl rfl rfl ?_
      exact w_ri am_e92 rfl rfl h
-- 93 takeColon
theorem g93_0  {E : am_Ev} {I : Nat → Nat → Int32} {J : Nat → Nat → Int64} {S : Nat → Nat → Option Nat} {Q : am_Qt}  (h : (((I 1) 6) = (nI 58) → (Q (.inl (some (.int (nI 0)))) E (u_I I 1 (upd (I 1) 10 (nI 4))) J S)) ∧ (¬ ((I 1) 6) = (nI 58) → (Q (.inl (some (.int (nI 1)))) E I J S))) : am_ww 93 0 [.ref 1] [] E I J S Q := by
  refine w_st (i' := 1) (ls' := [.ref 1]) (st' := [.ref 1]) (E' := E) (I' := I) (J' := J) (S' := S) am_e93 rfl rfl rfl rfl ?_
  refine w_st (i' := 2) (ls' := [.ref 1]) (st' := [.int ((I 1) 6)]) (E' := E) (I' := I) (J' := J) (S' := S) am_e93 rfl rfl rfl rfl ?_
  refine w_st (i' := 3) (ls' := [.ref 1]) (st' := [.int (nI 58), .int ((I 1) 6)]) (E' := E) (I' := I) (J' := J) (S' := S) am_e93 rfl rfl rfl rfl ?_
  refine w_if2 am_e93 rfl rfl (fun c => ?_) (fun c => ?_)
  · replace h := h.1 (of_decide_eq_true c)
    refine w_st (i' := 7) (ls' := [.ref 1]) (st' := [.ref 1]) (E' := E) (I' := I) (J' := J) (S' := S) am_e93 rfl rfl rfl rfl ?_
    refine w_st (i' := 8) (ls' := [.ref 1]) (st' := [.int (nI 4), .ref 1]) (E' := E) (I' := I) (J' := J) (S' := S) am_e93 rfl rfl rfl rfl ?_
    refine w_st (i' := 9) (ls' := [.ref 1]) (st' := []) (E' := E) (I' := (u_I I 1 (upd (I 1) 10 (nI 4)))) (J' := J) (S' := S) am_e93 rfl rfl rfl rfl ?_
    refine w_st (i' := 10) (ls' := [.ref 1]) (st' := [.int (nI 0)]) (E' := E) (I' := (u_I I 1 (upd (I 1) 10 (nI 4)))) (J' := J) (S' := S) am_e93 rfl rfl rfl rfl ?_
    exact w_end am_e93 rfl rfl rfl h
  · replace h := h.2 (of_decide_eq_false c)
    refine w_st (i' := 5) (ls' := [.ref 1]) (st' := [.int (nI 1)]) (E' := E) (I' := I) (J' := J) (S' := S) am_e93 rfl rfl rfl rfl ?_
    exact w_end am_e93 rfl rfl rfl h
-- 94 takeLineEnd
theorem g94_0  {E : am_Ev} {I : Nat → Nat → Int32} {J : Nat → Nat → Int64} {S : Nat → Nat → Option Nat} {Q : am_Qt}  (h : (((I 1) 6) = (nI 44) → (∀ w2 : Int32, w2 = (if ((I 1) 6) = (nI 44) then nI 2 else nI 0) → (Q (.inl (some (.int (nI 0)))) E (u_I I 1 (upd (I 1) 10 w2)) J S))) ∧ (¬ ((I 1) 6) = (nI 44) → ((((I 1) 6) = (nI 59) → (∀ w4 : Int32, w4 = (if ((I 1) 6) = (nI 44) then nI 2 else nI 0) → (Q (.inl (some (.int (nI 0)))) E (u_I I 1 (upd (I 1) 10 w4)) J S))) ∧ (¬ ((I 1) 6) = (nI 59) → (Q (.inl (some (.int (nI 1)))) E I J S))))) : am_ww 94 0 [.ref 1] [] E I J S Q := by
  refine w_st (i' := 1) (ls' := [.ref 1]) (st' := [.ref 1]) (E' := E) (I' := I) (J' := J) (S' := S) am_e94 rfl rfl rfl rfl ?_
  refine w_st (i' := 2) (ls' := [.ref 1]) (st' := [.int ((I 1) 6)]) (E' := E) (I' := I) (J' := J) (S' := S) am_e94 rfl rfl rfl rfl ?_
  refine w_st (i' := 3) (ls' := [.ref 1]) (st' := [.int (nI 44), .int ((I 1) 6)]) (E' := E) (I' := I) (J' := J) (S' := S) am_e94 rfl rfl rfl rfl ?_
  refine w_if2 am_e94 rfl rfl (fun c => ?_) (fun c => ?_)
  · replace h := h.1 (of_decide_eq_true c)
    refine w_st (i' := 11) (ls' := [.ref 1]) (st' := [.ref 1]) (E' := E) (I' := I) (J' := J) (S' := S) am_e94 rfl rfl rfl rfl ?_
    refine w_st (i' := 12) (ls' := [.ref 1]) (st' := [.ref 1, .ref 1]) (E' := E) (I' := I) (J' := J) (S' := S) am_e94 rfl rfl rfl rfl ?_
    refine w_st (i' := 13) (ls' := [.ref 1]) (st' := [.int ((I 1) 6), .ref 1]) (E' := E) (I' := I) (J' := J) (S' := S) am_e94 rfl rfl rfl rfl ?_
    refine w_st (i' := 14) (ls' := [.ref 1]) (st' := [.int (nI 44), .int ((I 1) 6), .ref 1]) (E' := E) (I' := I) (J' := J) (S' := S) am_e94 rfl rfl rfl rfl ?_
    refine w_mg (i := 18) (ls' := [.ref 1]) (st' := [.int (if ((I 1) 6) = (nI 44) then nI 2 else nI 0), .ref 1]) (fun hm => ?_) ?_
    · clear h
      refine w_if2 am_e94 rfl rfl (fun c => ?_) (fun c => ?_)
      · have m1 : ¬ (((I 1) 6) = (nI 44)) := (of_decide_eq_true c)
        refine w_st (i' := 18) (ls' := [.ref 1]) (st' := [.int (nI 0), .ref 1]) (E' := E) (I' := I) (J' := J) (S' := S) am_e94 rfl rfl rfl rfl ?_
        first | exact hm | (simp only [if_neg m1] at hm; exact hm)
      · have m1 : ((I 1) 6) = (nI 44) := (Decidable.not_not.mp (of_decide_eq_false c))
        refine w_st (i' := 16) (ls' := [.ref 1]) (st' := [.int (nI 2), .ref 1]) (E' := E) (I' := I) (J' := J) (S' := S) am_e94 rfl rfl rfl rfl ?_
        refine w_st (i' := 18) (ls' := [.ref 1]) (st' := [.int (nI 2), .ref 1]) (E' := E) (I' := I) (J' := J) (S' := S) am_e94 rfl rfl rfl rfl ?_
        first | exact hm | (simp only [if_pos m1] at hm; exact hm)
    refine w_var (fun w2 => am_ww 94 18 [.ref 1] [.int w2, .ref 1] E I J S _) (if ((I 1) 6) = (nI 44) then nI 2 else nI 0) (fun w2 hw2 => ?_)
    replace h := h w2 hw2
    refine w_st (i' := 19) (ls' := [.ref 1]) (st' := []) (E' := E) (I' := (u_I I 1 (upd (I 1) 10 w2))) (J' := J) (S' := S) am_e94 rfl rfl rfl rfl ?_
    refine w_st (i' := 20) (ls' := [.ref 1]) (st' := [.int (nI 0)]) (E' := E) (I' := (u_I I 1 (upd (I 1) 10 w2))) (J' := J) (S' := S) am_e94 rfl rfl rfl rfl ?_
    exact w_end am_e94 rfl rfl rfl h
  · replace h := h.2 (of_decide_eq_false c)
    refine w_st (i' := 5) (ls' := [.ref 1]) (st' := [.ref 1]) (E' := E) (I' := I) (J' := J) (S' := S) am_e94 rfl rfl rfl rfl ?_
    refine w_st (i' := 6) (ls' := [.ref 1]) (st' := [.int ((I 1) 6)]) (E' := E) (I' := I) (J' := J) (S' := S) am_e94 rfl rfl rfl rfl ?_
    refine w_st (i' := 7) (ls' := [.ref 1]) (st' := [.int (nI 59), .int ((I 1) 6)]) (E' := E) (I' := I) (J' := J) (S' := S) am_e94 rfl rfl rfl rfl ?_
    refine w_if2 am_e94 rfl rfl (fun c => ?_) (fun c => ?_)
    · replace h := h.1 (of_decide_eq_true c)
      refine w_st (i' := 11) (ls' := [.ref 1]) (st' := [.ref 1]) (E' := E) (I' := I) (J' := J) (S' := S) am_e94 rfl rfl rfl rfl ?_
      refine w_st (i' := 12) (ls' := [.ref 1]) (st' := [.ref 1, .ref 1]) (E' := E) (I' := I) (J' := J) (S' := S) am_e94 rfl rfl rfl rfl ?_
      refine w_st (i' := 13) (ls' := [.ref 1]) (st' := [.int ((I 1) 6), .ref 1]) (E' := E) (I' := I) (J' := J) (S' := S) am_e94 rfl rfl rfl rfl ?_
      refine w_st (i' := 14) (ls' := [.ref 1]) (st' := [.int (nI 44), .int ((I 1) 6), .ref 1]) (E' := E) (I' := I) (J' := J) (S' := S) am_e94 rfl rfl rfl rfl ?_
      refine w_mg (i := 18) (ls' := [.ref 1]) (st' := [.int (if ((I 1) 6) = (nI 44) then nI 2 else nI 0), .ref 1]) (fun hm => ?_) ?_
      · clear h
        refine w_if2 am_e94 rfl rfl (fun c => ?_) (fun c => ?_)
        · have m3 : ¬ (((I 1) 6) = (nI 44)) := (of_decide_eq_true c)
          refine w_st (i' := 18) (ls' := [.ref 1]) (st' := [.int (nI 0), .ref 1]) (E' := E) (I' := I) (J' := J) (S' := S) am_e94 rfl rfl rfl rfl ?_
          first | exact hm | (simp only [if_neg m3] at hm; exact hm)
        · have m3 : ((I 1) 6) = (nI 44) := (Decidable.not_not.mp (of_decide_eq_false c))
          refine w_st (i' := 16) (ls' := [.ref 1]) (st' := [.int (nI 2), .ref 1]) (E' := E) (I' := I) (J' := J) (S' := S) am_e94 rfl rfl rfl rfl ?_
          refine w_st (i' := 18) (ls' := [.ref 1]) (st' := [.int (nI 2), .ref 1]) (E' := E) (I' := I) (J' := J) (S' := S) am_e94 rfl rfl rfl rfl ?_
          first | exact hm | (simp only [if_pos m3] at hm; exact hm)
      refine w_var (fun w4 => am_ww 94 18 [.ref 1] [.int w4, .ref 1] E I J S _) (if ((I 1) 6) = (nI 44) then nI 2 else nI 0) (fun w4 hw4 => ?_)
      replace h := h w4 hw4
      refine w_st (i' := 19) (ls' := [.ref 1]) (st' := []) (E' := E) (I' := (u_I I 1 (upd (I 1) 10 w4))) (J' := J) (S' := S) am_e94 rfl rfl rfl rfl ?_
      refine w_st (i' := 20) (ls' := [.ref 1]) (st' := [.int (nI 0)]) (E' := E) (I' := (u_I I 1 (upd (I 1) 10 w4))) (J' := J) (S' := S) am_e94 rfl rfl rfl rfl ?_
      exact w_end am_e94 rfl rfl rfl h
    · replace h := h.2 (of_decide_eq_false c)
      refine w_st (i' := 9) (ls' := [.ref 1]) (st' := [.int (nI 1)]) (E' := E) (I' := I) (J' := J) (S' := S) am_e94 rfl rfl rfl rfl ?_
      exact w_end am_e94 rfl rfl rfl h
-- 95 resolveNames
theorem g95_0  {E : am_Ev} {I : Nat → Nat → Int32} {J : Nat → Nat → Int64} {S : Nat → Nat → Option Nat} {Q : am_Qt}  (h : am_ww 95 2 [.ref 1, .int (nI 0), am_U, am_U] [] E I J S Q) : am_ww 95 0 [.ref 1, am_U, am_U, am_U] [] E I J S Q := by
  refine w_st (i' := 1) (ls' := [.ref 1, am_U, am_U, am_U]) (st' := [.int (nI 0)]) (E' := E) (I' := I) (J' := J) (S' := S) am_e95 rfl rfl rfl rfl ?_
  refine w_st (i' := 2) (ls' := [.ref 1, .int (nI 0), am_U, am_U]) (st' := []) (E' := E) (I' := I) (J' := J) (S' := S) am_e95 rfl rfl rfl rfl ?_
  exact h
theorem g95_2 {x1 : Int32} {d2 : Value} {d3 : Value} {E : am_Ev} {I : Nat → Nat → Int32} {J : Nat → Nat → Int64} {S : Nat → Nat → Option Nat} {Q : am_Qt} (hd2 : am_isL d2 = false) (hd3 : am_isL d3 = false) (h : ((nI 64) ≤ x1 → (Q (.inl (some (.int (nI 0)))) E I J S)) ∧ (¬ (nI 64) ≤ x1 → (vp_in x1 64 ∧ (((lg_cmp ((J 10) x1.toNatClampNeg) (lN 0)) = 0 → (am_ww 95 2 [.ref 1, .int (x1 + nI 1), d2, d3] [] E I J S Q)) ∧ (¬ (lg_cmp ((J 10) x1.toNatClampNeg) (lN 0)) = 0 → (am_cl 92 [.ref 1, .int (x1 / (nI 16)), .long ((J 10) x1.toNatClampNeg)] E I J S (q_I fun v2 E2 I2 J2 S2 => (v2 = (-1) → (Q (.inl (some (.int (nI 3)))) E2 (u_I I2 1 (upd (I2 1) 3 ((I2 11) x1.toNatClampNeg))) J2 S2)) ∧ (¬ v2 = (-1) → (am_cl 91 [.int ((I2 4) x1.toNatClampNeg)] E2 I2 J2 S2 (q_R fun a E3 I3 J3 S3 => ∃ q4 : Nat, a = 2000000 + q4 ∧ q4 < 55 ∧ (am_cl 67 [.ref (2000000 + q4)] E3 I3 J3 S3 (q_I fun v5 E5 I5 J5 S5 => vp_in ((x1 * (nI 3)) + (v5 - (nI 1))) 192 ∧ (am_ww 95 2 [.ref 1, .int (x1 + nI 1), .int v2, .int (v5 - (nI 1))] [] E5 (u_I I5 5 (upd (I5 5) (((x1 * (nI 3)) + (v5 - (nI 1))).toNatClampNeg) v2)) J5 S5 Q))))))))))))) : am_ww 95 2 [.ref 1, .int x1, d2, d3] [] E I J S Q := by
  refine w_st (i' := 3) (ls' := [.ref 1, .int x1, d2, d3]) (st' := [.int x1]) (E' := E) (I' := I) (J' := J) (S' := S) am_e95 rfl rfl rfl rfl ?_
  refine w_st (i' := 4) (ls' := [.ref 1, .int x1, d2, d3]) (st' := [.int (nI 64), .int x1]) (E' := E) (I' := I) (J' := J) (S' := S) am_e95 rfl rfl rfl rfl ?_
  refine w_if2 am_e95 rfl rfl (fun c => ?_) (fun c => ?_)
  · replace h := h.1 (of_decide_eq_true c)
    refine w_st (i' := 56) (ls' := [.ref 1, .int x1, d2, d3]) (st' := [.int (nI 0)]) (E' := E) (I' := I) (J' := J) (S' := S) am_e95 rfl rfl rfl rfl ?_
    exact w_end am_e95 rfl rfl rfl h
  · replace h := h.2 (of_decide_eq_false c)
    refine w_st (i' := 6) (ls' := [.ref 1, .int x1, d2, d3]) (st' := [.ref 1]) (E' := E) (I' := I) (J' := J) (S' := S) am_e95 rfl rfl rfl rfl ?_
    refine w_st (i' := 7) (ls' := [.ref 1, .int x1, d2, d3]) (st' := [.ref 10]) (E' := E) (I' := I) (J' := J) (S' := S) am_e95 rfl rfl rfl rfl ?_
    refine w_st (i' := 8) (ls' := [.ref 1, .int x1, d2, d3]) (st' := [.int x1, .ref 10]) (E' := E) (I' := I) (J' := J) (S' := S) am_e95 rfl rfl rfl rfl ?_
    have hf1 := h.1
    replace h := h.2
    refine w_la (k := 10) (n := 64) (jn := x1.toNatClampNeg) am_e95 rfl rfl (by decide) hf1 rfl ?_
    refine w_st (i' := 10) (ls' := [.ref 1, .int x1, d2, d3]) (st' := [.long (lN 0), .long ((J 10) x1.toNatClampNeg)]) (E' := E) (I' := I) (J' := J) (S' := S) am_e95 rfl rfl rfl rfl ?_
    refine w_st (i' := 11) (ls' := [.ref 1, .int x1, d2, d3]) (st' := [.int (lg_cmp ((J 10) x1.toNatClampNeg) (lN 0))]) (E' := E) (I' := I) (J' := J) (S' := S) am_e95 rfl rfl rfl rfl ?_
    refine w_if1 am_e95 rfl rfl (fun c => ?_) (fun c => ?_)
    · replace h := h.1 (of_decide_eq_true c)
      refine w_st (i' := 54) (ls' := [.ref 1, .int (x1 + nI 1), d2, d3]) (st' := []) (E' := E) (I' := I) (J' := J) (S' := S) am_e95 rfl rfl rfl rfl ?_
      refine w_st (i' := 2) (ls' := [.ref 1, .int (x1 + nI 1), d2, d3]) (st' := []) (E' := E) (I' := I) (J' := J) (S' := S) am_e95 rfl rfl rfl rfl ?_
      exact h
    · replace h := h.2 (of_decide_eq_false c)
      refine w_st (i' := 13) (ls' := [.ref 1, .int x1, d2, d3]) (st' := [.ref 1]) (E' := E) (I' := I) (J' := J) (S' := S) am_e95 rfl rfl rfl rfl ?_
      refine w_st (i' := 14) (ls' := [.ref 1, .int x1, d2, d3]) (st' := [.int x1, .ref 1]) (E' := E) (I' := I) (J' := J) (S' := S) am_e95 rfl rfl rfl rfl ?_
      refine w_st (i' := 15) (ls' := [.ref 1, .int x1, d2, d3]) (st' := [.int (nI 16), .int x1, .ref 1]) (E' := E) (I' := I) (J' := J) (S' := S) am_e95 rfl rfl rfl rfl ?_
      refine w_dv (by decide) am_e95 rfl ?_
      refine w_st (i' := 17) (ls' := [.ref 1, .int x1, d2, d3]) (st' := [.ref 1, .int (x1 / (nI 16)), .ref 1]) (E' := E) (I' := I) (J' := J) (S' := S) am_e95 rfl rfl rfl rfl ?_
      refine w_st (i' := 18) (ls' := [.ref 1, .int x1, d2, d3]) (st' := [.ref 10, .int (x1 / (nI 16)), .ref 1]) (E' := E) (I' := I) (J' := J) (S' := S) am_e95 rfl rfl rfl rfl ?_
      refine w_st (i' := 19) (ls' := [.ref 1, .int x1, d2, d3]) (st' := [.int x1, .ref 10, .int (x1 / (nI 16)), .ref 1]) (E' := E) (I' := I) (J' := J) (S' := S) am_e95 rfl rfl rfl rfl ?_
      refine w_la (k := 10) (n := 64) (jn := x1.toNatClampNeg) am_e95 rfl rfl (by decide) hf1 rfl ?_
      refine w_cI am_e95 rfl rfl (as := [.ref 1, .int (x1 / (nI 16)), .long ((J 10) x1.toNatClampNeg)]) (rest := []) rfl rfl (am_ww.mono h ?_)
      rintro _ E2 I2 J2 S2 ⟨v2, rfl, h⟩
      refine q_mkI ?_
      refine w_st (i' := 22) (ls' := [.ref 1, .int x1, .int v2, d3]) (st' := []) (E' := E2) (I' := I2) (J' := J2) (S' := S2) am_e95 rfl rfl rfl rfl ?_
      refine w_st (i' := 23) (ls' := [.ref 1, .int x1, .int v2, d3]) (st' := [.int v2]) (E' := E2) (I' := I2) (J' := J2) (S' := S2) am_e95 rfl rfl rfl rfl ?_
      refine w_st (i' := 24) (ls' := [.ref 1, .int x1, .int v2, d3]) (st' := [.int (-1), .int v2]) (E' := E2) (I' := I2) (J' := J2) (S' := S2) am_e95 rfl rfl rfl rfl ?_
      refine w_if2 am_e95 rfl rfl (fun c => ?_) (fun c => ?_)
      · replace h := h.2 (of_decide_eq_true c)
        refine w_st (i' := 34) (ls' := [.ref 1, .int x1, .int v2, d3]) (st' := [.ref 1]) (E' := E2) (I' := I2) (J' := J2) (S' := S2) am_e95 rfl rfl rfl rfl ?_
        refine w_st (i' := 35) (ls' := [.ref 1, .int x1, .int v2, d3]) (st' := [.ref 3]) (E' := E2) (I' := I2) (J' := J2) (S' := S2) am_e95 rfl rfl rfl rfl ?_
        refine w_st (i' := 36) (ls' := [.ref 1, .int x1, .int v2, d3]) (st' := [.ref 4]) (E' := E2) (I' := I2) (J' := J2) (S' := S2) am_e95 rfl rfl rfl rfl ?_
        refine w_st (i' := 37) (ls' := [.ref 1, .int x1, .int v2, d3]) (st' := [.int x1, .ref 4]) (E' := E2) (I' := I2) (J' := J2) (S' := S2) am_e95 rfl rfl rfl rfl ?_
        refine w_ia (k := 4) (n := 64) (jn := x1.toNatClampNeg) am_e95 rfl rfl (by decide) hf1 rfl ?_
        refine w_cR am_e95 rfl rfl (as := [.int ((I2 4) x1.toNatClampNeg)]) (rest := []) rfl rfl (am_ww.mono h ?_)
        rintro _ E3 I3 J3 S3 ⟨_, rfl, q4, rfl, hsq4, h⟩
        refine q_mkR ?_
        refine w_cI am_e95 rfl rfl (as := [.ref (2000000 + q4)]) (rest := []) rfl (am_ckS hsq4 rfl) (am_ww.mono h ?_)
        rintro _ E5 I5 J5 S5 ⟨v5, rfl, h⟩
        refine q_mkI ?_
        refine w_st (i' := 41) (ls' := [.ref 1, .int x1, .int v2, d3]) (st' := [.int (nI 1), .int v5]) (E' := E5) (I' := I5) (J' := J5) (S' := S5) am_e95 rfl rfl rfl rfl ?_
        refine w_st (i' := 42) (ls' := [.ref 1, .int x1, .int v2, d3]) (st' := [.int (v5 - (nI 1))]) (E' := E5) (I' := I5) (J' := J5) (S' := S5) am_e95 rfl rfl rfl rfl ?_
        refine w_st (i' := 43) (ls' := [.ref 1, .int x1, .int v2, .int (v5 - (nI 1))]) (st' := []) (E' := E5) (I' := I5) (J' := J5) (S' := S5) am_e95 rfl rfl rfl rfl ?_
        refine w_st (i' := 44) (ls' := [.ref 1, .int x1, .int v2, .int (v5 - (nI 1))]) (st' := [.ref 1]) (E' := E5) (I' := I5) (J' := J5) (S' := S5) am_e95 rfl rfl rfl rfl ?_
        refine w_st (i' := 45) (ls' := [.ref 1, .int x1, .int v2, .int (v5 - (nI 1))]) (st' := [.ref 3]) (E' := E5) (I' := I5) (J' := J5) (S' := S5) am_e95 rfl rfl rfl rfl ?_
        refine w_st (i' := 46) (ls' := [.ref 1, .int x1, .int v2, .int (v5 - (nI 1))]) (st' := [.ref 5]) (E' := E5) (I' := I5) (J' := J5) (S' := S5) am_e95 rfl rfl rfl rfl ?_
        refine w_st (i' := 47) (ls' := [.ref 1, .int x1, .int v2, .int (v5 - (nI 1))]) (st' := [.int x1, .ref 5]) (E' := E5) (I' := I5) (J' := J5) (S' := S5) am_e95 rfl rfl rfl rfl ?_
        refine w_st (i' := 48) (ls' := [.ref 1, .int x1, .int v2, .int (v5 - (nI 1))]) (st' := [.int (nI 3), .int x1, .ref 5]) (E' := E5) (I' := I5) (J' := J5) (S' := S5) am_e95 rfl rfl rfl rfl ?_
        refine w_st (i' := 49) (ls' := [.ref 1, .int x1, .int v2, .int (v5 - (nI 1))]) (st' := [.int (x1 * (nI 3)), .ref 5]) (E' := E5) (I' := I5) (J' := J5) (S' := S5) am_e95 rfl rfl rfl rfl ?_
        refine w_st (i' := 50) (ls' := [.ref 1, .int x1, .int v2, .int (v5 - (nI 1))]) (st' := [.int (v5 - (nI 1)), .int (x1 * (nI 3)), .ref 5]) (E' := E5) (I' := I5) (J' := J5) (S' := S5) am_e95 rfl rfl rfl rfl ?_
        refine w_st (i' := 51) (ls' := [.ref 1, .int x1, .int v2, .int (v5 - (nI 1))]) (st' := [.int ((x1 * (nI 3)) + (v5 - (nI 1))), .ref 5]) (E' := E5) (I' := I5) (J' := J5) (S' := S5) am_e95 rfl rfl rfl rfl ?_
        refine w_st (i' := 52) (ls' := [.ref 1, .int x1, .int v2, .int (v5 - (nI 1))]) (st' := [.int v2, .int ((x1 * (nI 3)) + (v5 - (nI 1))), .ref 5]) (E' := E5) (I' := I5) (J' := J5) (S' := S5) am_e95 rfl rfl rfl rfl ?_
        have hf6 := h.1
        replace h := h.2
        refine w_is (k := 5) (n := 192) (jn := ((x1 * (nI 3)) + (v5 - (nI 1))).toNatClampNeg) am_e95 rfl rfl (by decide) hf6 rfl ?_
        show am_ww 95 53 [.ref 1, .int x1, .int v2, .int (v5 - (nI 1))] [] E5 (u_I I5 5 (upd (I5 5) (((x1 * (nI 3)) + (v5 - (nI 1))).toNatClampNeg) v2)) J5 S5 _
        refine w_st (i' := 54) (ls' := [.ref 1, .int (x1 + nI 1), .int v2, .int (v5 - (nI 1))]) (st' := []) (E' := E5) (I' := (u_I I5 5 (upd (I5 5) (((x1 * (nI 3)) + (v5 - (nI 1))).toNatClampNeg) v2))) (J' := J5) (S' := S5) am_e95 rfl rfl rfl rfl ?_
        refine w_st (i' := 2) (ls' := [.ref 1, .int (x1 + nI 1), .int v2, .int (v5 - (nI 1))]) (st' := []) (E' := E5) (I' := (u_I I5 5 (upd (I5 5) (((x1 * (nI 3)) + (v5 - (nI 1))).toNatClampNeg) v2))) (J' := J5) (S' := S5) am_e95 rfl rfl rfl rfl ?_
        exact h
      · replace h := h.1 (Decidable.not_not.mp (of_decide_eq_false c))
        refine w_st (i' := 26) (ls' := [.ref 1, .int x1, .int v2, d3]) (st' := [.ref 1]) (E' := E2) (I' := I2) (J' := J2) (S' := S2) am_e95 rfl rfl rfl rfl ?_
        refine w_st (i' := 27) (ls' := [.ref 1, .int x1, .int v2, d3]) (st' := [.ref 1, .ref 1]) (E' := E2) (I' := I2) (J' := J2) (S' := S2) am_e95 rfl rfl rfl rfl ?_
        refine w_st (i' := 28) (ls' := [.ref 1, .int x1, .int v2, d3]) (st' := [.ref 11, .ref 1]) (E' := E2) (I' := I2) (J' := J2) (S' := S2) am_e95 rfl rfl rfl rfl ?_
        refine w_st (i' := 29) (ls' := [.ref 1, .int x1, .int v2, d3]) (st' := [.int x1, .ref 11, .ref 1]) (E' := E2) (I' := I2) (J' := J2) (S' := S2) am_e95 rfl rfl rfl rfl ?_
        refine w_ia (k := 11) (n := 64) (jn := x1.toNatClampNeg) am_e95 rfl rfl (by decide) hf1 rfl ?_
        refine w_st (i' := 31) (ls' := [.ref 1, .int x1, .int v2, d3]) (st' := []) (E' := E2) (I' := (u_I I2 1 (upd (I2 1) 3 ((I2 11) x1.toNatClampNeg)))) (J' := J2) (S' := S2) am_e95 rfl rfl rfl rfl ?_
        refine w_st (i' := 32) (ls' := [.ref 1, .int x1, .int v2, d3]) (st' := [.int (nI 3)]) (E' := E2) (I' := (u_I I2 1 (upd (I2 1) 3 ((I2 11) x1.toNatClampNeg)))) (J' := J2) (S' := S2) am_e95 rfl rfl rfl rfl ?_
        exact w_end am_e95 rfl rfl rfl h
-- 60 readText
theorem g60_0 {p1 : Int32} {E : am_Ev} {I : Nat → Nat → Int32} {J : Nat → Nat → Int64} {S : Nat → Nat → Option Nat} {Q : am_Qt}  (h : am_cl 61 [.ref 1] E I J S (q_V fun E1 I1 J1 S1 => am_ww 60 4 [.ref 1, .int p1, .int (nI 0), am_U] [] E1 I1 J1 S1 Q)) : am_ww 60 0 [.ref 1, .int p1, am_U, am_U] [] E I J S Q := by
  refine w_st (i' := 1) (ls' := [.ref 1, .int p1, am_U, am_U]) (st' := [.ref 1]) (E' := E) (I' := I) (J' := J) (S' := S) am_e60 rfl rfl rfl rfl ?_
  refine w_cV am_e60 rfl rfl (as := [.ref 1]) (rest := []) rfl rfl (am_ww.mono h ?_)
  rintro _ E1 I1 J1 S1 ⟨rfl, h⟩
  refine q_mkV ?_
  refine w_st (i' := 3) (ls' := [.ref 1, .int p1, am_U, am_U]) (st' := [.int (nI 0)]) (E' := E1) (I' := I1) (J' := J1) (S' := S1) am_e60 rfl rfl rfl rfl ?_
  refine w_st (i' := 4) (ls' := [.ref 1, .int p1, .int (nI 0), am_U]) (st' := []) (E' := E1) (I' := I1) (J' := J1) (S' := S1) am_e60 rfl rfl rfl rfl ?_
  exact h
theorem g60_4 {x1 : Int32} {x2 : Int32} {d3 : Value} {E : am_Ev} {I : Nat → Nat → Int32} {J : Nat → Nat → Int64} {S : Nat → Nat → Option Nat} {Q : am_Qt} (hd3 : am_isL d3 = false) (h : (x1 < x2 → ((((I 1) 10) = 0 → (am_cl 95 [.ref 1] E I J S (q_I fun v1 E1 I1 J1 S1 => Q (.inl (some (.int v1))) E1 I1 J1 S1))) ∧ (¬ ((I 1) 10) = 0 → (Q (.inl (some (.int (nI 1)))) E (u_I I 1 (upd (I 1) 3 x1)) J S)))) ∧ (¬ x1 < x2 → (am_cl 63 [.ref 1, .int x1] E I J S (q_V fun E2 I2 J2 S2 => (((I2 1) 6) = 0 → ((((I2 1) 10) = 0 → (am_cl 95 [.ref 1] E2 I2 J2 S2 (q_I fun v4 E4 I4 J4 S4 => Q (.inl (some (.int v4))) E4 I4 J4 S4))) ∧ (¬ ((I2 1) 10) = 0 → (Q (.inl (some (.int (nI 1)))) E2 (u_I I2 1 (upd (I2 1) 3 x1)) J2 S2)))) ∧ (¬ ((I2 1) 6) = 0 → (am_cl 77 [.ref 1] E2 I2 J2 S2 (q_I fun v3 E3 I3 J3 S3 => (v3 = 0 → (am_ww 60 4 [.ref 1, .int x1, .int (x2 + nI 1), .int v3] [] E3 I3 J3 S3 Q)) ∧ (¬ v3 = 0 → (Q (.inl (some (.int v3))) E3 (u_I I3 1 (upd (I3 1) 3 ((I3 1) 4))) J3 S3))))))))) : am_ww 60 4 [.ref 1, .int x1, .int x2, d3] [] E I J S Q := by
  refine w_st (i' := 5) (ls' := [.ref 1, .int x1, .int x2, d3]) (st' := [.int x2]) (E' := E) (I' := I) (J' := J) (S' := S) am_e60 rfl rfl rfl rfl ?_
  refine w_st (i' := 6) (ls' := [.ref 1, .int x1, .int x2, d3]) (st' := [.int x1, .int x2]) (E' := E) (I' := I) (J' := J) (S' := S) am_e60 rfl rfl rfl rfl ?_
  refine w_if2 am_e60 rfl rfl (fun c => ?_) (fun c => ?_)
  · replace h := h.1 (of_decide_eq_true c)
    refine w_st (i' := 28) (ls' := [.ref 1, .int x1, .int x2, d3]) (st' := [.ref 1]) (E' := E) (I' := I) (J' := J) (S' := S) am_e60 rfl rfl rfl rfl ?_
    refine w_st (i' := 29) (ls' := [.ref 1, .int x1, .int x2, d3]) (st' := [.int ((I 1) 10)]) (E' := E) (I' := I) (J' := J) (S' := S) am_e60 rfl rfl rfl rfl ?_
    refine w_if1 am_e60 rfl rfl (fun c => ?_) (fun c => ?_)
    · replace h := h.1 (of_decide_eq_true c)
      refine w_st (i' := 36) (ls' := [.ref 1, .int x1, .int x2, d3]) (st' := [.ref 1]) (E' := E) (I' := I) (J' := J) (S' := S) am_e60 rfl rfl rfl rfl ?_
      refine w_cI am_e60 rfl rfl (as := [.ref 1]) (rest := []) rfl rfl (am_ww.mono h ?_)
      rintro _ E1 I1 J1 S1 ⟨v1, rfl, h⟩
      refine q_mkI ?_
      exact w_ri am_e60 rfl rfl h
    · replace h := h.2 (of_decide_eq_false c)
      refine w_st (i' := 31) (ls' := [.ref 1, .int x1, .int x2, d3]) (st' := [.ref 1]) (E' := E) (I' := I) (J' := J) (S' := S) am_e60 rfl rfl rfl rfl ?_
      refine w_st (i' := 32) (ls' := [.ref 1, .int x1, .int x2, d3]) (st' := [.int x1, .ref 1]) (E' := E) (I' := I) (J' := J) (S' := S) am_e60 rfl rfl rfl rfl ?_
      refine w_st (i' := 33) (ls' := [.ref 1, .int x1, .int x2, d3]) (st' := []) (E' := E) (I' := (u_I I 1 (upd (I 1) 3 x1))) (J' := J) (S' := S) am_e60 rfl rfl rfl rfl ?_
      refine w_st (i' := 34) (ls' := [.ref 1, .int x1, .int x2, d3]) (st' := [.int (nI 1)]) (E' := E) (I' := (u_I I 1 (upd (I 1) 3 x1))) (J' := J) (S' := S) am_e60 rfl rfl rfl rfl ?_
      exact w_end am_e60 rfl rfl rfl h
  · replace h := h.2 (of_decide_eq_false c)
    refine w_st (i' := 8) (ls' := [.ref 1, .int x1, .int x2, d3]) (st' := [.ref 1]) (E' := E) (I' := I) (J' := J) (S' := S) am_e60 rfl rfl rfl rfl ?_
    refine w_st (i' := 9) (ls' := [.ref 1, .int x1, .int x2, d3]) (st' := [.int x1, .ref 1]) (E' := E) (I' := I) (J' := J) (S' := S) am_e60 rfl rfl rfl rfl ?_
    refine w_cV am_e60 rfl rfl (as := [.ref 1, .int x1]) (rest := []) rfl rfl (am_ww.mono h ?_)
    rintro _ E2 I2 J2 S2 ⟨rfl, h⟩
    refine q_mkV ?_
    refine w_st (i' := 11) (ls' := [.ref 1, .int x1, .int x2, d3]) (st' := [.ref 1]) (E' := E2) (I' := I2) (J' := J2) (S' := S2) am_e60 rfl rfl rfl rfl ?_
    refine w_st (i' := 12) (ls' := [.ref 1, .int x1, .int x2, d3]) (st' := [.int ((I2 1) 6)]) (E' := E2) (I' := I2) (J' := J2) (S' := S2) am_e60 rfl rfl rfl rfl ?_
    refine w_if1 am_e60 rfl rfl (fun c => ?_) (fun c => ?_)
    · replace h := h.2 (of_decide_eq_true c)
      refine w_st (i' := 15) (ls' := [.ref 1, .int x1, .int x2, d3]) (st' := [.ref 1]) (E' := E2) (I' := I2) (J' := J2) (S' := S2) am_e60 rfl rfl rfl rfl ?_
      refine w_cI am_e60 rfl rfl (as := [.ref 1]) (rest := []) rfl rfl (am_ww.mono h ?_)
      rintro _ E3 I3 J3 S3 ⟨v3, rfl, h⟩
      refine q_mkI ?_
      refine w_st (i' := 17) (ls' := [.ref 1, .int x1, .int x2, .int v3]) (st' := []) (E' := E3) (I' := I3) (J' := J3) (S' := S3) am_e60 rfl rfl rfl rfl ?_
      refine w_st (i' := 18) (ls' := [.ref 1, .int x1, .int x2, .int v3]) (st' := [.int v3]) (E' := E3) (I' := I3) (J' := J3) (S' := S3) am_e60 rfl rfl rfl rfl ?_
      refine w_if1 am_e60 rfl rfl (fun c => ?_) (fun c => ?_)
      · replace h := h.1 (of_decide_eq_true c)
        refine w_st (i' := 26) (ls' := [.ref 1, .int x1, .int (x2 + nI 1), .int v3]) (st' := []) (E' := E3) (I' := I3) (J' := J3) (S' := S3) am_e60 rfl rfl rfl rfl ?_
        refine w_st (i' := 4) (ls' := [.ref 1, .int x1, .int (x2 + nI 1), .int v3]) (st' := []) (E' := E3) (I' := I3) (J' := J3) (S' := S3) am_e60 rfl rfl rfl rfl ?_
        exact h
      · replace h := h.2 (of_decide_eq_false c)
        refine w_st (i' := 20) (ls' := [.ref 1, .int x1, .int x2, .int v3]) (st' := [.ref 1]) (E' := E3) (I' := I3) (J' := J3) (S' := S3) am_e60 rfl rfl rfl rfl ?_
        refine w_st (i' := 21) (ls' := [.ref 1, .int x1, .int x2, .int v3]) (st' := [.ref 1, .ref 1]) (E' := E3) (I' := I3) (J' := J3) (S' := S3) am_e60 rfl rfl rfl rfl ?_
        refine w_st (i' := 22) (ls' := [.ref 1, .int x1, .int x2, .int v3]) (st' := [.int ((I3 1) 4), .ref 1]) (E' := E3) (I' := I3) (J' := J3) (S' := S3) am_e60 rfl rfl rfl rfl ?_
        refine w_st (i' := 23) (ls' := [.ref 1, .int x1, .int x2, .int v3]) (st' := []) (E' := E3) (I' := (u_I I3 1 (upd (I3 1) 3 ((I3 1) 4)))) (J' := J3) (S' := S3) am_e60 rfl rfl rfl rfl ?_
        refine w_st (i' := 24) (ls' := [.ref 1, .int x1, .int x2, .int v3]) (st' := [.int v3]) (E' := E3) (I' := (u_I I3 1 (upd (I3 1) 3 ((I3 1) 4)))) (J' := J3) (S' := S3) am_e60 rfl rfl rfl rfl ?_
        exact w_ri am_e60 rfl rfl h
    · replace h := h.1 (Decidable.not_not.mp (of_decide_eq_false c))
      refine w_st (i' := 27) (ls' := [.ref 1, .int x1, .int x2, d3]) (st' := []) (E' := E2) (I' := I2) (J' := J2) (S' := S2) am_e60 rfl rfl rfl rfl ?_
      refine w_st (i' := 28) (ls' := [.ref 1, .int x1, .int x2, d3]) (st' := [.ref 1]) (E' := E2) (I' := I2) (J' := J2) (S' := S2) am_e60 rfl rfl rfl rfl ?_
      refine w_st (i' := 29) (ls' := [.ref 1, .int x1, .int x2, d3]) (st' := [.int ((I2 1) 10)]) (E' := E2) (I' := I2) (J' := J2) (S' := S2) am_e60 rfl rfl rfl rfl ?_
      refine w_if1 am_e60 rfl rfl (fun c => ?_) (fun c => ?_)
      · replace h := h.1 (of_decide_eq_true c)
        refine w_st (i' := 36) (ls' := [.ref 1, .int x1, .int x2, d3]) (st' := [.ref 1]) (E' := E2) (I' := I2) (J' := J2) (S' := S2) am_e60 rfl rfl rfl rfl ?_
        refine w_cI am_e60 rfl rfl (as := [.ref 1]) (rest := []) rfl rfl (am_ww.mono h ?_)
        rintro _ E4 I4 J4 S4 ⟨v4, rfl, h⟩
        refine q_mkI ?_
        exact w_ri am_e60 rfl rfl h
      · replace h := h.2 (of_decide_eq_false c)
        refine w_st (i' := 31) (ls' := [.ref 1, .int x1, .int x2, d3]) (st' := [.ref 1]) (E' := E2) (I' := I2) (J' := J2) (S' := S2) am_e60 rfl rfl rfl rfl ?_
        refine w_st (i' := 32) (ls' := [.ref 1, .int x1, .int x2, d3]) (st' := [.int x1, .ref 1]) (E' := E2) (I' := I2) (J' := J2) (S' := S2) am_e60 rfl rfl rfl rfl ?_
        refine w_st (i' := 33) (ls' := [.ref 1, .int x1, .int x2, d3]) (st' := []) (E' := E2) (I' := (u_I I2 1 (upd (I2 1) 3 x1))) (J' := J2) (S' := S2) am_e60 rfl rfl rfl rfl ?_
        refine w_st (i' := 34) (ls' := [.ref 1, .int x1, .int x2, d3]) (st' := [.int (nI 1)]) (E' := E2) (I' := (u_I I2 1 (upd (I2 1) 3 x1))) (J' := J2) (S' := S2) am_e60 rfl rfl rfl rfl ?_
        exact w_end am_e60 rfl rfl rfl h
-- 96 copy
theorem g96_0  {E : am_Ev} {I : Nat → Nat → Int32} {J : Nat → Nat → Int64} {S : Nat → Nat → Option Nat} {Q : am_Qt}  (h : Q (.inl none) E (u_I (u_I (u_I (u_I (u_I (u_I I 13 (va_cpy (I 4) (I 13) 0 0 64)) 14 (va_cpy (I 5) (I 14) 0 0 192)) 15 (va_cpy (I 6) (I 15) 0 0 4)) 16 (va_cpy (I 7) (I 16) 0 0 16)) 17 (va_cpy (I 8) (I 17) 0 0 4)) 12 (upd (I 12) 5 ((I 3) 5))) J S) : am_ww 96 0 [.ref 12, .ref 3] [] E I J S Q := by
  refine w_st (i' := 1) (ls' := [.ref 12, .ref 3]) (st' := [.ref 3]) (E' := E) (I' := I) (J' := J) (S' := S) am_e96 rfl rfl rfl rfl ?_
  refine w_st (i' := 2) (ls' := [.ref 12, .ref 3]) (st' := [.ref 4]) (E' := E) (I' := I) (J' := J) (S' := S) am_e96 rfl rfl rfl rfl ?_
  refine w_st (i' := 3) (ls' := [.ref 12, .ref 3]) (st' := [.int (nI 0), .ref 4]) (E' := E) (I' := I) (J' := J) (S' := S) am_e96 rfl rfl rfl rfl ?_
  refine w_st (i' := 4) (ls' := [.ref 12, .ref 3]) (st' := [.ref 12, .int (nI 0), .ref 4]) (E' := E) (I' := I) (J' := J) (S' := S) am_e96 rfl rfl rfl rfl ?_
  refine w_st (i' := 5) (ls' := [.ref 12, .ref 3]) (st' := [.ref 13, .int (nI 0), .ref 4]) (E' := E) (I' := I) (J' := J) (S' := S) am_e96 rfl rfl rfl rfl ?_
  refine w_st (i' := 6) (ls' := [.ref 12, .ref 3]) (st' := [.int (nI 0), .ref 13, .int (nI 0), .ref 4]) (E' := E) (I' := I) (J' := J) (S' := S) am_e96 rfl rfl rfl rfl ?_
  refine w_st (i' := 7) (ls' := [.ref 12, .ref 3]) (st' := [.ref 12, .int (nI 0), .ref 13, .int (nI 0), .ref 4]) (E' := E) (I' := I) (J' := J) (S' := S) am_e96 rfl rfl rfl rfl ?_
  refine w_st (i' := 8) (ls' := [.ref 12, .ref 3]) (st' := [.ref 13, .int (nI 0), .ref 13, .int (nI 0), .ref 4]) (E' := E) (I' := I) (J' := J) (S' := S) am_e96 rfl rfl rfl rfl ?_
  refine w_st (i' := 9) (ls' := [.ref 12, .ref 3]) (st' := [.int (nI 64), .int (nI 0), .ref 13, .int (nI 0), .ref 4]) (E' := E) (I' := I) (J' := J) (S' := S) am_e96 rfl rfl rfl rfl ?_
  refine w_cp (k := 4) (a := 13) (nk := 64) (na := 64) am_e96 rfl (by decide) (by decide) rfl rfl (by decide) (by unfold am_cpOk; decide) ?_
  show am_ww 96 10 [.ref 12, .ref 3] [] E (u_I I 13 (va_cpy (I 4) (I 13) 0 0 64)) J S _
  refine w_st (i' := 11) (ls' := [.ref 12, .ref 3]) (st' := [.ref 3]) (E' := E) (I' := (u_I I 13 (va_cpy (I 4) (I 13) 0 0 64))) (J' := J) (S' := S) am_e96 rfl rfl rfl rfl ?_
  refine w_st (i' := 12) (ls' := [.ref 12, .ref 3]) (st' := [.ref 5]) (E' := E) (I' := (u_I I 13 (va_cpy (I 4) (I 13) 0 0 64))) (J' := J) (S' := S) am_e96 rfl rfl rfl rfl ?_
  refine w_st (i' := 13) (ls' := [.ref 12, .ref 3]) (st' := [.int (nI 0), .ref 5]) (E' := E) (I' := (u_I I 13 (va_cpy (I 4) (I 13) 0 0 64))) (J' := J) (S' := S) am_e96 rfl rfl rfl rfl ?_
  refine w_st (i' := 14) (ls' := [.ref 12, .ref 3]) (st' := [.ref 12, .int (nI 0), .ref 5]) (E' := E) (I' := (u_I I 13 (va_cpy (I 4) (I 13) 0 0 64))) (J' := J) (S' := S) am_e96 rfl rfl rfl rfl ?_
  refine w_st (i' := 15) (ls' := [.ref 12, .ref 3]) (st' := [.ref 14, .int (nI 0), .ref 5]) (E' := E) (I' := (u_I I 13 (va_cpy (I 4) (I 13) 0 0 64))) (J' := J) (S' := S) am_e96 rfl rfl rfl rfl ?_
  refine w_st (i' := 16) (ls' := [.ref 12, .ref 3]) (st' := [.int (nI 0), .ref 14, .int (nI 0), .ref 5]) (E' := E) (I' := (u_I I 13 (va_cpy (I 4) (I 13) 0 0 64))) (J' := J) (S' := S) am_e96 rfl rfl rfl rfl ?_
  refine w_st (i' := 17) (ls' := [.ref 12, .ref 3]) (st' := [.ref 12, .int (nI 0), .ref 14, .int (nI 0), .ref 5]) (E' := E) (I' := (u_I I 13 (va_cpy (I 4) (I 13) 0 0 64))) (J' := J) (S' := S) am_e96 rfl rfl rfl rfl ?_
  refine w_st (i' := 18) (ls' := [.ref 12, .ref 3]) (st' := [.ref 14, .int (nI 0), .ref 14, .int (nI 0), .ref 5]) (E' := E) (I' := (u_I I 13 (va_cpy (I 4) (I 13) 0 0 64))) (J' := J) (S' := S) am_e96 rfl rfl rfl rfl ?_
  refine w_st (i' := 19) (ls' := [.ref 12, .ref 3]) (st' := [.int (nI 192), .int (nI 0), .ref 14, .int (nI 0), .ref 5]) (E' := E) (I' := (u_I I 13 (va_cpy (I 4) (I 13) 0 0 64))) (J' := J) (S' := S) am_e96 rfl rfl rfl rfl ?_
  refine w_cp (k := 5) (a := 14) (nk := 192) (na := 192) am_e96 rfl (by decide) (by decide) rfl rfl (by decide) (by unfold am_cpOk; decide) ?_
  show am_ww 96 20 [.ref 12, .ref 3] [] E (u_I (u_I I 13 (va_cpy (I 4) (I 13) 0 0 64)) 14 (va_cpy (I 5) (I 14) 0 0 192)) J S _
  refine w_st (i' := 21) (ls' := [.ref 12, .ref 3]) (st' := [.ref 3]) (E' := E) (I' := (u_I (u_I I 13 (va_cpy (I 4) (I 13) 0 0 64)) 14 (va_cpy (I 5) (I 14) 0 0 192))) (J' := J) (S' := S) am_e96 rfl rfl rfl rfl ?_
  refine w_st (i' := 22) (ls' := [.ref 12, .ref 3]) (st' := [.ref 6]) (E' := E) (I' := (u_I (u_I I 13 (va_cpy (I 4) (I 13) 0 0 64)) 14 (va_cpy (I 5) (I 14) 0 0 192))) (J' := J) (S' := S) am_e96 rfl rfl rfl rfl ?_
  refine w_st (i' := 23) (ls' := [.ref 12, .ref 3]) (st' := [.int (nI 0), .ref 6]) (E' := E) (I' := (u_I (u_I I 13 (va_cpy (I 4) (I 13) 0 0 64)) 14 (va_cpy (I 5) (I 14) 0 0 192))) (J' := J) (S' := S) am_e96 rfl rfl rfl rfl ?_
  refine w_st (i' := 24) (ls' := [.ref 12, .ref 3]) (st' := [.ref 12, .int (nI 0), .ref 6]) (E' := E) (I' := (u_I (u_I I 13 (va_cpy (I 4) (I 13) 0 0 64)) 14 (va_cpy (I 5) (I 14) 0 0 192))) (J' := J) (S' := S) am_e96 rfl rfl rfl rfl ?_
  refine w_st (i' := 25) (ls' := [.ref 12, .ref 3]) (st' := [.ref 15, .int (nI 0), .ref 6]) (E' := E) (I' := (u_I (u_I I 13 (va_cpy (I 4) (I 13) 0 0 64)) 14 (va_cpy (I 5) (I 14) 0 0 192))) (J' := J) (S' := S) am_e96 rfl rfl rfl rfl ?_
  refine w_st (i' := 26) (ls' := [.ref 12, .ref 3]) (st' := [.int (nI 0), .ref 15, .int (nI 0), .ref 6]) (E' := E) (I' := (u_I (u_I I 13 (va_cpy (I 4) (I 13) 0 0 64)) 14 (va_cpy (I 5) (I 14) 0 0 192))) (J' := J) (S' := S) am_e96 rfl rfl rfl rfl ?_
  refine w_st (i' := 27) (ls' := [.ref 12, .ref 3]) (st' := [.ref 12, .int (nI 0), .ref 15, .int (nI 0), .ref 6]) (E' := E) (I' := (u_I (u_I I 13 (va_cpy (I 4) (I 13) 0 0 64)) 14 (va_cpy (I 5) (I 14) 0 0 192))) (J' := J) (S' := S) am_e96 rfl rfl rfl rfl ?_
  refine w_st (i' := 28) (ls' := [.ref 12, .ref 3]) (st' := [.ref 15, .int (nI 0), .ref 15, .int (nI 0), .ref 6]) (E' := E) (I' := (u_I (u_I I 13 (va_cpy (I 4) (I 13) 0 0 64)) 14 (va_cpy (I 5) (I 14) 0 0 192))) (J' := J) (S' := S) am_e96 rfl rfl rfl rfl ?_
  refine w_st (i' := 29) (ls' := [.ref 12, .ref 3]) (st' := [.int (nI 4), .int (nI 0), .ref 15, .int (nI 0), .ref 6]) (E' := E) (I' := (u_I (u_I I 13 (va_cpy (I 4) (I 13) 0 0 64)) 14 (va_cpy (I 5) (I 14) 0 0 192))) (J' := J) (S' := S) am_e96 rfl rfl rfl rfl ?_
  refine w_cp (k := 6) (a := 15) (nk := 4) (na := 4) am_e96 rfl (by decide) (by decide) rfl rfl (by decide) (by unfold am_cpOk; decide) ?_
  show am_ww 96 30 [.ref 12, .ref 3] [] E (u_I (u_I (u_I I 13 (va_cpy (I 4) (I 13) 0 0 64)) 14 (va_cpy (I 5) (I 14) 0 0 192)) 15 (va_cpy (I 6) (I 15) 0 0 4)) J S _
  refine w_st (i' := 31) (ls' := [.ref 12, .ref 3]) (st' := [.ref 3]) (E' := E) (I' := (u_I (u_I (u_I I 13 (va_cpy (I 4) (I 13) 0 0 64)) 14 (va_cpy (I 5) (I 14) 0 0 192)) 15 (va_cpy (I 6) (I 15) 0 0 4))) (J' := J) (S' := S) am_e96 rfl rfl rfl rfl ?_
  refine w_st (i' := 32) (ls' := [.ref 12, .ref 3]) (st' := [.ref 7]) (E' := E) (I' := (u_I (u_I (u_I I 13 (va_cpy (I 4) (I 13) 0 0 64)) 14 (va_cpy (I 5) (I 14) 0 0 192)) 15 (va_cpy (I 6) (I 15) 0 0 4))) (J' := J) (S' := S) am_e96 rfl rfl rfl rfl ?_
  refine w_st (i' := 33) (ls' := [.ref 12, .ref 3]) (st' := [.int (nI 0), .ref 7]) (E' := E) (I' := (u_I (u_I (u_I I 13 (va_cpy (I 4) (I 13) 0 0 64)) 14 (va_cpy (I 5) (I 14) 0 0 192)) 15 (va_cpy (I 6) (I 15) 0 0 4))) (J' := J) (S' := S) am_e96 rfl rfl rfl rfl ?_
  refine w_st (i' := 34) (ls' := [.ref 12, .ref 3]) (st' := [.ref 12, .int (nI 0), .ref 7]) (E' := E) (I' := (u_I (u_I (u_I I 13 (va_cpy (I 4) (I 13) 0 0 64)) 14 (va_cpy (I 5) (I 14) 0 0 192)) 15 (va_cpy (I 6) (I 15) 0 0 4))) (J' := J) (S' := S) am_e96 rfl rfl rfl rfl ?_
  refine w_st (i' := 35) (ls' := [.ref 12, .ref 3]) (st' := [.ref 16, .int (nI 0), .ref 7]) (E' := E) (I' := (u_I (u_I (u_I I 13 (va_cpy (I 4) (I 13) 0 0 64)) 14 (va_cpy (I 5) (I 14) 0 0 192)) 15 (va_cpy (I 6) (I 15) 0 0 4))) (J' := J) (S' := S) am_e96 rfl rfl rfl rfl ?_
  refine w_st (i' := 36) (ls' := [.ref 12, .ref 3]) (st' := [.int (nI 0), .ref 16, .int (nI 0), .ref 7]) (E' := E) (I' := (u_I (u_I (u_I I 13 (va_cpy (I 4) (I 13) 0 0 64)) 14 (va_cpy (I 5) (I 14) 0 0 192)) 15 (va_cpy (I 6) (I 15) 0 0 4))) (J' := J) (S' := S) am_e96 rfl rfl rfl rfl ?_
  refine w_st (i' := 37) (ls' := [.ref 12, .ref 3]) (st' := [.ref 12, .int (nI 0), .ref 16, .int (nI 0), .ref 7]) (E' := E) (I' := (u_I (u_I (u_I I 13 (va_cpy (I 4) (I 13) 0 0 64)) 14 (va_cpy (I 5) (I 14) 0 0 192)) 15 (va_cpy (I 6) (I 15) 0 0 4))) (J' := J) (S' := S) am_e96 rfl rfl rfl rfl ?_
  refine w_st (i' := 38) (ls' := [.ref 12, .ref 3]) (st' := [.ref 16, .int (nI 0), .ref 16, .int (nI 0), .ref 7]) (E' := E) (I' := (u_I (u_I (u_I I 13 (va_cpy (I 4) (I 13) 0 0 64)) 14 (va_cpy (I 5) (I 14) 0 0 192)) 15 (va_cpy (I 6) (I 15) 0 0 4))) (J' := J) (S' := S) am_e96 rfl rfl rfl rfl ?_
  refine w_st (i' := 39) (ls' := [.ref 12, .ref 3]) (st' := [.int (nI 16), .int (nI 0), .ref 16, .int (nI 0), .ref 7]) (E' := E) (I' := (u_I (u_I (u_I I 13 (va_cpy (I 4) (I 13) 0 0 64)) 14 (va_cpy (I 5) (I 14) 0 0 192)) 15 (va_cpy (I 6) (I 15) 0 0 4))) (J' := J) (S' := S) am_e96 rfl rfl rfl rfl ?_
  refine w_cp (k := 7) (a := 16) (nk := 16) (na := 16) am_e96 rfl (by decide) (by decide) rfl rfl (by decide) (by unfold am_cpOk; decide) ?_
  show am_ww 96 40 [.ref 12, .ref 3] [] E (u_I (u_I (u_I (u_I I 13 (va_cpy (I 4) (I 13) 0 0 64)) 14 (va_cpy (I 5) (I 14) 0 0 192)) 15 (va_cpy (I 6) (I 15) 0 0 4)) 16 (va_cpy (I 7) (I 16) 0 0 16)) J S _
  refine w_st (i' := 41) (ls' := [.ref 12, .ref 3]) (st' := [.ref 3]) (E' := E) (I' := (u_I (u_I (u_I (u_I I 13 (va_cpy (I 4) (I 13) 0 0 64)) 14 (va_cpy (I 5) (I 14) 0 0 192)) 15 (va_cpy (I 6) (I 15) 0 0 4)) 16 (va_cpy (I 7) (I 16) 0 0 16))) (J' := J) (S' := S) am_e96 rfl rfl rfl rfl ?_
  refine w_st (i' := 42) (ls' := [.ref 12, .ref 3]) (st' := [.ref 8]) (E' := E) (I' := (u_I (u_I (u_I (u_I I 13 (va_cpy (I 4) (I 13) 0 0 64)) 14 (va_cpy (I 5) (I 14) 0 0 192)) 15 (va_cpy (I 6) (I 15) 0 0 4)) 16 (va_cpy (I 7) (I 16) 0 0 16))) (J' := J) (S' := S) am_e96 rfl rfl rfl rfl ?_
  refine w_st (i' := 43) (ls' := [.ref 12, .ref 3]) (st' := [.int (nI 0), .ref 8]) (E' := E) (I' := (u_I (u_I (u_I (u_I I 13 (va_cpy (I 4) (I 13) 0 0 64)) 14 (va_cpy (I 5) (I 14) 0 0 192)) 15 (va_cpy (I 6) (I 15) 0 0 4)) 16 (va_cpy (I 7) (I 16) 0 0 16))) (J' := J) (S' := S) am_e96 rfl rfl rfl rfl ?_
  refine w_st (i' := 44) (ls' := [.ref 12, .ref 3]) (st' := [.ref 12, .int (nI 0), .ref 8]) (E' := E) (I' := (u_I (u_I (u_I (u_I I 13 (va_cpy (I 4) (I 13) 0 0 64)) 14 (va_cpy (I 5) (I 14) 0 0 192)) 15 (va_cpy (I 6) (I 15) 0 0 4)) 16 (va_cpy (I 7) (I 16) 0 0 16))) (J' := J) (S' := S) am_e96 rfl rfl rfl rfl ?_
  refine w_st (i' := 45) (ls' := [.ref 12, .ref 3]) (st' := [.ref 17, .int (nI 0), .ref 8]) (E' := E) (I' := (u_I (u_I (u_I (u_I I 13 (va_cpy (I 4) (I 13) 0 0 64)) 14 (va_cpy (I 5) (I 14) 0 0 192)) 15 (va_cpy (I 6) (I 15) 0 0 4)) 16 (va_cpy (I 7) (I 16) 0 0 16))) (J' := J) (S' := S) am_e96 rfl rfl rfl rfl ?_
  refine w_st (i' := 46) (ls' := [.ref 12, .ref 3]) (st' := [.int (nI 0), .ref 17, .int (nI 0), .ref 8]) (E' := E) (I' := (u_I (u_I (u_I (u_I I 13 (va_cpy (I 4) (I 13) 0 0 64)) 14 (va_cpy (I 5) (I 14) 0 0 192)) 15 (va_cpy (I 6) (I 15) 0 0 4)) 16 (va_cpy (I 7) (I 16) 0 0 16))) (J' := J) (S' := S) am_e96 rfl rfl rfl rfl ?_
  refine w_st (i' := 47) (ls' := [.ref 12, .ref 3]) (st' := [.ref 12, .int (nI 0), .ref 17, .int (nI 0), .ref 8]) (E' := E) (I' := (u_I (u_I (u_I (u_I I 13 (va_cpy (I 4) (I 13) 0 0 64)) 14 (va_cpy (I 5) (I 14) 0 0 192)) 15 (va_cpy (I 6) (I 15) 0 0 4)) 16 (va_cpy (I 7) (I 16) 0 0 16))) (J' := J) (S' := S) am_e96 rfl rfl rfl rfl ?_
  refine w_st (i' := 48) (ls' := [.ref 12, .ref 3]) (st' := [.ref 17, .int (nI 0), .ref 17, .int (nI 0), .ref 8]) (E' := E) (I' := (u_I (u_I (u_I (u_I I 13 (va_cpy (I 4) (I 13) 0 0 64)) 14 (va_cpy (I 5) (I 14) 0 0 192)) 15 (va_cpy (I 6) (I 15) 0 0 4)) 16 (va_cpy (I 7) (I 16) 0 0 16))) (J' := J) (S' := S) am_e96 rfl rfl rfl rfl ?_
  refine w_st (i' := 49) (ls' := [.ref 12, .ref 3]) (st' := [.int (nI 4), .int (nI 0), .ref 17, .int (nI 0), .ref 8]) (E' := E) (I' := (u_I (u_I (u_I (u_I I 13 (va_cpy (I 4) (I 13) 0 0 64)) 14 (va_cpy (I 5) (I 14) 0 0 192)) 15 (va_cpy (I 6) (I 15) 0 0 4)) 16 (va_cpy (I 7) (I 16) 0 0 16))) (J' := J) (S' := S) am_e96 rfl rfl rfl rfl ?_
  refine w_cp (k := 8) (a := 17) (nk := 4) (na := 4) am_e96 rfl (by decide) (by decide) rfl rfl (by decide) (by unfold am_cpOk; decide) ?_
  show am_ww 96 50 [.ref 12, .ref 3] [] E (u_I (u_I (u_I (u_I (u_I I 13 (va_cpy (I 4) (I 13) 0 0 64)) 14 (va_cpy (I 5) (I 14) 0 0 192)) 15 (va_cpy (I 6) (I 15) 0 0 4)) 16 (va_cpy (I 7) (I 16) 0 0 16)) 17 (va_cpy (I 8) (I 17) 0 0 4)) J S _
  refine w_st (i' := 51) (ls' := [.ref 12, .ref 3]) (st' := [.ref 12]) (E' := E) (I' := (u_I (u_I (u_I (u_I (u_I I 13 (va_cpy (I 4) (I 13) 0 0 64)) 14 (va_cpy (I 5) (I 14) 0 0 192)) 15 (va_cpy (I 6) (I 15) 0 0 4)) 16 (va_cpy (I 7) (I 16) 0 0 16)) 17 (va_cpy (I 8) (I 17) 0 0 4))) (J' := J) (S' := S) am_e96 rfl rfl rfl rfl ?_
  refine w_st (i' := 52) (ls' := [.ref 12, .ref 3]) (st' := [.ref 3, .ref 12]) (E' := E) (I' := (u_I (u_I (u_I (u_I (u_I I 13 (va_cpy (I 4) (I 13) 0 0 64)) 14 (va_cpy (I 5) (I 14) 0 0 192)) 15 (va_cpy (I 6) (I 15) 0 0 4)) 16 (va_cpy (I 7) (I 16) 0 0 16)) 17 (va_cpy (I 8) (I 17) 0 0 4))) (J' := J) (S' := S) am_e96 rfl rfl rfl rfl ?_
  refine w_st (i' := 53) (ls' := [.ref 12, .ref 3]) (st' := [.int ((I 3) 5), .ref 12]) (E' := E) (I' := (u_I (u_I (u_I (u_I (u_I I 13 (va_cpy (I 4) (I 13) 0 0 64)) 14 (va_cpy (I 5) (I 14) 0 0 192)) 15 (va_cpy (I 6) (I 15) 0 0 4)) 16 (va_cpy (I 7) (I 16) 0 0 16)) 17 (va_cpy (I 8) (I 17) 0 0 4))) (J' := J) (S' := S) am_e96 rfl rfl rfl rfl ?_
  refine w_st (i' := 54) (ls' := [.ref 12, .ref 3]) (st' := []) (E' := E) (I' := (u_I (u_I (u_I (u_I (u_I (u_I I 13 (va_cpy (I 4) (I 13) 0 0 64)) 14 (va_cpy (I 5) (I 14) 0 0 192)) 15 (va_cpy (I 6) (I 15) 0 0 4)) 16 (va_cpy (I 7) (I 16) 0 0 16)) 17 (va_cpy (I 8) (I 17) 0 0 4)) 12 (upd (I 12) 5 ((I 3) 5)))) (J' := J) (S' := S) am_e96 rfl rfl rfl rfl ?_
  exact w_end am_e96 rfl rfl rfl h
