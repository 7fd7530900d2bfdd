/-! rows of methods, by program -/
-- 12 clear
theorem g12_0_3  {E : am_Ev} {I : Nat → Nat → Int32} {J : Nat → Nat → Int64} {S : Nat → Nat → Option Nat} {Q : am_Qt}  (h : am_cl 13 [.ref 4, .int (-1)] E I J S (q_V fun E1 I1 J1 S1 => am_cl 13 [.ref 5, .int (nI 0)] E1 I1 J1 S1 (q_V fun E2 I2 J2 S2 => am_cl 13 [.ref 6, .int (nI 0)] E2 I2 J2 S2 (q_V fun E3 I3 J3 S3 => am_cl 13 [.ref 7, .int (nI 0)] E3 I3 J3 S3 (q_V fun E4 I4 J4 S4 => Q (.inl none) E4 (u_I (u_I I4 3 (upd (I4 3) 5 (nI 0))) 8 (upd (upd (upd (upd (I4 8) 0 (nI 3)) 1 (nI 1)) 2 (nI 10)) 3 (nI 4))) J4 S4))))) : am_ww 12 0 [.ref 3] [] E I J S Q := by
  refine w_st (i' := 1) (ls' := [.ref 3]) (st' := [.ref 3]) (E' := E) (I' := I) (J' := J) (S' := S) am_e12 rfl rfl rfl rfl ?_
  refine w_st (i' := 2) (ls' := [.ref 3]) (st' := [.ref 4]) (E' := E) (I' := I) (J' := J) (S' := S) am_e12 rfl rfl rfl rfl ?_
  refine w_st (i' := 3) (ls' := [.ref 3]) (st' := [.int (-1), .ref 4]) (E' := E) (I' := I) (J' := J) (S' := S) am_e12 rfl rfl rfl rfl ?_
  refine w_cV am_e12 rfl rfl (as := [.ref 4, .int (-1)]) (rest := []) rfl rfl (am_ww.mono h ?_)
  rintro _ E1 I1 J1 S1 ⟨rfl, h⟩
  refine q_mkV ?_
  refine w_st (i' := 5) (ls' := [.ref 3]) (st' := [.ref 3]) (E' := E1) (I' := I1) (J' := J1) (S' := S1) am_e12 rfl rfl rfl rfl ?_
  refine w_st (i' := 6) (ls' := [.ref 3]) (st' := [.ref 5]) (E' := E1) (I' := I1) (J' := J1) (S' := S1) am_e12 rfl rfl rfl rfl ?_
  refine w_st (i' := 7) (ls' := [.ref 3]) (st' := [.int (nI 0), .ref 5]) (E' := E1) (I' := I1) (J' := J1) (S' := S1) am_e12 rfl rfl rfl rfl ?_
  refine w_cV am_e12 rfl rfl (as := [.ref 5, .int (nI 0)]) (rest := []) rfl rfl (am_ww.mono h ?_)
  rintro _ E2 I2 J2 S2 ⟨rfl, h⟩
  refine q_mkV ?_
  refine w_st (i' := 9) (ls' := [.ref 3]) (st' := [.ref 3]) (E' := E2) (I' := I2) (J' := J2) (S' := S2) am_e12 rfl rfl rfl rfl ?_
  refine w_st (i' := 10) (ls' := [.ref 3]) (st' := [.ref 6]) (E' := E2) (I' := I2) (J' := J2) (S' := S2) am_e12 rfl rfl rfl rfl ?_
  refine w_st (i' := 11) (ls' := [.ref 3]) (st' := [.int (nI 0), .ref 6]) (E' := E2) (I' := I2) (J' := J2) (S' := S2) am_e12 rfl rfl rfl rfl ?_
  refine w_cV am_e12 rfl rfl (as := [.ref 6, .int (nI 0)]) (rest := []) rfl rfl (am_ww.mono h ?_)
  rintro _ E3 I3 J3 S3 ⟨rfl, h⟩
  refine q_mkV ?_
  refine w_st (i' := 13) (ls' := [.ref 3]) (st' := [.ref 3]) (E' := E3) (I' := I3) (J' := J3) (S' := S3) am_e12 rfl rfl rfl rfl ?_
  refine w_st (i' := 14) (ls' := [.ref 3]) (st' := [.ref 7]) (E' := E3) (I' := I3) (J' := J3) (S' := S3) am_e12 rfl rfl rfl rfl ?_
  refine w_st (i' := 15) (ls' := [.ref 3]) (st' := [.int (nI 0), .ref 7]) (E' := E3) (I' := I3) (J' := J3) (S' := S3) am_e12 rfl rfl rfl rfl ?_
  refine w_cV am_e12 rfl rfl (as := [.ref 7, .int (nI 0)]) (rest := []) rfl rfl (am_ww.mono h ?_)
  rintro _ E4 I4 J4 S4 ⟨rfl, h⟩
  refine q_mkV ?_
  refine w_st (i' := 17) (ls' := [.ref 3]) (st' := [.ref 3]) (E' := E4) (I' := I4) (J' := J4) (S' := S4) am_e12 rfl rfl rfl rfl ?_
  refine w_st (i' := 18) (ls' := [.ref 3]) (st' := [.int (nI 0), .ref 3]) (E' := E4) (I' := I4) (J' := J4) (S' := S4) am_e12 rfl rfl rfl rfl ?_
  refine w_st (i' := 19) (ls' := [.ref 3]) (st' := []) (E' := E4) (I' := (u_I I4 3 (upd (I4 3) 5 (nI 0)))) (J' := J4) (S' := S4) am_e12 rfl rfl rfl rfl ?_
  refine w_st (i' := 20) (ls' := [.ref 3]) (st' := [.ref 3]) (E' := E4) (I' := (u_I I4 3 (upd (I4 3) 5 (nI 0)))) (J' := J4) (S' := S4) am_e12 rfl rfl rfl rfl ?_
  refine w_st (i' := 21) (ls' := [.ref 3]) (st' := [.ref 8]) (E' := E4) (I' := (u_I I4 3 (upd (I4 3) 5 (nI 0)))) (J' := J4) (S' := S4) am_e12 rfl rfl rfl rfl ?_
  refine w_st (i' := 22) (ls' := [.ref 3]) (st' := [.int (nI 0), .ref 8]) (E' := E4) (I' := (u_I I4 3 (upd (I4 3) 5 (nI 0)))) (J' := J4) (S' := S4) am_e12 rfl rfl rfl rfl ?_
  refine w_st (i' := 23) (ls' := [.ref 3]) (st' := [.int (nI 3), .int (nI 0), .ref 8]) (E' := E4) (I' := (u_I I4 3 (upd (I4 3) 5 (nI 0)))) (J' := J4) (S' := S4) am_e12 rfl rfl rfl rfl ?_
  refine w_is (k := 8) (n := 4) (jn := 0) am_e12 rfl rfl (by decide) (vp_in_nI (by decide) (by decide)) rfl ?_
  show am_ww 12 24 [.ref 3] [] E4 (u_I (u_I I4 3 (upd (I4 3) 5 (nI 0))) 8 (upd (I4 8) 0 (nI 3))) J4 S4 _
  refine w_st (i' := 25) (ls' := [.ref 3]) (st' := [.ref 3]) (E' := E4) (I' := (u_I (u_I I4 3 (upd (I4 3) 5 (nI 0))) 8 (upd (I4 8) 0 (nI 3)))) (J' := J4) (S' := S4) am_e12 rfl rfl rfl rfl ?_
  refine w_st (i' := 26) (ls' := [.ref 3]) (st' := [.ref 8]) (E' := E4) (I' := (u_I (u_I I4 3 (upd (I4 3) 5 (nI 0))) 8 (upd (I4 8) 0 (nI 3)))) (J' := J4) (S' := S4) am_e12 rfl rfl rfl rfl ?_
  refine w_st (i' := 27) (ls' := [.ref 3]) (st' := [.int (nI 1), .ref 8]) (E' := E4) (I' := (u_I (u_I I4 3 (upd (I4 3) 5 (nI 0))) 8 (upd (I4 8) 0 (nI 3)))) (J' := J4) (S' := S4) am_e12 rfl rfl rfl rfl ?_
  refine w_st (i' := 28) (ls' := [.ref 3]) (st' := [.int (nI 1), .int (nI 1), .ref 8]) (E' := E4) (I' := (u_I (u_I I4 3 (upd (I4 3) 5 (nI 0))) 8 (upd (I4 8) 0 (nI 3)))) (J' := J4) (S' := S4) am_e12 rfl rfl rfl rfl ?_
  refine w_is (k := 8) (n := 4) (jn := 1) am_e12 rfl rfl (by decide) (vp_in_nI (by decide) (by decide)) rfl ?_
  refine w_eI (uI_0 ..) ?_
  show am_ww 12 29 [.ref 3] [] E4 (u_I (u_I I4 3 (upd (I4 3) 5 (nI 0))) 8 (upd (upd (I4 8) 0 (nI 3)) 1 (nI 1))) J4 S4 _
  refine w_st (i' := 30) (ls' := [.ref 3]) (st' := [.ref 3]) (E' := E4) (I' := (u_I (u_I I4 3 (upd (I4 3) 5 (nI 0))) 8 (upd (upd (I4 8) 0 (nI 3)) 1 (nI 1)))) (J' := J4) (S' := S4) am_e12 rfl rfl rfl rfl ?_
  refine w_st (i' := 31) (ls' := [.ref 3]) (st' := [.ref 8]) (E' := E4) (I' := (u_I (u_I I4 3 (upd (I4 3) 5 (nI 0))) 8 (upd (upd (I4 8) 0 (nI 3)) 1 (nI 1)))) (J' := J4) (S' := S4) am_e12 rfl rfl rfl rfl ?_
  refine w_st (i' := 32) (ls' := [.ref 3]) (st' := [.int (nI 2), .ref 8]) (E' := E4) (I' := (u_I (u_I I4 3 (upd (I4 3) 5 (nI 0))) 8 (upd (upd (I4 8) 0 (nI 3)) 1 (nI 1)))) (J' := J4) (S' := S4) am_e12 rfl rfl rfl rfl ?_
  refine w_st (i' := 33) (ls' := [.ref 3]) (st' := [.int (nI 10), .int (nI 2), .ref 8]) (E' := E4) (I' := (u_I (u_I I4 3 (upd (I4 3) 5 (nI 0))) 8 (upd (upd (I4 8) 0 (nI 3)) 1 (nI 1)))) (J' := J4) (S' := S4) am_e12 rfl rfl rfl rfl ?_
  refine w_is (k := 8) (n := 4) (jn := 2) am_e12 rfl rfl (by decide) (vp_in_nI (by decide) (by decide)) rfl ?_
  refine w_eI (uI_0 ..) ?_
  show am_ww 12 34 [.ref 3] [] E4 (u_I (u_I I4 3 (upd (I4 3) 5 (nI 0))) 8 (upd (upd (upd (I4 8) 0 (nI 3)) 1 (nI 1)) 2 (nI 10))) J4 S4 _
  refine w_st (i' := 35) (ls' := [.ref 3]) (st' := [.ref 3]) (E' := E4) (I' := (u_I (u_I I4 3 (upd (I4 3) 5 (nI 0))) 8 (upd (upd (upd (I4 8) 0 (nI 3)) 1 (nI 1)) 2 (nI 10)))) (J' := J4) (S' := S4) am_e12 rfl rfl rfl rfl ?_
  refine w_st (i' := 36) (ls' := [.ref 3]) (st' := [.ref 8]) (E' := E4) (I' := (u_I (u_I I4 3 (upd (I4 3) 5 (nI 0))) 8 (upd (upd (upd (I4 8) 0 (nI 3)) 1 (nI 1)) 2 (nI 10)))) (J' := J4) (S' := S4) am_e12 rfl rfl rfl rfl ?_
  refine w_st (i' := 37) (ls' := [.ref 3]) (st' := [.int (nI 3), .ref 8]) (E' := E4) (I' := (u_I (u_I I4 3 (upd (I4 3) 5 (nI 0))) 8 (upd (upd (upd (I4 8) 0 (nI 3)) 1 (nI 1)) 2 (nI 10)))) (J' := J4) (S' := S4) am_e12 rfl rfl rfl rfl ?_
  refine w_st (i' := 38) (ls' := [.ref 3]) (st' := [.int (nI 4), .int (nI 3), .ref 8]) (E' := E4) (I' := (u_I (u_I I4 3 (upd (I4 3) 5 (nI 0))) 8 (upd (upd (upd (I4 8) 0 (nI 3)) 1 (nI 1)) 2 (nI 10)))) (J' := J4) (S' := S4) am_e12 rfl rfl rfl rfl ?_
  refine w_is (k := 8) (n := 4) (jn := 3) am_e12 rfl rfl (by decide) (vp_in_nI (by decide) (by decide)) rfl ?_
  refine w_eI (uI_0 ..) ?_
  show am_ww 12 39 [.ref 3] [] E4 (u_I (u_I I4 3 (upd (I4 3) 5 (nI 0))) 8 (upd (upd (upd (upd (I4 8) 0 (nI 3)) 1 (nI 1)) 2 (nI 10)) 3 (nI 4))) J4 S4 _
  exact w_end am_e12 rfl rfl rfl h
-- 12 clear
theorem g12_0_12  {E : am_Ev} {I : Nat → Nat → Int32} {J : Nat → Nat → Int64} {S : Nat → Nat → Option Nat} {Q : am_Qt}  (h : am_cl 13 [.ref 13, .int (-1)] E I J S (q_V fun E1 I1 J1 S1 => am_cl 13 [.ref 14, .int (nI 0)] E1 I1 J1 S1 (q_V fun E2 I2 J2 S2 => am_cl 13 [.ref 15, .int (nI 0)] E2 I2 J2 S2 (q_V fun E3 I3 J3 S3 => am_cl 13 [.ref 16, .int (nI 0)] E3 I3 J3 S3 (q_V fun E4 I4 J4 S4 => Q (.inl none) E4 (u_I (u_I I4 12 (upd (I4 12) 5 (nI 0))) 17 (upd (upd (upd (upd (I4 17) 0 (nI 3)) 1 (nI 1)) 2 (nI 10)) 3 (nI 4))) J4 S4))))) : am_ww 12 0 [.ref 12] [] E I J S Q := by
  refine w_st (i' := 1) (ls' := [.ref 12]) (st' := [.ref 12]) (E' := E) (I' := I) (J' := J) (S' := S) am_e12 rfl rfl rfl rfl ?_
  refine w_st (i' := 2) (ls' := [.ref 12]) (st' := [.ref 13]) (E' := E) (I' := I) (J' := J) (S' := S) am_e12 rfl rfl rfl rfl ?_
  refine w_st (i' := 3) (ls' := [.ref 12]) (st' := [.int (-1), .ref 13]) (E' := E) (I' := I) (J' := J) (S' := S) am_e12 rfl rfl rfl rfl ?_
  refine w_cV am_e12 rfl rfl (as := [.ref 13, .int (-1)]) (rest := []) rfl rfl (am_ww.mono h ?_)
  rintro _ E1 I1 J1 S1 ⟨rfl, h⟩
  refine q_mkV ?_
  refine w_st (i' := 5) (ls' := [.ref 12]) (st' := [.ref 12]) (E' := E1) (I' := I1) (J' := J1) (S' := S1) am_e12 rfl rfl rfl rfl ?_
  refine w_st (i' := 6) (ls' := [.ref 12]) (st' := [.ref 14]) (E' := E1) (I' := I1) (J' := J1) (S' := S1) am_e12 rfl rfl rfl rfl ?_
  refine w_st (i' := 7) (ls' := [.ref 12]) (st' := [.int (nI 0), .ref 14]) (E' := E1) (I' := I1) (J' := J1) (S' := S1) am_e12 rfl rfl rfl rfl ?_
  refine w_cV am_e12 rfl rfl (as := [.ref 14, .int (nI 0)]) (rest := []) rfl rfl (am_ww.mono h ?_)
  rintro _ E2 I2 J2 S2 ⟨rfl, h⟩
  refine q_mkV ?_
  refine w_st (i' := 9) (ls' := [.ref 12]) (st' := [.ref 12]) (E' := E2) (I' := I2) (J' := J2) (S' := S2) am_e12 rfl rfl rfl rfl ?_
  refine w_st (i' := 10) (ls' := [.ref 12]) (st' := [.ref 15]) (E' := E2) (I' := I2) (J' := J2) (S' := S2) am_e12 rfl rfl rfl rfl ?_
  refine w_st (i' := 11) (ls' := [.ref 12]) (st' := [.int (nI 0), .ref 15]) (E' := E2) (I' := I2) (J' := J2) (S' := S2) am_e12 rfl rfl rfl rfl ?_
  refine w_cV am_e12 rfl rfl (as := [.ref 15, .int (nI 0)]) (rest := []) rfl rfl (am_ww.mono h ?_)
  rintro _ E3 I3 J3 S3 ⟨rfl, h⟩
  refine q_mkV ?_
  refine w_st (i' := 13) (ls' := [.ref 12]) (st' := [.ref 12]) (E' := E3) (I' := I3) (J' := J3) (S' := S3) am_e12 rfl rfl rfl rfl ?_
  refine w_st (i' := 14) (ls' := [.ref 12]) (st' := [.ref 16]) (E' := E3) (I' := I3) (J' := J3) (S' := S3) am_e12 rfl rfl rfl rfl ?_
  refine w_st (i' := 15) (ls' := [.ref 12]) (st' := [.int (nI 0), .ref 16]) (E' := E3) (I' := I3) (J' := J3) (S' := S3) am_e12 rfl rfl rfl rfl ?_
  refine w_cV am_e12 rfl rfl (as := [.ref 16, .int (nI 0)]) (rest := []) rfl rfl (am_ww.mono h ?_)
  rintro _ E4 I4 J4 S4 ⟨rfl, h⟩
  refine q_mkV ?_
  refine w_st (i' := 17) (ls' := [.ref 12]) (st' := [.ref 12]) (E' := E4) (I' := I4) (J' := J4) (S' := S4) am_e12 rfl rfl rfl rfl ?_
  refine w_st (i' := 18) (ls' := [.ref 12]) (st' := [.int (nI 0), .ref 12]) (E' := E4) (I' := I4) (J' := J4) (S' := S4) am_e12 rfl rfl rfl rfl ?_
  refine w_st (i' := 19) (ls' := [.ref 12]) (st' := []) (E' := E4) (I' := (u_I I4 12 (upd (I4 12) 5 (nI 0)))) (J' := J4) (S' := S4) am_e12 rfl rfl rfl rfl ?_
  refine w_st (i' := 20) (ls' := [.ref 12]) (st' := [.ref 12]) (E' := E4) (I' := (u_I I4 12 (upd (I4 12) 5 (nI 0)))) (J' := J4) (S' := S4) am_e12 rfl rfl rfl rfl ?_
  refine w_st (i' := 21) (ls' := [.ref 12]) (st' := [.ref 17]) (E' := E4) (I' := (u_I I4 12 (upd (I4 12) 5 (nI 0)))) (J' := J4) (S' := S4) am_e12 rfl rfl rfl rfl ?_
  refine w_st (i' := 22) (ls' := [.ref 12]) (st' := [.int (nI 0), .ref 17]) (E' := E4) (I' := (u_I I4 12 (upd (I4 12) 5 (nI 0)))) (J' := J4) (S' := S4) am_e12 rfl rfl rfl rfl ?_
  refine w_st (i' := 23) (ls' := [.ref 12]) (st' := [.int (nI 3), .int (nI 0), .ref 17]) (E' := E4) (I' := (u_I I4 12 (upd (I4 12) 5 (nI 0)))) (J' := J4) (S' := S4) am_e12 rfl rfl rfl rfl ?_
  refine w_is (k := 17) (n := 4) (jn := 0) am_e12 rfl rfl (by decide) (vp_in_nI (by decide) (by decide)) rfl ?_
  show am_ww 12 24 [.ref 12] [] E4 (u_I (u_I I4 12 (upd (I4 12) 5 (nI 0))) 17 (upd (I4 17) 0 (nI 3))) J4 S4 _
  refine w_st (i' := 25) (ls' := [.ref 12]) (st' := [.ref 12]) (E' := E4) (I' := (u_I (u_I I4 12 (upd (I4 12) 5 (nI 0))) 17 (upd (I4 17) 0 (nI 3)))) (J' := J4) (S' := S4) am_e12 rfl rfl rfl rfl ?_
  refine w_st (i' := 26) (ls' := [.ref 12]) (st' := [.ref 17]) (E' := E4) (I' := (u_I (u_I I4 12 (upd (I4 12) 5 (nI 0))) 17 (upd (I4 17) 0 (nI 3)))) (J' := J4) (S' := S4) am_e12 rfl rfl rfl rfl ?_
  refine w_st (i' := 27) (ls' := [.ref 12]) (st' := [.int (nI 1), .ref 17]) (E' := E4) (I' := (u_I (u_I I4 12 (upd (I4 12) 5 (nI 0))) 17 (upd (I4 17) 0 (nI 3)))) (J' := J4) (S' := S4) am_e12 rfl rfl rfl rfl ?_
  refine w_st (i' := 28) (ls' := [.ref 12]) (st' := [.int (nI 1), .int (nI 1), .ref 17]) (E' := E4) (I' := (u_I (u_I I4 12 (upd (I4 12) 5 (nI 0))) 17 (upd (I4 17) 0 (nI 3)))) (J' := J4) (S' := S4) am_e12 rfl rfl rfl rfl ?_
  refine w_is (k := 17) (n := 4) (jn := 1) am_e12 rfl rfl (by decide) (vp_in_nI (by decide) (by decide)) rfl ?_
  refine w_eI (uI_0 ..) ?_
  show am_ww 12 29 [.ref 12] [] E4 (u_I (u_I I4 12 (upd (I4 12) 5 (nI 0))) 17 (upd (upd (I4 17) 0 (nI 3)) 1 (nI 1))) J4 S4 _
  refine w_st (i' := 30) (ls' := [.ref 12]) (st' := [.ref 12]) (E' := E4) (I' := (u_I (u_I I4 12 (upd (I4 12) 5 (nI 0))) 17 (upd (upd (I4 17) 0 (nI 3)) 1 (nI 1)))) (J' := J4) (S' := S4) am_e12 rfl rfl rfl rfl ?_
  refine w_st (i' := 31) (ls' := [.ref 12]) (st' := [.ref 17]) (E' := E4) (I' := (u_I (u_I I4 12 (upd (I4 12) 5 (nI 0))) 17 (upd (upd (I4 17) 0 (nI 3)) 1 (nI 1)))) (J' := J4) (S' := S4) am_e12 rfl rfl rfl rfl ?_
  refine w_st (i' := 32) (ls' := [.ref 12]) (st' := [.int (nI 2), .ref 17]) (E' := E4) (I' := (u_I (u_I I4 12 (upd (I4 12) 5 (nI 0))) 17 (upd (upd (I4 17) 0 (nI 3)) 1 (nI 1)))) (J' := J4) (S' := S4) am_e12 rfl rfl rfl rfl ?_
  refine w_st (i' := 33) (ls' := [.ref 12]) (st' := [.int (nI 10), .int (nI 2), .ref 17]) (E' := E4) (I' := (u_I (u_I I4 12 (upd (I4 12) 5 (nI 0))) 17 (upd (upd (I4 17) 0 (nI 3)) 1 (nI 1)))) (J' := J4) (S' := S4) am_e12 rfl rfl rfl rfl ?_
  refine w_is (k := 17) (n := 4) (jn := 2) am_e12 rfl rfl (by decide) (vp_in_nI (by decide) (by decide)) rfl ?_
  refine w_eI (uI_0 ..) ?_
  show am_ww 12 34 [.ref 12] [] E4 (u_I (u_I I4 12 (upd (I4 12) 5 (nI 0))) 17 (upd (upd (upd (I4 17) 0 (nI 3)) 1 (nI 1)) 2 (nI 10))) J4 S4 _
  refine w_st (i' := 35) (ls' := [.ref 12]) (st' := [.ref 12]) (E' := E4) (I' := (u_I (u_I I4 12 (upd (I4 12) 5 (nI 0))) 17 (upd (upd (upd (I4 17) 0 (nI 3)) 1 (nI 1)) 2 (nI 10)))) (J' := J4) (S' := S4) am_e12 rfl rfl rfl rfl ?_
  refine w_st (i' := 36) (ls' := [.ref 12]) (st' := [.ref 17]) (E' := E4) (I' := (u_I (u_I I4 12 (upd (I4 12) 5 (nI 0))) 17 (upd (upd (upd (I4 17) 0 (nI 3)) 1 (nI 1)) 2 (nI 10)))) (J' := J4) (S' := S4) am_e12 rfl rfl rfl rfl ?_
  refine w_st (i' := 37) (ls' := [.ref 12]) (st' := [.int (nI 3), .ref 17]) (E' := E4) (I' := (u_I (u_I I4 12 (upd (I4 12) 5 (nI 0))) 17 (upd (upd (upd (I4 17) 0 (nI 3)) 1 (nI 1)) 2 (nI 10)))) (J' := J4) (S' := S4) am_e12 rfl rfl rfl rfl ?_
  refine w_st (i' := 38) (ls' := [.ref 12]) (st' := [.int (nI 4), .int (nI 3), .ref 17]) (E' := E4) (I' := (u_I (u_I I4 12 (upd (I4 12) 5 (nI 0))) 17 (upd (upd (upd (I4 17) 0 (nI 3)) 1 (nI 1)) 2 (nI 10)))) (J' := J4) (S' := S4) am_e12 rfl rfl rfl rfl ?_
  refine w_is (k := 17) (n := 4) (jn := 3) am_e12 rfl rfl (by decide) (vp_in_nI (by decide) (by decide)) rfl ?_
  refine w_eI (uI_0 ..) ?_
  show am_ww 12 39 [.ref 12] [] E4 (u_I (u_I I4 12 (upd (I4 12) 5 (nI 0))) 17 (upd (upd (upd (upd (I4 17) 0 (nI 3)) 1 (nI 1)) 2 (nI 10)) 3 (nI 4))) J4 S4 _
  exact w_end am_e12 rfl rfl rfl h
-- 13 fill
theorem g13_0_4 {p2 : Int32} {E : am_Ev} {I : Nat → Nat → Int32} {J : Nat → Nat → Int64} {S : Nat → Nat → Option Nat} {Q : am_Qt}  (h : am_ww 13 5 [.ref 4, .int p2, .int (nI 0), .int (nI 64)] [] E I J S Q) : am_ww 13 0 [.ref 4, .int p2, am_U, am_U] [] E I J S Q := by
  refine w_st (i' := 1) (ls' := [.ref 4, .int p2, am_U, am_U]) (st' := [.int (nI 0)]) (E' := E) (I' := I) (J' := J) (S' := S) am_e13 rfl rfl rfl rfl ?_
  refine w_st (i' := 2) (ls' := [.ref 4, .int p2, .int (nI 0), am_U]) (st' := []) (E' := E) (I' := I) (J' := J) (S' := S) am_e13 rfl rfl rfl rfl ?_
  refine w_st (i' := 3) (ls' := [.ref 4, .int p2, .int (nI 0), am_U]) (st' := [.ref 4]) (E' := E) (I' := I) (J' := J) (S' := S) am_e13 rfl rfl rfl rfl ?_
  refine w_st (i' := 4) (ls' := [.ref 4, .int p2, .int (nI 0), am_U]) (st' := [.int (nI 64)]) (E' := E) (I' := I) (J' := J) (S' := S) am_e13 rfl rfl rfl rfl ?_
  refine w_st (i' := 5) (ls' := [.ref 4, .int p2, .int (nI 0), .int (nI 64)]) (st' := []) (E' := E) (I' := I) (J' := J) (S' := S) am_e13 rfl rfl rfl rfl ?_
  exact h
theorem g13_5_4 {x1 : Int32} {x2 : Int32} {x3 : Int32} {E : am_Ev} {I : Nat → Nat → Int32} {J : Nat → Nat → Int64} {S : Nat → Nat → Option Nat} {Q : am_Qt}  (h : (x3 ≤ x2 → (Q (.inl none) E I J S)) ∧ (¬ x3 ≤ x2 → (vp_in x2 64 ∧ (am_ww 13 5 [.ref 4, .int x1, .int (x2 + nI 1), .int x3] [] E (u_I I 4 (upd (I 4) x2.toNatClampNeg x1)) J S Q)))) : am_ww 13 5 [.ref 4, .int x1, .int x2, .int x3] [] E I J S Q := by
  refine w_st (i' := 6) (ls' := [.ref 4, .int x1, .int x2, .int x3]) (st' := [.int x2]) (E' := E) (I' := I) (J' := J) (S' := S) am_e13 rfl rfl rfl rfl ?_
  refine w_st (i' := 7) (ls' := [.ref 4, .int x1, .int x2, .int x3]) (st' := [.int x3, .int x2]) (E' := E) (I' := I) (J' := J) (S' := S) am_e13 rfl rfl rfl rfl ?_
  refine w_if2 am_e13 rfl rfl (fun c => ?_) (fun c => ?_)
  · replace h := h.1 (of_decide_eq_true c)
    exact w_end am_e13 rfl rfl rfl h
  · replace h := h.2 (of_decide_eq_false c)
    refine w_st (i' := 9) (ls' := [.ref 4, .int x1, .int x2, .int x3]) (st' := [.ref 4]) (E' := E) (I' := I) (J' := J) (S' := S) am_e13 rfl rfl rfl rfl ?_
    refine w_st (i' := 10) (ls' := [.ref 4, .int x1, .int x2, .int x3]) (st' := [.int x2, .ref 4]) (E' := E) (I' := I) (J' := J) (S' := S) am_e13 rfl rfl rfl rfl ?_
    refine w_st (i' := 11) (ls' := [.ref 4, .int x1, .int x2, .int x3]) (st' := [.int x1, .int x2, .ref 4]) (E' := E) (I' := I) (J' := J) (S' := S) am_e13 rfl rfl rfl rfl ?_
    have hf1 := h.1
    replace h := h.2
    refine w_is (k := 4) (n := 64) (jn := x2.toNatClampNeg) am_e13 rfl rfl (by decide) hf1 rfl ?_
    show am_ww 13 12 [.ref 4, .int x1, .int x2, .int x3] [] E (u_I I 4 (upd (I 4) x2.toNatClampNeg x1)) J S _
    refine w_st (i' := 13) (ls' := [.ref 4, .int x1, .int (x2 + nI 1), .int x3]) (st' := []) (E' := E) (I' := (u_I I 4 (upd (I 4) x2.toNatClampNeg x1))) (J' := J) (S' := S) am_e13 rfl rfl rfl rfl ?_
    refine w_st (i' := 5) (ls' := [.ref 4, .int x1, .int (x2 + nI 1), .int x3]) (st' := []) (E' := E) (I' := (u_I I 4 (upd (I 4) x2.toNatClampNeg x1))) (J' := J) (S' := S) am_e13 rfl rfl rfl rfl ?_
    exact h
-- 13 fill
theorem g13_0_5 {p2 : Int32} {E : am_Ev} {I : Nat → Nat → Int32} {J : Nat → Nat → Int64} {S : Nat → Nat → Option Nat} {Q : am_Qt}  (h : am_ww 13 5 [.ref 5, .int p2, .int (nI 0), .int (nI 192)] [] E I J S Q) : am_ww 13 0 [.ref 5, .int p2, am_U, am_U] [] E I J S Q := by
  refine w_st (i' := 1) (ls' := [.ref 5, .int p2, am_U, am_U]) (st' := [.int (nI 0)]) (E' := E) (I' := I) (J' := J) (S' := S) am_e13 rfl rfl rfl rfl ?_
  refine w_st (i' := 2) (ls' := [.ref 5, .int p2, .int (nI 0), am_U]) (st' := []) (E' := E) (I' := I) (J' := J) (S' := S) am_e13 rfl rfl rfl rfl ?_
  refine w_st (i' := 3) (ls' := [.ref 5, .int p2, .int (nI 0), am_U]) (st' := [.ref 5]) (E' := E) (I' := I) (J' := J) (S' := S) am_e13 rfl rfl rfl rfl ?_
  refine w_st (i' := 4) (ls' := [.ref 5, .int p2, .int (nI 0), am_U]) (st' := [.int (nI 192)]) (E' := E) (I' := I) (J' := J) (S' := S) am_e13 rfl rfl rfl rfl ?_
  refine w_st (i' := 5) (ls' := [.ref 5, .int p2, .int (nI 0), .int (nI 192)]) (st' := []) (E' := E) (I' := I) (J' := J) (S' := S) am_e13 rfl rfl rfl rfl ?_
  exact h
theorem g13_5_5 {x1 : Int32} {x2 : Int32} {x3 : Int32} {E : am_Ev} {I : Nat → Nat → Int32} {J : Nat → Nat → Int64} {S : Nat → Nat → Option Nat} {Q : am_Qt}  (h : (x3 ≤ x2 → (Q (.inl none) E I J S)) ∧ (¬ x3 ≤ x2 → (vp_in x2 192 ∧ (am_ww 13 5 [.ref 5, .int x1, .int (x2 + nI 1), .int x3] [] E (u_I I 5 (upd (I 5) x2.toNatClampNeg x1)) J S Q)))) : am_ww 13 5 [.ref 5, .int x1, .int x2, .int x3] [] E I J S Q := by
  refine w_st (i' := 6) (ls' := [.ref 5, .int x1, .int x2, .int x3]) (st' := [.int x2]) (E' := E) (I' := I) (J' := J) (S' := S) am_e13 rfl rfl rfl rfl ?_
  refine w_st (i' := 7) (ls' := [.ref 5, .int x1, .int x2, .int x3]) (st' := [.int x3, .int x2]) (E' := E) (I' := I) (J' := J) (S' := S) am_e13 rfl rfl rfl rfl ?_
  refine w_if2 am_e13 rfl rfl (fun c => ?_) (fun c => ?_)
  · replace h := h.1 (of_decide_eq_true c)
    exact w_end am_e13 rfl rfl rfl h
  · replace h := h.2 (of_decide_eq_false c)
    refine w_st (i' := 9) (ls' := [.ref 5, .int x1, .int x2, .int x3]) (st' := [.ref 5]) (E' := E) (I' := I) (J' := J) (S' := S) am_e13 rfl rfl rfl rfl ?_
    refine w_st (i' := 10) (ls' := [.ref 5, .int x1, .int x2, .int x3]) (st' := [.int x2, .ref 5]) (E' := E) (I' := I) (J' := J) (S' := S) am_e13 rfl rfl rfl rfl ?_
    refine w_st (i' := 11) (ls' := [.ref 5, .int x1, .int x2, .int x3]) (st' := [.int x1, .int x2, .ref 5]) (E' := E) (I' := I) (J' := J) (S' := S) am_e13 rfl rfl rfl rfl ?_
    have hf1 := h.1
    replace h := h.2
    refine w_is (k := 5) (n := 192) (jn := x2.toNatClampNeg) am_e13 rfl rfl (by decide) hf1 rfl ?_
    show am_ww 13 12 [.ref 5, .int x1, .int x2, .int x3] [] E (u_I I 5 (upd (I 5) x2.toNatClampNeg x1)) J S _
    refine w_st (i' := 13) (ls' := [.ref 5, .int x1, .int (x2 + nI 1), .int x3]) (st' := []) (E' := E) (I' := (u_I I 5 (upd (I 5) x2.toNatClampNeg x1))) (J' := J) (S' := S) am_e13 rfl rfl rfl rfl ?_
    refine w_st (i' := 5) (ls' := [.ref 5, .int x1, .int (x2 + nI 1), .int x3]) (st' := []) (E' := E) (I' := (u_I I 5 (upd (I 5) x2.toNatClampNeg x1))) (J' := J) (S' := S) am_e13 rfl rfl rfl rfl ?_
    exact h
-- 13 fill
theorem g13_0_6 {p2 : Int32} {E : am_Ev} {I : Nat → Nat → Int32} {J : Nat → Nat → Int64} {S : Nat → Nat → Option Nat} {Q : am_Qt}  (h : am_ww 13 5 [.ref 6, .int p2, .int (nI 0), .int (nI 4)] [] E I J S Q) : am_ww 13 0 [.ref 6, .int p2, am_U, am_U] [] E I J S Q := by
  refine w_st (i' := 1) (ls' := [.ref 6, .int p2, am_U, am_U]) (st' := [.int (nI 0)]) (E' := E) (I' := I) (J' := J) (S' := S) am_e13 rfl rfl rfl rfl ?_
  refine w_st (i' := 2) (ls' := [.ref 6, .int p2, .int (nI 0), am_U]) (st' := []) (E' := E) (I' := I) (J' := J) (S' := S) am_e13 rfl rfl rfl rfl ?_
  refine w_st (i' := 3) (ls' := [.ref 6, .int p2, .int (nI 0), am_U]) (st' := [.ref 6]) (E' := E) (I' := I) (J' := J) (S' := S) am_e13 rfl rfl rfl rfl ?_
  refine w_st (i' := 4) (ls' := [.ref 6, .int p2, .int (nI 0), am_U]) (st' := [.int (nI 4)]) (E' := E) (I' := I) (J' := J) (S' := S) am_e13 rfl rfl rfl rfl ?_
  refine w_st (i' := 5) (ls' := [.ref 6, .int p2, .int (nI 0), .int (nI 4)]) (st' := []) (E' := E) (I' := I) (J' := J) (S' := S) am_e13 rfl rfl rfl rfl ?_
  exact h
theorem g13_5_6 {x1 : Int32} {x2 : Int32} {x3 : Int32} {E : am_Ev} {I : Nat → Nat → Int32} {J : Nat → Nat → Int64} {S : Nat → Nat → Option Nat} {Q : am_Qt}  (h : (x3 ≤ x2 → (Q (.inl none) E I J S)) ∧ (¬ x3 ≤ x2 → (vp_in x2 4 ∧ (am_ww 13 5 [.ref 6, .int x1, .int (x2 + nI 1), .int x3] [] E (u_I I 6 (upd (I 6) x2.toNatClampNeg x1)) J S Q)))) : am_ww 13 5 [.ref 6, .int x1, .int x2, .int x3] [] E I J S Q := by
  refine w_st (i' := 6) (ls' := [.ref 6, .int x1, .int x2, .int x3]) (st' := [.int x2]) (E' := E) (I' := I) (J' := J) (S' := S) am_e13 rfl rfl rfl rfl ?_
  refine w_st (i' := 7) (ls' := [.ref 6, .int x1, .int x2, .int x3]) (st' := [.int x3, .int x2]) (E' := E) (I' := I) (J' := J) (S' := S) am_e13 rfl rfl rfl rfl ?_
  refine w_if2 am_e13 rfl rfl (fun c => ?_) (fun c => ?_)
  · replace h := h.1 (of_decide_eq_true c)
    exact w_end am_e13 rfl rfl rfl h
  · replace h := h.2 (of_decide_eq_false c)
    refine w_st (i' := 9) (ls' := [.ref 6, .int x1, .int x2, .int x3]) (st' := [.ref 6]) (E' := E) (I' := I) (J' := J) (S' := S) am_e13 rfl rfl rfl rfl ?_
    refine w_st (i' := 10) (ls' := [.ref 6, .int x1, .int x2, .int x3]) (st' := [.int x2, .ref 6]) (E' := E) (I' := I) (J' := J) (S' := S) am_e13 rfl rfl rfl rfl ?_
    refine w_st (i' := 11) (ls' := [.ref 6, .int x1, .int x2, .int x3]) (st' := [.int x1, .int x2, .ref 6]) (E' := E) (I' := I) (J' := J) (S' := S) am_e13 rfl rfl rfl rfl ?_
    have hf1 := h.1
    replace h := h.2
    refine w_is (k := 6) (n := 4) (jn := x2.toNatClampNeg) am_e13 rfl rfl (by decide) hf1 rfl ?_
    show am_ww 13 12 [.ref 6, .int x1, .int x2, .int x3] [] E (u_I I 6 (upd (I 6) x2.toNatClampNeg x1)) J S _
    refine w_st (i' := 13) (ls' := [.ref 6, .int x1, .int (x2 + nI 1), .int x3]) (st' := []) (E' := E) (I' := (u_I I 6 (upd (I 6) x2.toNatClampNeg x1))) (J' := J) (S' := S) am_e13 rfl rfl rfl rfl ?_
    refine w_st (i' := 5) (ls' := [.ref 6, .int x1, .int (x2 + nI 1), .int x3]) (st' := []) (E' := E) (I' := (u_I I 6 (upd (I 6) x2.toNatClampNeg x1))) (J' := J) (S' := S) am_e13 rfl rfl rfl rfl ?_
    exact h
-- 13 fill
theorem g13_0_7 {p2 : Int32} {E : am_Ev} {I : Nat → Nat → Int32} {J : Nat → Nat → Int64} {S : Nat → Nat → Option Nat} {Q : am_Qt}  (h : am_ww 13 5 [.ref 7, .int p2, .int (nI 0), .int (nI 16)] [] E I J S Q) : am_ww 13 0 [.ref 7, .int p2, am_U, am_U] [] E I J S Q := by
  refine w_st (i' := 1) (ls' := [.ref 7, .int p2, am_U, am_U]) (st' := [.int (nI 0)]) (E' := E) (I' := I) (J' := J) (S' := S) am_e13 rfl rfl rfl rfl ?_
  refine w_st (i' := 2) (ls' := [.ref 7, .int p2, .int (nI 0), am_U]) (st' := []) (E' := E) (I' := I) (J' := J) (S' := S) am_e13 rfl rfl rfl rfl ?_
  refine w_st (i' := 3) (ls' := [.ref 7, .int p2, .int (nI 0), am_U]) (st' := [.ref 7]) (E' := E) (I' := I) (J' := J) (S' := S) am_e13 rfl rfl rfl rfl ?_
  refine w_st (i' := 4) (ls' := [.ref 7, .int p2, .int (nI 0), am_U]) (st' := [.int (nI 16)]) (E' := E) (I' := I) (J' := J) (S' := S) am_e13 rfl rfl rfl rfl ?_
  refine w_st (i' := 5) (ls' := [.ref 7, .int p2, .int (nI 0), .int (nI 16)]) (st' := []) (E' := E) (I' := I) (J' := J) (S' := S) am_e13 rfl rfl rfl rfl ?_
  exact h
theorem g13_5_7 {x1 : Int32} {x2 : Int32} {x3 : Int32} {E : am_Ev} {I : Nat → Nat → Int32} {J : Nat → Nat → Int64} {S : Nat → Nat → Option Nat} {Q : am_Qt}  (h : (x3 ≤ x2 → (Q (.inl none) E I J S)) ∧ (¬ x3 ≤ x2 → (vp_in x2 16 ∧ (am_ww 13 5 [.ref 7, .int x1, .int (x2 + nI 1), .int x3] [] E (u_I I 7 (upd (I 7) x2.toNatClampNeg x1)) J S Q)))) : am_ww 13 5 [.ref 7, .int x1, .int x2, .int x3] [] E I J S Q := by
  refine w_st (i' := 6) (ls' := [.ref 7, .int x1, .int x2, .int x3]) (st' := [.int x2]) (E' := E) (I' := I) (J' := J) (S' := S) am_e13 rfl rfl rfl rfl ?_
  refine w_st (i' := 7) (ls' := [.ref 7, .int x1, .int x2, .int x3]) (st' := [.int x3, .int x2]) (E' := E) (I' := I) (J' := J) (S' := S) am_e13 rfl rfl rfl rfl ?_
  refine w_if2 am_e13 rfl rfl (fun c => ?_) (fun c => ?_)
  · replace h := h.1 (of_decide_eq_true c)
    exact w_end am_e13 rfl rfl rfl h
  · replace h := h.2 (of_decide_eq_false c)
    refine w_st (i' := 9) (ls' := [.ref 7, .int x1, .int x2, .int x3]) (st' := [.ref 7]) (E' := E) (I' := I) (J' := J) (S' := S) am_e13 rfl rfl rfl rfl ?_
    refine w_st (i' := 10) (ls' := [.ref 7, .int x1, .int x2, .int x3]) (st' := [.int x2, .ref 7]) (E' := E) (I' := I) (J' := J) (S' := S) am_e13 rfl rfl rfl rfl ?_
    refine w_st (i' := 11) (ls' := [.ref 7, .int x1, .int x2, .int x3]) (st' := [.int x1, .int x2, .ref 7]) (E' := E) (I' := I) (J' := J) (S' := S) am_e13 rfl rfl rfl rfl ?_
    have hf1 := h.1
    replace h := h.2
    refine w_is (k := 7) (n := 16) (jn := x2.toNatClampNeg) am_e13 rfl rfl (by decide) hf1 rfl ?_
    show am_ww 13 12 [.ref 7, .int x1, .int x2, .int x3] [] E (u_I I 7 (upd (I 7) x2.toNatClampNeg x1)) J S _
    refine w_st (i' := 13) (ls' := [.ref 7, .int x1, .int (x2 + nI 1), .int x3]) (st' := []) (E' := E) (I' := (u_I I 7 (upd (I 7) x2.toNatClampNeg x1))) (J' := J) (S' := S) am_e13 rfl rfl rfl rfl ?_
    refine w_st (i' := 5) (ls' := [.ref 7, .int x1, .int (x2 + nI 1), .int x3]) (st' := []) (E' := E) (I' := (u_I I 7 (upd (I 7) x2.toNatClampNeg x1))) (J' := J) (S' := S) am_e13 rfl rfl rfl rfl ?_
    exact h
-- 13 fill
theorem g13_0_13 {p2 : Int32} {E : am_Ev} {I : Nat → Nat → Int32} {J : Nat → Nat → Int64} {S : Nat → Nat → Option Nat} {Q : am_Qt}  (h : am_ww 13 5 [.ref 13, .int p2, .int (nI 0), .int (nI 64)] [] E I J S Q) : am_ww 13 0 [.ref 13, .int p2, am_U, am_U] [] E I J S Q := by
  refine w_st (i' := 1) (ls' := [.ref 13, .int p2, am_U, am_U]) (st' := [.int (nI 0)]) (E' := E) (I' := I) (J' := J) (S' := S) am_e13 rfl rfl rfl rfl ?_
  refine w_st (i' := 2) (ls' := [.ref 13, .int p2, .int (nI 0), am_U]) (st' := []) (E' := E) (I' := I) (J' := J) (S' := S) am_e13 rfl rfl rfl rfl ?_
  refine w_st (i' := 3) (ls' := [.ref 13, .int p2, .int (nI 0), am_U]) (st' := [.ref 13]) (E' := E) (I' := I) (J' := J) (S' := S) am_e13 rfl rfl rfl rfl ?_
  refine w_st (i' := 4) (ls' := [.ref 13, .int p2, .int (nI 0), am_U]) (st' := [.int (nI 64)]) (E' := E) (I' := I) (J' := J) (S' := S) am_e13 rfl rfl rfl rfl ?_
  refine w_st (i' := 5) (ls' := [.ref 13, .int p2, .int (nI 0), .int (nI 64)]) (st' := []) (E' := E) (I' := I) (J' := J) (S' := S) am_e13 rfl rfl rfl rfl ?_
  exact h
theorem g13_5_13 {x1 : Int32} {x2 : Int32} {x3 : Int32} {E : am_Ev} {I : Nat → Nat → Int32} {J : Nat → Nat → Int64} {S : Nat → Nat → Option Nat} {Q : am_Qt}  (h : (x3 ≤ x2 → (Q (.inl none) E I J S)) ∧ (¬ x3 ≤ x2 → (vp_in x2 64 ∧ (am_ww 13 5 [.ref 13, .int x1, .int (x2 + nI 1), .int x3] [] E (u_I I 13 (upd (I 13) x2.toNatClampNeg x1)) J S Q)))) : am_ww 13 5 [.ref 13, .int x1, .int x2, .int x3] [] E I J S Q := by
  refine w_st (i' := 6) (ls' := [.ref 13, .int x1, .int x2, .int x3]) (st' := [.int x2]) (E' := E) (I' := I) (J' := J) (S' := S) am_e13 rfl rfl rfl rfl ?_
  refine w_st (i' := 7) (ls' := [.ref 13, .int x1, .int x2, .int x3]) (st' := [.int x3, .int x2]) (E' := E) (I' := I) (J' := J) (S' := S) am_e13 rfl rfl rfl rfl ?_
  refine w_if2 am_e13 rfl rfl (fun c => ?_) (fun c => ?_)
  · replace h := h.1 (of_decide_eq_true c)
    exact w_end am_e13 rfl rfl rfl h
  · replace h := h.2 (of_decide_eq_false c)
    refine w_st (i' := 9) (ls' := [.ref 13, .int x1, .int x2, .int x3]) (st' := [.ref 13]) (E' := E) (I' := I) (J' := J) (S' := S) am_e13 rfl rfl rfl rfl ?_
    refine w_st (i' := 10) (ls' := [.ref 13, .int x1, .int x2, .int x3]) (st' := [.int x2, .ref 13]) (E' := E) (I' := I) (J' := J) (S' := S) am_e13 rfl rfl rfl rfl ?_
    refine w_st (i' := 11) (ls' := [.ref 13, .int x1, .int x2, .int x3]) (st' := [.int x1, .int x2, .ref 13]) (E' := E) (I' := I) (J' := J) (S' := S) am_e13 rfl rfl rfl rfl ?_
    have hf1 := h.1
    replace h := h.2
    refine w_is (k := 13) (n := 64) (jn := x2.toNatClampNeg) am_e13 rfl rfl (by decide) hf1 rfl ?_
    show am_ww 13 12 [.ref 13, .int x1, .int x2, .int x3] [] E (u_I I 13 (upd (I 13) x2.toNatClampNeg x1)) J S _
    refine w_st (i' := 13) (ls' := [.ref 13, .int x1, .int (x2 + nI 1), .int x3]) (st' := []) (E' := E) (I' := (u_I I 13 (upd (I 13) x2.toNatClampNeg x1))) (J' := J) (S' := S) am_e13 rfl rfl rfl rfl ?_
    refine w_st (i' := 5) (ls' := [.ref 13, .int x1, .int (x2 + nI 1), .int x3]) (st' := []) (E' := E) (I' := (u_I I 13 (upd (I 13) x2.toNatClampNeg x1))) (J' := J) (S' := S) am_e13 rfl rfl rfl rfl ?_
    exact h
-- 13 fill
theorem g13_0_14 {p2 : Int32} {E : am_Ev} {I : Nat → Nat → Int32} {J : Nat → Nat → Int64} {S : Nat → Nat → Option Nat} {Q : am_Qt}  (h : am_ww 13 5 [.ref 14, .int p2, .int (nI 0), .int (nI 192)] [] E I J S Q) : am_ww 13 0 [.ref 14, .int p2, am_U, am_U] [] E I J S Q := by
  refine w_st (i' := 1) (ls' := [.ref 14, .int p2, am_U, am_U]) (st' := [.int (nI 0)]) (E' := E) (I' := I) (J' := J) (S' := S) am_e13 rfl rfl rfl rfl ?_
  refine w_st (i' := 2) (ls' := [.ref 14, .int p2, .int (nI 0), am_U]) (st' := []) (E' := E) (I' := I) (J' := J) (S' := S) am_e13 rfl rfl rfl rfl ?_
  refine w_st (i' := 3) (ls' := [.ref 14, .int p2, .int (nI 0), am_U]) (st' := [.ref 14]) (E' := E) (I' := I) (J' := J) (S' := S) am_e13 rfl rfl rfl rfl ?_
  refine w_st (i' := 4) (ls' := [.ref 14, .int p2, .int (nI 0), am_U]) (st' := [.int (nI 192)]) (E' := E) (I' := I) (J' := J) (S' := S) am_e13 rfl rfl rfl rfl ?_
  refine w_st (i' := 5) (ls' := [.ref 14, .int p2, .int (nI 0), .int (nI 192)]) (st' := []) (E' := E) (I' := I) (J' := J) (S' := S) am_e13 rfl rfl rfl rfl ?_
  exact h
theorem g13_5_14 {x1 : Int32} {x2 : Int32} {x3 : Int32} {E : am_Ev} {I : Nat → Nat → Int32} {J : Nat → Nat → Int64} {S : Nat → Nat → Option Nat} {Q : am_Qt}  (h : (x3 ≤ x2 → (Q (.inl none) E I J S)) ∧ (¬ x3 ≤ x2 → (vp_in x2 192 ∧ (am_ww 13 5 [.ref 14, .int x1, .int (x2 + nI 1), .int x3] [] E (u_I I 14 (upd (I 14) x2.toNatClampNeg x1)) J S Q)))) : am_ww 13 5 [.ref 14, .int x1, .int x2, .int x3] [] E I J S Q := by
  refine w_st (i' := 6) (ls' := [.ref 14, .int x1, .int x2, .int x3]) (st' := [.int x2]) (E' := E) (I' := I) (J' := J) (S' := S) am_e13 rfl rfl rfl rfl ?_
  refine w_st (i' := 7) (ls' := [.ref 14, .int x1, .int x2, .int x3]) (st' := [.int x3, .int x2]) (E' := E) (I' := I) (J' := J) (S' := S) am_e13 rfl rfl rfl rfl ?_
  refine w_if2 am_e13 rfl rfl (fun c => ?_) (fun c => ?_)
  · replace h := h.1 (of_decide_eq_true c)
    exact w_end am_e13 rfl rfl rfl h
  · replace h := h.2 (of_decide_eq_false c)
    refine w_st (i' := 9) (ls' := [.ref 14, .int x1, .int x2, .int x3]) (st' := [.ref 14]) (E' := E) (I' := I) (J' := J) (S' := S) am_e13 rfl rfl rfl rfl ?_
    refine w_st (i' := 10) (ls' := [.ref 14, .int x1, .int x2, .int x3]) (st' := [.int x2, .ref 14]) (E' := E) (I' := I) (J' := J) (S' := S) am_e13 rfl rfl rfl rfl ?_
    refine w_st (i' := 11) (ls' := [.ref 14, .int x1, .int x2, .int x3]) (st' := [.int x1, .int x2, .ref 14]) (E' := E) (I' := I) (J' := J) (S' := S) am_e13 rfl rfl rfl rfl ?_
    have hf1 := h.1
    replace h := h.2
    refine w_is (k := 14) (n := 192) (jn := x2.toNatClampNeg) am_e13 rfl rfl (by decide) hf1 rfl ?_
    show am_ww 13 12 [.ref 14, .int x1, .int x2, .int x3] [] E (u_I I 14 (upd (I 14) x2.toNatClampNeg x1)) J S _
    refine w_st (i' := 13) (ls' := [.ref 14, .int x1, .int (x2 + nI 1), .int x3]) (st' := []) (E' := E) (I' := (u_I I 14 (upd (I 14) x2.toNatClampNeg x1))) (J' := J) (S' := S) am_e13 rfl rfl rfl rfl ?_
    refine w_st (i' := 5) (ls' := [.ref 14, .int x1, .int (x2 + nI 1), .int x3]) (st' := []) (E' := E) (I' := (u_I I 14 (upd (I 14) x2.toNatClampNeg x1))) (J' := J) (S' := S) am_e13 rfl rfl rfl rfl ?_
    exact h
-- 13 fill
theorem g13_0_15 {p2 : Int32} {E : am_Ev} {I : Nat → Nat → Int32} {J : Nat → Nat → Int64} {S : Nat → Nat → Option Nat} {Q : am_Qt}  (h : am_ww 13 5 [.ref 15, .int p2, .int (nI 0), .int (nI 4)] [] E I J S Q) : am_ww 13 0 [.ref 15, .int p2, am_U, am_U] [] E I J S Q := by
  refine w_st (i' := 1) (ls' := [.ref 15, .int p2, am_U, am_U]) (st' := [.int (nI 0)]) (E' := E) (I' := I) (J' := J) (S' := S) am_e13 rfl rfl rfl rfl ?_
  refine w_st (i' := 2) (ls' := [.ref 15, .int p2, .int (nI 0), am_U]) (st' := []) (E' := E) (I' := I) (J' := J) (S' := S) am_e13 rfl rfl rfl rfl ?_
  refine w_st (i' := 3) (ls' := [.ref 15, .int p2, .int (nI 0), am_U]) (st' := [.ref 15]) (E' := E) (I' := I) (J' := J) (S' := S) am_e13 rfl rfl rfl rfl ?_
  refine w_st (i' := 4) (ls' := [.ref 15, .int p2, .int (nI 0), am_U]) (st' := [.int (nI 4)]) (E' := E) (I' := I) (J' := J) (S' := S) am_e13 rfl rfl rfl rfl ?_
  refine w_st (i' := 5) (ls' := [.ref 15, .int p2, .int (nI 0), .int (nI 4)]) (st' := []) (E' := E) (I' := I) (J' := J) (S' := S) am_e13 rfl rfl rfl rfl ?_
  exact h
theorem g13_5_15 {x1 : Int32} {x2 : Int32} {x3 : Int32} {E : am_Ev} {I : Nat → Nat → Int32} {J : Nat → Nat → Int64} {S : Nat → Nat → Option Nat} {Q : am_Qt}  (h : (x3 ≤ x2 → (Q (.inl none) E I J S)) ∧ (¬ x3 ≤ x2 → (vp_in x2 4 ∧ (am_ww 13 5 [.ref 15, .int x1, .int (x2 + nI 1), .int x3] [] E (u_I I 15 (upd (I 15) x2.toNatClampNeg x1)) J S Q)))) : am_ww 13 5 [.ref 15, .int x1, .int x2, .int x3] [] E I J S Q := by
  refine w_st (i' := 6) (ls' := [.ref 15, .int x1, .int x2, .int x3]) (st' := [.int x2]) (E' := E) (I' := I) (J' := J) (S' := S) am_e13 rfl rfl rfl rfl ?_
  refine w_st (i' := 7) (ls' := [.ref 15, .int x1, .int x2, .int x3]) (st' := [.int x3, .int x2]) (E' := E) (I' := I) (J' := J) (S' := S) am_e13 rfl rfl rfl rfl ?_
  refine w_if2 am_e13 rfl rfl (fun c => ?_) (fun c => ?_)
  · replace h := h.1 (of_decide_eq_true c)
    exact w_end am_e13 rfl rfl rfl h
  · replace h := h.2 (of_decide_eq_false c)
    refine w_st (i' := 9) (ls' := [.ref 15, .int x1, .int x2, .int x3]) (st' := [.ref 15]) (E' := E) (I' := I) (J' := J) (S' := S) am_e13 rfl rfl rfl rfl ?_
    refine w_st (i' := 10) (ls' := [.ref 15, .int x1, .int x2, .int x3]) (st' := [.int x2, .ref 15]) (E' := E) (I' := I) (J' := J) (S' := S) am_e13 rfl rfl rfl rfl ?_
    refine w_st (i' := 11) (ls' := [.ref 15, .int x1, .int x2, .int x3]) (st' := [.int x1, .int x2, .ref 15]) (E' := E) (I' := I) (J' := J) (S' := S) am_e13 rfl rfl rfl rfl ?_
    have hf1 := h.1
    replace h := h.2
    refine w_is (k := 15) (n := 4) (jn := x2.toNatClampNeg) am_e13 rfl rfl (by decide) hf1 rfl ?_
    show am_ww 13 12 [.ref 15, .int x1, .int x2, .int x3] [] E (u_I I 15 (upd (I 15) x2.toNatClampNeg x1)) J S _
    refine w_st (i' := 13) (ls' := [.ref 15, .int x1, .int (x2 + nI 1), .int x3]) (st' := []) (E' := E) (I' := (u_I I 15 (upd (I 15) x2.toNatClampNeg x1))) (J' := J) (S' := S) am_e13 rfl rfl rfl rfl ?_
    refine w_st (i' := 5) (ls' := [.ref 15, .int x1, .int (x2 + nI 1), .int x3]) (st' := []) (E' := E) (I' := (u_I I 15 (upd (I 15) x2.toNatClampNeg x1))) (J' := J) (S' := S) am_e13 rfl rfl rfl rfl ?_
    exact h
-- 13 fill
theorem g13_0_16 {p2 : Int32} {E : am_Ev} {I : Nat → Nat → Int32} {J : Nat → Nat → Int64} {S : Nat → Nat → Option Nat} {Q : am_Qt}  (h : am_ww 13 5 [.ref 16, .int p2, .int (nI 0), .int (nI 16)] [] E I J S Q) : am_ww 13 0 [.ref 16, .int p2, am_U, am_U] [] E I J S Q := by
  refine w_st (i' := 1) (ls' := [.ref 16, .int p2, am_U, am_U]) (st' := [.int (nI 0)]) (E' := E) (I' := I) (J' := J) (S' := S) am_e13 rfl rfl rfl rfl ?_
  refine w_st (i' := 2) (ls' := [.ref 16, .int p2, .int (nI 0), am_U]) (st' := []) (E' := E) (I' := I) (J' := J) (S' := S) am_e13 rfl rfl rfl rfl ?_
  refine w_st (i' := 3) (ls' := [.ref 16, .int p2, .int (nI 0), am_U]) (st' := [.ref 16]) (E' := E) (I' := I) (J' := J) (S' := S) am_e13 rfl rfl rfl rfl ?_
  refine w_st (i' := 4) (ls' := [.ref 16, .int p2, .int (nI 0), am_U]) (st' := [.int (nI 16)]) (E' := E) (I' := I) (J' := J) (S' := S) am_e13 rfl rfl rfl rfl ?_
  refine w_st (i' := 5) (ls' := [.ref 16, .int p2, .int (nI 0), .int (nI 16)]) (st' := []) (E' := E) (I' := I) (J' := J) (S' := S) am_e13 rfl rfl rfl rfl ?_
  exact h
theorem g13_5_16 {x1 : Int32} {x2 : Int32} {x3 : Int32} {E : am_Ev} {I : Nat → Nat → Int32} {J : Nat → Nat → Int64} {S : Nat → Nat → Option Nat} {Q : am_Qt}  (h : (x3 ≤ x2 → (Q (.inl none) E I J S)) ∧ (¬ x3 ≤ x2 → (vp_in x2 16 ∧ (am_ww 13 5 [.ref 16, .int x1, .int (x2 + nI 1), .int x3] [] E (u_I I 16 (upd (I 16) x2.toNatClampNeg x1)) J S Q)))) : am_ww 13 5 [.ref 16, .int x1, .int x2, .int x3] [] E I J S Q := by
  refine w_st (i' := 6) (ls' := [.ref 16, .int x1, .int x2, .int x3]) (st' := [.int x2]) (E' := E) (I' := I) (J' := J) (S' := S) am_e13 rfl rfl rfl rfl ?_
  refine w_st (i' := 7) (ls' := [.ref 16, .int x1, .int x2, .int x3]) (st' := [.int x3, .int x2]) (E' := E) (I' := I) (J' := J) (S' := S) am_e13 rfl rfl rfl rfl ?_
  refine w_if2 am_e13 rfl rfl (fun c => ?_) (fun c => ?_)
  · replace h := h.1 (of_decide_eq_true c)
    exact w_end am_e13 rfl rfl rfl h
  · replace h := h.2 (of_decide_eq_false c)
    refine w_st (i' := 9) (ls' := [.ref 16, .int x1, .int x2, .int x3]) (st' := [.ref 16]) (E' := E) (I' := I) (J' := J) (S' := S) am_e13 rfl rfl rfl rfl ?_
    refine w_st (i' := 10) (ls' := [.ref 16, .int x1, .int x2, .int x3]) (st' := [.int x2, .ref 16]) (E' := E) (I' := I) (J' := J) (S' := S) am_e13 rfl rfl rfl rfl ?_
    refine w_st (i' := 11) (ls' := [.ref 16, .int x1, .int x2, .int x3]) (st' := [.int x1, .int x2, .ref 16]) (E' := E) (I' := I) (J' := J) (S' := S) am_e13 rfl rfl rfl rfl ?_
    have hf1 := h.1
    replace h := h.2
    refine w_is (k := 16) (n := 16) (jn := x2.toNatClampNeg) am_e13 rfl rfl (by decide) hf1 rfl ?_
    show am_ww 13 12 [.ref 16, .int x1, .int x2, .int x3] [] E (u_I I 16 (upd (I 16) x2.toNatClampNeg x1)) J S _
    refine w_st (i' := 13) (ls' := [.ref 16, .int x1, .int (x2 + nI 1), .int x3]) (st' := []) (E' := E) (I' := (u_I I 16 (upd (I 16) x2.toNatClampNeg x1))) (J' := J) (S' := S) am_e13 rfl rfl rfl rfl ?_
    refine w_st (i' := 5) (ls' := [.ref 16, .int x1, .int (x2 + nI 1), .int x3]) (st' := []) (E' := E) (I' := (u_I I 16 (upd (I 16) x2.toNatClampNeg x1))) (J' := J) (S' := S) am_e13 rfl rfl rfl rfl ?_
    exact h
-- 13 fill
theorem g13_0_22 {p2 : Int32} {E : am_Ev} {I : Nat → Nat → Int32} {J : Nat → Nat → Int64} {S : Nat → Nat → Option Nat} {Q : am_Qt}  (h : am_ww 13 5 [.ref 22, .int p2, .int (nI 0), .int (nI 16)] [] E I J S Q) : am_ww 13 0 [.ref 22, .int p2, am_U, am_U] [] E I J S Q := by
  refine w_st (i' := 1) (ls' := [.ref 22, .int p2, am_U, am_U]) (st' := [.int (nI 0)]) (E' := E) (I' := I) (J' := J) (S' := S) am_e13 rfl rfl rfl rfl ?_
  refine w_st (i' := 2) (ls' := [.ref 22, .int p2, .int (nI 0), am_U]) (st' := []) (E' := E) (I' := I) (J' := J) (S' := S) am_e13 rfl rfl rfl rfl ?_
  refine w_st (i' := 3) (ls' := [.ref 22, .int p2, .int (nI 0), am_U]) (st' := [.ref 22]) (E' := E) (I' := I) (J' := J) (S' := S) am_e13 rfl rfl rfl rfl ?_
  refine w_st (i' := 4) (ls' := [.ref 22, .int p2, .int (nI 0), am_U]) (st' := [.int (nI 16)]) (E' := E) (I' := I) (J' := J) (S' := S) am_e13 rfl rfl rfl rfl ?_
  refine w_st (i' := 5) (ls' := [.ref 22, .int p2, .int (nI 0), .int (nI 16)]) (st' := []) (E' := E) (I' := I) (J' := J) (S' := S) am_e13 rfl rfl rfl rfl ?_
  exact h
theorem g13_5_22 {x1 : Int32} {x2 : Int32} {x3 : Int32} {E : am_Ev} {I : Nat → Nat → Int32} {J : Nat → Nat → Int64} {S : Nat → Nat → Option Nat} {Q : am_Qt}  (h : (x3 ≤ x2 → (Q (.inl none) E I J S)) ∧ (¬ x3 ≤ x2 → (vp_in x2 16 ∧ (am_ww 13 5 [.ref 22, .int x1, .int (x2 + nI 1), .int x3] [] E (u_I I 22 (upd (I 22) x2.toNatClampNeg x1)) J S Q)))) : am_ww 13 5 [.ref 22, .int x1, .int x2, .int x3] [] E I J S Q := by
  refine w_st (i' := 6) (ls' := [.ref 22, .int x1, .int x2, .int x3]) (st' := [.int x2]) (E' := E) (I' := I) (J' := J) (S' := S) am_e13 rfl rfl rfl rfl ?_
  refine w_st (i' := 7) (ls' := [.ref 22, .int x1, .int x2, .int x3]) (st' := [.int x3, .int x2]) (E' := E) (I' := I) (J' := J) (S' := S) am_e13 rfl rfl rfl rfl ?_
  refine w_if2 am_e13 rfl rfl (fun c => ?_) (fun c => ?_)
  · replace h := h.1 (of_decide_eq_true c)
    exact w_end am_e13 rfl rfl rfl h
  · replace h := h.2 (of_decide_eq_false c)
    refine w_st (i' := 9) (ls' := [.ref 22, .int x1, .int x2, .int x3]) (st' := [.ref 22]) (E' := E) (I' := I) (J' := J) (S' := S) am_e13 rfl rfl rfl rfl ?_
    refine w_st (i' := 10) (ls' := [.ref 22, .int x1, .int x2, .int x3]) (st' := [.int x2, .ref 22]) (E' := E) (I' := I) (J' := J) (S' := S) am_e13 rfl rfl rfl rfl ?_
    refine w_st (i' := 11) (ls' := [.ref 22, .int x1, .int x2, .int x3]) (st' := [.int x1, .int x2, .ref 22]) (E' := E) (I' := I) (J' := J) (S' := S) am_e13 rfl rfl rfl rfl ?_
    have hf1 := h.1
    replace h := h.2
    refine w_is (k := 22) (n := 16) (jn := x2.toNatClampNeg) am_e13 rfl rfl (by decide) hf1 rfl ?_
    show am_ww 13 12 [.ref 22, .int x1, .int x2, .int x3] [] E (u_I I 22 (upd (I 22) x2.toNatClampNeg x1)) J S _
    refine w_st (i' := 13) (ls' := [.ref 22, .int x1, .int (x2 + nI 1), .int x3]) (st' := []) (E' := E) (I' := (u_I I 22 (upd (I 22) x2.toNatClampNeg x1))) (J' := J) (S' := S) am_e13 rfl rfl rfl rfl ?_
    refine w_st (i' := 5) (ls' := [.ref 22, .int x1, .int (x2 + nI 1), .int x3]) (st' := []) (E' := E) (I' := (u_I I 22 (upd (I 22) x2.toNatClampNeg x1))) (J' := J) (S' := S) am_e13 rfl rfl rfl rfl ?_
    exact h
-- 13 fill
theorem g13_0_23 {p2 : Int32} {E : am_Ev} {I : Nat → Nat → Int32} {J : Nat → Nat → Int64} {S : Nat → Nat → Option Nat} {Q : am_Qt}  (h : am_ww 13 5 [.ref 23, .int p2, .int (nI 0), .int (nI 4)] [] E I J S Q) : am_ww 13 0 [.ref 23, .int p2, am_U, am_U] [] E I J S Q := by
  refine w_st (i' := 1) (ls' := [.ref 23, .int p2, am_U, am_U]) (st' := [.int (nI 0)]) (E' := E) (I' := I) (J' := J) (S' := S) am_e13 rfl rfl rfl rfl ?_
  refine w_st (i' := 2) (ls' := [.ref 23, .int p2, .int (nI 0), am_U]) (st' := []) (E' := E) (I' := I) (J' := J) (S' := S) am_e13 rfl rfl rfl rfl ?_
  refine w_st (i' := 3) (ls' := [.ref 23, .int p2, .int (nI 0), am_U]) (st' := [.ref 23]) (E' := E) (I' := I) (J' := J) (S' := S) am_e13 rfl rfl rfl rfl ?_
  refine w_st (i' := 4) (ls' := [.ref 23, .int p2, .int (nI 0), am_U]) (st' := [.int (nI 4)]) (E' := E) (I' := I) (J' := J) (S' := S) am_e13 rfl rfl rfl rfl ?_
  refine w_st (i' := 5) (ls' := [.ref 23, .int p2, .int (nI 0), .int (nI 4)]) (st' := []) (E' := E) (I' := I) (J' := J) (S' := S) am_e13 rfl rfl rfl rfl ?_
  exact h
theorem g13_5_23 {x1 : Int32} {x2 : Int32} {x3 : Int32} {E : am_Ev} {I : Nat → Nat → Int32} {J : Nat → Nat → Int64} {S : Nat → Nat → Option Nat} {Q : am_Qt}  (h : (x3 ≤ x2 → (Q (.inl none) E I J S)) ∧ (¬ x3 ≤ x2 → (vp_in x2 4 ∧ (am_ww 13 5 [.ref 23, .int x1, .int (x2 + nI 1), .int x3] [] E (u_I I 23 (upd (I 23) x2.toNatClampNeg x1)) J S Q)))) : am_ww 13 5 [.ref 23, .int x1, .int x2, .int x3] [] E I J S Q := by
  refine w_st (i' := 6) (ls' := [.ref 23, .int x1, .int x2, .int x3]) (st' := [.int x2]) (E' := E) (I' := I) (J' := J) (S' := S) am_e13 rfl rfl rfl rfl ?_
  refine w_st (i' := 7) (ls' := [.ref 23, .int x1, .int x2, .int x3]) (st' := [.int x3, .int x2]) (E' := E) (I' := I) (J' := J) (S' := S) am_e13 rfl rfl rfl rfl ?_
  refine w_if2 am_e13 rfl rfl (fun c => ?_) (fun c => ?_)
  · replace h := h.1 (of_decide_eq_true c)
    exact w_end am_e13 rfl rfl rfl h
  · replace h := h.2 (of_decide_eq_false c)
    refine w_st (i' := 9) (ls' := [.ref 23, .int x1, .int x2, .int x3]) (st' := [.ref 23]) (E' := E) (I' := I) (J' := J) (S' := S) am_e13 rfl rfl rfl rfl ?_
    refine w_st (i' := 10) (ls' := [.ref 23, .int x1, .int x2, .int x3]) (st' := [.int x2, .ref 23]) (E' := E) (I' := I) (J' := J) (S' := S) am_e13 rfl rfl rfl rfl ?_
    refine w_st (i' := 11) (ls' := [.ref 23, .int x1, .int x2, .int x3]) (st' := [.int x1, .int x2, .ref 23]) (E' := E) (I' := I) (J' := J) (S' := S) am_e13 rfl rfl rfl rfl ?_
    have hf1 := h.1
    replace h := h.2
    refine w_is (k := 23) (n := 4) (jn := x2.toNatClampNeg) am_e13 rfl rfl (by decide) hf1 rfl ?_
    show am_ww 13 12 [.ref 23, .int x1, .int x2, .int x3] [] E (u_I I 23 (upd (I 23) x2.toNatClampNeg x1)) J S _
    refine w_st (i' := 13) (ls' := [.ref 23, .int x1, .int (x2 + nI 1), .int x3]) (st' := []) (E' := E) (I' := (u_I I 23 (upd (I 23) x2.toNatClampNeg x1))) (J' := J) (S' := S) am_e13 rfl rfl rfl rfl ?_
    refine w_st (i' := 5) (ls' := [.ref 23, .int x1, .int (x2 + nI 1), .int x3]) (st' := []) (E' := E) (I' := (u_I I 23 (upd (I 23) x2.toNatClampNeg x1))) (J' := J) (S' := S) am_e13 rfl rfl rfl rfl ?_
    exact h
-- 13 fill
theorem g13_0_24 {p2 : Int32} {E : am_Ev} {I : Nat → Nat → Int32} {J : Nat → Nat → Int64} {S : Nat → Nat → Option Nat} {Q : am_Qt}  (h : am_ww 13 5 [.ref 24, .int p2, .int (nI 0), .int (nI 4)] [] E I J S Q) : am_ww 13 0 [.ref 24, .int p2, am_U, am_U] [] E I J S Q := by
  refine w_st (i' := 1) (ls' := [.ref 24, .int p2, am_U, am_U]) (st' := [.int (nI 0)]) (E' := E) (I' := I) (J' := J) (S' := S) am_e13 rfl rfl rfl rfl ?_
  refine w_st (i' := 2) (ls' := [.ref 24, .int p2, .int (nI 0), am_U]) (st' := []) (E' := E) (I' := I) (J' := J) (S' := S) am_e13 rfl rfl rfl rfl ?_
  refine w_st (i' := 3) (ls' := [.ref 24, .int p2, .int (nI 0), am_U]) (st' := [.ref 24]) (E' := E) (I' := I) (J' := J) (S' := S) am_e13 rfl rfl rfl rfl ?_
  refine w_st (i' := 4) (ls' := [.ref 24, .int p2, .int (nI 0), am_U]) (st' := [.int (nI 4)]) (E' := E) (I' := I) (J' := J) (S' := S) am_e13 rfl rfl rfl rfl ?_
  refine w_st (i' := 5) (ls' := [.ref 24, .int p2, .int (nI 0), .int (nI 4)]) (st' := []) (E' := E) (I' := I) (J' := J) (S' := S) am_e13 rfl rfl rfl rfl ?_
  exact h
theorem g13_5_24 {x1 : Int32} {x2 : Int32} {x3 : Int32} {E : am_Ev} {I : Nat → Nat → Int32} {J : Nat → Nat → Int64} {S : Nat → Nat → Option Nat} {Q : am_Qt}  (h : (x3 ≤ x2 → (Q (.inl none) E I J S)) ∧ (¬ x3 ≤ x2 → (vp_in x2 4 ∧ (am_ww 13 5 [.ref 24, .int x1, .int (x2 + nI 1), .int x3] [] E (u_I I 24 (upd (I 24) x2.toNatClampNeg x1)) J S Q)))) : am_ww 13 5 [.ref 24, .int x1, .int x2, .int x3] [] E I J S Q := by
  refine w_st (i' := 6) (ls' := [.ref 24, .int x1, .int x2, .int x3]) (st' := [.int x2]) (E' := E) (I' := I) (J' := J) (S' := S) am_e13 rfl rfl rfl rfl ?_
  refine w_st (i' := 7) (ls' := [.ref 24, .int x1, .int x2, .int x3]) (st' := [.int x3, .int x2]) (E' := E) (I' := I) (J' := J) (S' := S) am_e13 rfl rfl rfl rfl ?_
  refine w_if2 am_e13 rfl rfl (fun c => ?_) (fun c => ?_)
  · replace h := h.1 (of_decide_eq_true c)
    exact w_end am_e13 rfl rfl rfl h
  · replace h := h.2 (of_decide_eq_false c)
    refine w_st (i' := 9) (ls' := [.ref 24, .int x1, .int x2, .int x3]) (st' := [.ref 24]) (E' := E) (I' := I) (J' := J) (S' := S) am_e13 rfl rfl rfl rfl ?_
    refine w_st (i' := 10) (ls' := [.ref 24, .int x1, .int x2, .int x3]) (st' := [.int x2, .ref 24]) (E' := E) (I' := I) (J' := J) (S' := S) am_e13 rfl rfl rfl rfl ?_
    refine w_st (i' := 11) (ls' := [.ref 24, .int x1, .int x2, .int x3]) (st' := [.int x1, .int x2, .ref 24]) (E' := E) (I' := I) (J' := J) (S' := S) am_e13 rfl rfl rfl rfl ?_
    have hf1 := h.1
    replace h := h.2
    refine w_is (k := 24) (n := 4) (jn := x2.toNatClampNeg) am_e13 rfl rfl (by decide) hf1 rfl ?_
    show am_ww 13 12 [.ref 24, .int x1, .int x2, .int x3] [] E (u_I I 24 (upd (I 24) x2.toNatClampNeg x1)) J S _
    refine w_st (i' := 13) (ls' := [.ref 24, .int x1, .int (x2 + nI 1), .int x3]) (st' := []) (E' := E) (I' := (u_I I 24 (upd (I 24) x2.toNatClampNeg x1))) (J' := J) (S' := S) am_e13 rfl rfl rfl rfl ?_
    refine w_st (i' := 5) (ls' := [.ref 24, .int x1, .int (x2 + nI 1), .int x3]) (st' := []) (E' := E) (I' := (u_I I 24 (upd (I 24) x2.toNatClampNeg x1))) (J' := J) (S' := S) am_e13 rfl rfl rfl rfl ?_
    exact h
-- 13 fill
theorem g13_0_25 {p2 : Int32} {E : am_Ev} {I : Nat → Nat → Int32} {J : Nat → Nat → Int64} {S : Nat → Nat → Option Nat} {Q : am_Qt}  (h : am_ww 13 5 [.ref 25, .int p2, .int (nI 0), .int (nI 4)] [] E I J S Q) : am_ww 13 0 [.ref 25, .int p2, am_U, am_U] [] E I J S Q := by
  refine w_st (i' := 1) (ls' := [.ref 25, .int p2, am_U, am_U]) (st' := [.int (nI 0)]) (E' := E) (I' := I) (J' := J) (S' := S) am_e13 rfl rfl rfl rfl ?_
  refine w_st (i' := 2) (ls' := [.ref 25, .int p2, .int (nI 0), am_U]) (st' := []) (E' := E) (I' := I) (J' := J) (S' := S) am_e13 rfl rfl rfl rfl ?_
  refine w_st (i' := 3) (ls' := [.ref 25, .int p2, .int (nI 0), am_U]) (st' := [.ref 25]) (E' := E) (I' := I) (J' := J) (S' := S) am_e13 rfl rfl rfl rfl ?_
  refine w_st (i' := 4) (ls' := [.ref 25, .int p2, .int (nI 0), am_U]) (st' := [.int (nI 4)]) (E' := E) (I' := I) (J' := J) (S' := S) am_e13 rfl rfl rfl rfl ?_
  refine w_st (i' := 5) (ls' := [.ref 25, .int p2, .int (nI 0), .int (nI 4)]) (st' := []) (E' := E) (I' := I) (J' := J) (S' := S) am_e13 rfl rfl rfl rfl ?_
  exact h
theorem g13_5_25 {x1 : Int32} {x2 : Int32} {x3 : Int32} {E : am_Ev} {I : Nat → Nat → Int32} {J : Nat → Nat → Int64} {S : Nat → Nat → Option Nat} {Q : am_Qt}  (h : (x3 ≤ x2 → (Q (.inl none) E I J S)) ∧ (¬ x3 ≤ x2 → (vp_in x2 4 ∧ (am_ww 13 5 [.ref 25, .int x1, .int (x2 + nI 1), .int x3] [] E (u_I I 25 (upd (I 25) x2.toNatClampNeg x1)) J S Q)))) : am_ww 13 5 [.ref 25, .int x1, .int x2, .int x3] [] E I J S Q := by
  refine w_st (i' := 6) (ls' := [.ref 25, .int x1, .int x2, .int x3]) (st' := [.int x2]) (E' := E) (I' := I) (J' := J) (S' := S) am_e13 rfl rfl rfl rfl ?_
  refine w_st (i' := 7) (ls' := [.ref 25, .int x1, .int x2, .int x3]) (st' := [.int x3, .int x2]) (E' := E) (I' := I) (J' := J) (S' := S) am_e13 rfl rfl rfl rfl ?_
  refine w_if2 am_e13 rfl rfl (fun c => ?_) (fun c => ?_)
  · replace h := h.1 (of_decide_eq_true c)
    exact w_end am_e13 rfl rfl rfl h
  · replace h := h.2 (of_decide_eq_false c)
    refine w_st (i' := 9) (ls' := [.ref 25, .int x1, .int x2, .int x3]) (st' := [.ref 25]) (E' := E) (I' := I) (J' := J) (S' := S) am_e13 rfl rfl rfl rfl ?_
    refine w_st (i' := 10) (ls' := [.ref 25, .int x1, .int x2, .int x3]) (st' := [.int x2, .ref 25]) (E' := E) (I' := I) (J' := J) (S' := S) am_e13 rfl rfl rfl rfl ?_
    refine w_st (i' := 11) (ls' := [.ref 25, .int x1, .int x2, .int x3]) (st' := [.int x1, .int x2, .ref 25]) (E' := E) (I' := I) (J' := J) (S' := S) am_e13 rfl rfl rfl rfl ?_
    have hf1 := h.1
    replace h := h.2
    refine w_is (k := 25) (n := 4) (jn := x2.toNatClampNeg) am_e13 rfl rfl (by decide) hf1 rfl ?_
    show am_ww 13 12 [.ref 25, .int x1, .int x2, .int x3] [] E (u_I I 25 (upd (I 25) x2.toNatClampNeg x1)) J S _
    refine w_st (i' := 13) (ls' := [.ref 25, .int x1, .int (x2 + nI 1), .int x3]) (st' := []) (E' := E) (I' := (u_I I 25 (upd (I 25) x2.toNatClampNeg x1))) (J' := J) (S' := S) am_e13 rfl rfl rfl rfl ?_
    refine w_st (i' := 5) (ls' := [.ref 25, .int x1, .int (x2 + nI 1), .int x3]) (st' := []) (E' := E) (I' := (u_I I 25 (upd (I 25) x2.toNatClampNeg x1))) (J' := J) (S' := S) am_e13 rfl rfl rfl rfl ?_
    exact h
-- 13 fill
theorem g13_0_26 {p2 : Int32} {E : am_Ev} {I : Nat → Nat → Int32} {J : Nat → Nat → Int64} {S : Nat → Nat → Option Nat} {Q : am_Qt}  (h : am_ww 13 5 [.ref 26, .int p2, .int (nI 0), .int (nI 3)] [] E I J S Q) : am_ww 13 0 [.ref 26, .int p2, am_U, am_U] [] E I J S Q := by
  refine w_st (i' := 1) (ls' := [.ref 26, .int p2, am_U, am_U]) (st' := [.int (nI 0)]) (E' := E) (I' := I) (J' := J) (S' := S) am_e13 rfl rfl rfl rfl ?_
  refine w_st (i' := 2) (ls' := [.ref 26, .int p2, .int (nI 0), am_U]) (st' := []) (E' := E) (I' := I) (J' := J) (S' := S) am_e13 rfl rfl rfl rfl ?_
  refine w_st (i' := 3) (ls' := [.ref 26, .int p2, .int (nI 0), am_U]) (st' := [.ref 26]) (E' := E) (I' := I) (J' := J) (S' := S) am_e13 rfl rfl rfl rfl ?_
  refine w_st (i' := 4) (ls' := [.ref 26, .int p2, .int (nI 0), am_U]) (st' := [.int (nI 3)]) (E' := E) (I' := I) (J' := J) (S' := S) am_e13 rfl rfl rfl rfl ?_
  refine w_st (i' := 5) (ls' := [.ref 26, .int p2, .int (nI 0), .int (nI 3)]) (st' := []) (E' := E) (I' := I) (J' := J) (S' := S) am_e13 rfl rfl rfl rfl ?_
  exact h
theorem g13_5_26 {x1 : Int32} {x2 : Int32} {x3 : Int32} {E : am_Ev} {I : Nat → Nat → Int32} {J : Nat → Nat → Int64} {S : Nat → Nat → Option Nat} {Q : am_Qt}  (h : (x3 ≤ x2 → (Q (.inl none) E I J S)) ∧ (¬ x3 ≤ x2 → (vp_in x2 3 ∧ (am_ww 13 5 [.ref 26, .int x1, .int (x2 + nI 1), .int x3] [] E (u_I I 26 (upd (I 26) x2.toNatClampNeg x1)) J S Q)))) : am_ww 13 5 [.ref 26, .int x1, .int x2, .int x3] [] E I J S Q := by
  refine w_st (i' := 6) (ls' := [.ref 26, .int x1, .int x2, .int x3]) (st' := [.int x2]) (E' := E) (I' := I) (J' := J) (S' := S) am_e13 rfl rfl rfl rfl ?_
  refine w_st (i' := 7) (ls' := [.ref 26, .int x1, .int x2, .int x3]) (st' := [.int x3, .int x2]) (E' := E) (I' := I) (J' := J) (S' := S) am_e13 rfl rfl rfl rfl ?_
  refine w_if2 am_e13 rfl rfl (fun c => ?_) (fun c => ?_)
  · replace h := h.1 (of_decide_eq_true c)
    exact w_end am_e13 rfl rfl rfl h
  · replace h := h.2 (of_decide_eq_false c)
    refine w_st (i' := 9) (ls' := [.ref 26, .int x1, .int x2, .int x3]) (st' := [.ref 26]) (E' := E) (I' := I) (J' := J) (S' := S) am_e13 rfl rfl rfl rfl ?_
    refine w_st (i' := 10) (ls' := [.ref 26, .int x1, .int x2, .int x3]) (st' := [.int x2, .ref 26]) (E' := E) (I' := I) (J' := J) (S' := S) am_e13 rfl rfl rfl rfl ?_
    refine w_st (i' := 11) (ls' := [.ref 26, .int x1, .int x2, .int x3]) (st' := [.int x1, .int x2, .ref 26]) (E' := E) (I' := I) (J' := J) (S' := S) am_e13 rfl rfl rfl rfl ?_
    have hf1 := h.1
    replace h := h.2
    refine w_is (k := 26) (n := 3) (jn := x2.toNatClampNeg) am_e13 rfl rfl (by decide) hf1 rfl ?_
    show am_ww 13 12 [.ref 26, .int x1, .int x2, .int x3] [] E (u_I I 26 (upd (I 26) x2.toNatClampNeg x1)) J S _
    refine w_st (i' := 13) (ls' := [.ref 26, .int x1, .int (x2 + nI 1), .int x3]) (st' := []) (E' := E) (I' := (u_I I 26 (upd (I 26) x2.toNatClampNeg x1))) (J' := J) (S' := S) am_e13 rfl rfl rfl rfl ?_
    refine w_st (i' := 5) (ls' := [.ref 26, .int x1, .int (x2 + nI 1), .int x3]) (st' := []) (E' := E) (I' := (u_I I 26 (upd (I 26) x2.toNatClampNeg x1))) (J' := J) (S' := S) am_e13 rfl rfl rfl rfl ?_
    exact h
-- 13 fill
theorem g13_0_28 {p2 : Int32} {E : am_Ev} {I : Nat → Nat → Int32} {J : Nat → Nat → Int64} {S : Nat → Nat → Option Nat} {Q : am_Qt}  (h : am_ww 13 5 [.ref 28, .int p2, .int (nI 0), .int (nI 3)] [] E I J S Q) : am_ww 13 0 [.ref 28, .int p2, am_U, am_U] [] E I J S Q := by
  refine w_st (i' := 1) (ls' := [.ref 28, .int p2, am_U, am_U]) (st' := [.int (nI 0)]) (E' := E) (I' := I) (J' := J) (S' := S) am_e13 rfl rfl rfl rfl ?_
  refine w_st (i' := 2) (ls' := [.ref 28, .int p2, .int (nI 0), am_U]) (st' := []) (E' := E) (I' := I) (J' := J) (S' := S) am_e13 rfl rfl rfl rfl ?_
  refine w_st (i' := 3) (ls' := [.ref 28, .int p2, .int (nI 0), am_U]) (st' := [.ref 28]) (E' := E) (I' := I) (J' := J) (S' := S) am_e13 rfl rfl rfl rfl ?_
  refine w_st (i' := 4) (ls' := [.ref 28, .int p2, .int (nI 0), am_U]) (st' := [.int (nI 3)]) (E' := E) (I' := I) (J' := J) (S' := S) am_e13 rfl rfl rfl rfl ?_
  refine w_st (i' := 5) (ls' := [.ref 28, .int p2, .int (nI 0), .int (nI 3)]) (st' := []) (E' := E) (I' := I) (J' := J) (S' := S) am_e13 rfl rfl rfl rfl ?_
  exact h
theorem g13_5_28 {x1 : Int32} {x2 : Int32} {x3 : Int32} {E : am_Ev} {I : Nat → Nat → Int32} {J : Nat → Nat → Int64} {S : Nat → Nat → Option Nat} {Q : am_Qt}  (h : (x3 ≤ x2 → (Q (.inl none) E I J S)) ∧ (¬ x3 ≤ x2 → (vp_in x2 3 ∧ (am_ww 13 5 [.ref 28, .int x1, .int (x2 + nI 1), .int x3] [] E (u_I I 28 (upd (I 28) x2.toNatClampNeg x1)) J S Q)))) : am_ww 13 5 [.ref 28, .int x1, .int x2, .int x3] [] E I J S Q := by
  refine w_st (i' := 6) (ls' := [.ref 28, .int x1, .int x2, .int x3]) (st' := [.int x2]) (E' := E) (I' := I) (J' := J) (S' := S) am_e13 rfl rfl rfl rfl ?_
  refine w_st (i' := 7) (ls' := [.ref 28, .int x1, .int x2, .int x3]) (st' := [.int x3, .int x2]) (E' := E) (I' := I) (J' := J) (S' := S) am_e13 rfl rfl rfl rfl ?_
  refine w_if2 am_e13 rfl rfl (fun c => ?_) (fun c => ?_)
  · replace h := h.1 (of_decide_eq_true c)
    exact w_end am_e13 rfl rfl rfl h
  · replace h := h.2 (of_decide_eq_false c)
    refine w_st (i' := 9) (ls' := [.ref 28, .int x1, .int x2, .int x3]) (st' := [.ref 28]) (E' := E) (I' := I) (J' := J) (S' := S) am_e13 rfl rfl rfl rfl ?_
    refine w_st (i' := 10) (ls' := [.ref 28, .int x1, .int x2, .int x3]) (st' := [.int x2, .ref 28]) (E' := E) (I' := I) (J' := J) (S' := S) am_e13 rfl rfl rfl rfl ?_
    refine w_st (i' := 11) (ls' := [.ref 28, .int x1, .int x2, .int x3]) (st' := [.int x1, .int x2, .ref 28]) (E' := E) (I' := I) (J' := J) (S' := S) am_e13 rfl rfl rfl rfl ?_
    have hf1 := h.1
    replace h := h.2
    refine w_is (k := 28) (n := 3) (jn := x2.toNatClampNeg) am_e13 rfl rfl (by decide) hf1 rfl ?_
    show am_ww 13 12 [.ref 28, .int x1, .int x2, .int x3] [] E (u_I I 28 (upd (I 28) x2.toNatClampNeg x1)) J S _
    refine w_st (i' := 13) (ls' := [.ref 28, .int x1, .int (x2 + nI 1), .int x3]) (st' := []) (E' := E) (I' := (u_I I 28 (upd (I 28) x2.toNatClampNeg x1))) (J' := J) (S' := S) am_e13 rfl rfl rfl rfl ?_
    refine w_st (i' := 5) (ls' := [.ref 28, .int x1, .int (x2 + nI 1), .int x3]) (st' := []) (E' := E) (I' := (u_I I 28 (upd (I 28) x2.toNatClampNeg x1))) (J' := J) (S' := S) am_e13 rfl rfl rfl rfl ?_
    exact h
-- 13 fill
theorem g13_0_63 {p2 : Int32} {E : am_Ev} {I : Nat → Nat → Int32} {J : Nat → Nat → Int64} {S : Nat → Nat → Option Nat} {Q : am_Qt}  (h : am_ww 13 5 [.ref 63, .int p2, .int (nI 0), .int (nI 16)] [] E I J S Q) : am_ww 13 0 [.ref 63, .int p2, am_U, am_U] [] E I J S Q := by
  refine w_st (i' := 1) (ls' := [.ref 63, .int p2, am_U, am_U]) (st' := [.int (nI 0)]) (E' := E) (I' := I) (J' := J) (S' := S) am_e13 rfl rfl rfl rfl ?_
  refine w_st (i' := 2) (ls' := [.ref 63, .int p2, .int (nI 0), am_U]) (st' := []) (E' := E) (I' := I) (J' := J) (S' := S) am_e13 rfl rfl rfl rfl ?_
  refine w_st (i' := 3) (ls' := [.ref 63, .int p2, .int (nI 0), am_U]) (st' := [.ref 63]) (E' := E) (I' := I) (J' := J) (S' := S) am_e13 rfl rfl rfl rfl ?_
  refine w_st (i' := 4) (ls' := [.ref 63, .int p2, .int (nI 0), am_U]) (st' := [.int (nI 16)]) (E' := E) (I' := I) (J' := J) (S' := S) am_e13 rfl rfl rfl rfl ?_
  refine w_st (i' := 5) (ls' := [.ref 63, .int p2, .int (nI 0), .int (nI 16)]) (st' := []) (E' := E) (I' := I) (J' := J) (S' := S) am_e13 rfl rfl rfl rfl ?_
  exact h
theorem g13_5_63 {x1 : Int32} {x2 : Int32} {x3 : Int32} {E : am_Ev} {I : Nat → Nat → Int32} {J : Nat → Nat → Int64} {S : Nat → Nat → Option Nat} {Q : am_Qt}  (h : (x3 ≤ x2 → (Q (.inl none) E I J S)) ∧ (¬ x3 ≤ x2 → (vp_in x2 16 ∧ (am_ww 13 5 [.ref 63, .int x1, .int (x2 + nI 1), .int x3] [] E (u_I I 63 (upd (I 63) x2.toNatClampNeg x1)) J S Q)))) : am_ww 13 5 [.ref 63, .int x1, .int x2, .int x3] [] E I J S Q := by
  refine w_st (i' := 6) (ls' := [.ref 63, .int x1, .int x2, .int x3]) (st' := [.int x2]) (E' := E) (I' := I) (J' := J) (S' := S) am_e13 rfl rfl rfl rfl ?_
  refine w_st (i' := 7) (ls' := [.ref 63, .int x1, .int x2, .int x3]) (st' := [.int x3, .int x2]) (E' := E) (I' := I) (J' := J) (S' := S) am_e13 rfl rfl rfl rfl ?_
  refine w_if2 am_e13 rfl rfl (fun c => ?_) (fun c => ?_)
  · replace h := h.1 (of_decide_eq_true c)
    exact w_end am_e13 rfl rfl rfl h
  · replace h := h.2 (of_decide_eq_false c)
    refine w_st (i' := 9) (ls' := [.ref 63, .int x1, .int x2, .int x3]) (st' := [.ref 63]) (E' := E) (I' := I) (J' := J) (S' := S) am_e13 rfl rfl rfl rfl ?_
    refine w_st (i' := 10) (ls' := [.ref 63, .int x1, .int x2, .int x3]) (st' := [.int x2, .ref 63]) (E' := E) (I' := I) (J' := J) (S' := S) am_e13 rfl rfl rfl rfl ?_
    refine w_st (i' := 11) (ls' := [.ref 63, .int x1, .int x2, .int x3]) (st' := [.int x1, .int x2, .ref 63]) (E' := E) (I' := I) (J' := J) (S' := S) am_e13 rfl rfl rfl rfl ?_
    have hf1 := h.1
    replace h := h.2
    refine w_is (k := 63) (n := 16) (jn := x2.toNatClampNeg) am_e13 rfl rfl (by decide) hf1 rfl ?_
    show am_ww 13 12 [.ref 63, .int x1, .int x2, .int x3] [] E (u_I I 63 (upd (I 63) x2.toNatClampNeg x1)) J S _
    refine w_st (i' := 13) (ls' := [.ref 63, .int x1, .int (x2 + nI 1), .int x3]) (st' := []) (E' := E) (I' := (u_I I 63 (upd (I 63) x2.toNatClampNeg x1))) (J' := J) (S' := S) am_e13 rfl rfl rfl rfl ?_
    refine w_st (i' := 5) (ls' := [.ref 63, .int x1, .int (x2 + nI 1), .int x3]) (st' := []) (E' := E) (I' := (u_I I 63 (upd (I 63) x2.toNatClampNeg x1))) (J' := J) (S' := S) am_e13 rfl rfl rfl rfl ?_
    exact h
-- 13 fill
theorem g13_0_64 {p2 : Int32} {E : am_Ev} {I : Nat → Nat → Int32} {J : Nat → Nat → Int64} {S : Nat → Nat → Option Nat} {Q : am_Qt}  (h : am_ww 13 5 [.ref 64, .int p2, .int (nI 0), .int (nI 4)] [] E I J S Q) : am_ww 13 0 [.ref 64, .int p2, am_U, am_U] [] E I J S Q := by
  refine w_st (i' := 1) (ls' := [.ref 64, .int p2, am_U, am_U]) (st' := [.int (nI 0)]) (E' := E) (I' := I) (J' := J) (S' := S) am_e13 rfl rfl rfl rfl ?_
  refine w_st (i' := 2) (ls' := [.ref 64, .int p2, .int (nI 0), am_U]) (st' := []) (E' := E) (I' := I) (J' := J) (S' := S) am_e13 rfl rfl rfl rfl ?_
  refine w_st (i' := 3) (ls' := [.ref 64, .int p2, .int (nI 0), am_U]) (st' := [.ref 64]) (E' := E) (I' := I) (J' := J) (S' := S) am_e13 rfl rfl rfl rfl ?_
  refine w_st (i' := 4) (ls' := [.ref 64, .int p2, .int (nI 0), am_U]) (st' := [.int (nI 4)]) (E' := E) (I' := I) (J' := J) (S' := S) am_e13 rfl rfl rfl rfl ?_
  refine w_st (i' := 5) (ls' := [.ref 64, .int p2, .int (nI 0), .int (nI 4)]) (st' := []) (E' := E) (I' := I) (J' := J) (S' := S) am_e13 rfl rfl rfl rfl ?_
  exact h
theorem g13_5_64 {x1 : Int32} {x2 : Int32} {x3 : Int32} {E : am_Ev} {I : Nat → Nat → Int32} {J : Nat → Nat → Int64} {S : Nat → Nat → Option Nat} {Q : am_Qt}  (h : (x3 ≤ x2 → (Q (.inl none) E I J S)) ∧ (¬ x3 ≤ x2 → (vp_in x2 4 ∧ (am_ww 13 5 [.ref 64, .int x1, .int (x2 + nI 1), .int x3] [] E (u_I I 64 (upd (I 64) x2.toNatClampNeg x1)) J S Q)))) : am_ww 13 5 [.ref 64, .int x1, .int x2, .int x3] [] E I J S Q := by
  refine w_st (i' := 6) (ls' := [.ref 64, .int x1, .int x2, .int x3]) (st' := [.int x2]) (E' := E) (I' := I) (J' := J) (S' := S) am_e13 rfl rfl rfl rfl ?_
  refine w_st (i' := 7) (ls' := [.ref 64, .int x1, .int x2, .int x3]) (st' := [.int x3, .int x2]) (E' := E) (I' := I) (J' := J) (S' := S) am_e13 rfl rfl rfl rfl ?_
  refine w_if2 am_e13 rfl rfl (fun c => ?_) (fun c => ?_)
  · replace h := h.1 (of_decide_eq_true c)
    exact w_end am_e13 rfl rfl rfl h
  · replace h := h.2 (of_decide_eq_false c)
    refine w_st (i' := 9) (ls' := [.ref 64, .int x1, .int x2, .int x3]) (st' := [.ref 64]) (E' := E) (I' := I) (J' := J) (S' := S) am_e13 rfl rfl rfl rfl ?_
    refine w_st (i' := 10) (ls' := [.ref 64, .int x1, .int x2, .int x3]) (st' := [.int x2, .ref 64]) (E' := E) (I' := I) (J' := J) (S' := S) am_e13 rfl rfl rfl rfl ?_
    refine w_st (i' := 11) (ls' := [.ref 64, .int x1, .int x2, .int x3]) (st' := [.int x1, .int x2, .ref 64]) (E' := E) (I' := I) (J' := J) (S' := S) am_e13 rfl rfl rfl rfl ?_
    have hf1 := h.1
    replace h := h.2
    refine w_is (k := 64) (n := 4) (jn := x2.toNatClampNeg) am_e13 rfl rfl (by decide) hf1 rfl ?_
    show am_ww 13 12 [.ref 64, .int x1, .int x2, .int x3] [] E (u_I I 64 (upd (I 64) x2.toNatClampNeg x1)) J S _
    refine w_st (i' := 13) (ls' := [.ref 64, .int x1, .int (x2 + nI 1), .int x3]) (st' := []) (E' := E) (I' := (u_I I 64 (upd (I 64) x2.toNatClampNeg x1))) (J' := J) (S' := S) am_e13 rfl rfl rfl rfl ?_
    refine w_st (i' := 5) (ls' := [.ref 64, .int x1, .int (x2 + nI 1), .int x3]) (st' := []) (E' := E) (I' := (u_I I 64 (upd (I 64) x2.toNatClampNeg x1))) (J' := J) (S' := S) am_e13 rfl rfl rfl rfl ?_
    exact h
-- 13 fill
theorem g13_0_65 {p2 : Int32} {E : am_Ev} {I : Nat → Nat → Int32} {J : Nat → Nat → Int64} {S : Nat → Nat → Option Nat} {Q : am_Qt}  (h : am_ww 13 5 [.ref 65, .int p2, .int (nI 0), .int (nI 4)] [] E I J S Q) : am_ww 13 0 [.ref 65, .int p2, am_U, am_U] [] E I J S Q := by
  refine w_st (i' := 1) (ls' := [.ref 65, .int p2, am_U, am_U]) (st' := [.int (nI 0)]) (E' := E) (I' := I) (J' := J) (S' := S) am_e13 rfl rfl rfl rfl ?_
  refine w_st (i' := 2) (ls' := [.ref 65, .int p2, .int (nI 0), am_U]) (st' := []) (E' := E) (I' := I) (J' := J) (S' := S) am_e13 rfl rfl rfl rfl ?_
  refine w_st (i' := 3) (ls' := [.ref 65, .int p2, .int (nI 0), am_U]) (st' := [.ref 65]) (E' := E) (I' := I) (J' := J) (S' := S) am_e13 rfl rfl rfl rfl ?_
  refine w_st (i' := 4) (ls' := [.ref 65, .int p2, .int (nI 0), am_U]) (st' := [.int (nI 4)]) (E' := E) (I' := I) (J' := J) (S' := S) am_e13 rfl rfl rfl rfl ?_
  refine w_st (i' := 5) (ls' := [.ref 65, .int p2, .int (nI 0), .int (nI 4)]) (st' := []) (E' := E) (I' := I) (J' := J) (S' := S) am_e13 rfl rfl rfl rfl ?_
  exact h
theorem g13_5_65 {x1 : Int32} {x2 : Int32} {x3 : Int32} {E : am_Ev} {I : Nat → Nat → Int32} {J : Nat → Nat → Int64} {S : Nat → Nat → Option Nat} {Q : am_Qt}  (h : (x3 ≤ x2 → (Q (.inl none) E I J S)) ∧ (¬ x3 ≤ x2 → (vp_in x2 4 ∧ (am_ww 13 5 [.ref 65, .int x1, .int (x2 + nI 1), .int x3] [] E (u_I I 65 (upd (I 65) x2.toNatClampNeg x1)) J S Q)))) : am_ww 13 5 [.ref 65, .int x1, .int x2, .int x3] [] E I J S Q := by
  refine w_st (i' := 6) (ls' := [.ref 65, .int x1, .int x2, .int x3]) (st' := [.int x2]) (E' := E) (I' := I) (J' := J) (S' := S) am_e13 rfl rfl rfl rfl ?_
  refine w_st (i' := 7) (ls' := [.ref 65, .int x1, .int x2, .int x3]) (st' := [.int x3, .int x2]) (E' := E) (I' := I) (J' := J) (S' := S) am_e13 rfl rfl rfl rfl ?_
  refine w_if2 am_e13 rfl rfl (fun c => ?_) (fun c => ?_)
  · replace h := h.1 (of_decide_eq_true c)
    exact w_end am_e13 rfl rfl rfl h
  · replace h := h.2 (of_decide_eq_false c)
    refine w_st (i' := 9) (ls' := [.ref 65, .int x1, .int x2, .int x3]) (st' := [.ref 65]) (E' := E) (I' := I) (J' := J) (S' := S) am_e13 rfl rfl rfl rfl ?_
    refine w_st (i' := 10) (ls' := [.ref 65, .int x1, .int x2, .int x3]) (st' := [.int x2, .ref 65]) (E' := E) (I' := I) (J' := J) (S' := S) am_e13 rfl rfl rfl rfl ?_
    refine w_st (i' := 11) (ls' := [.ref 65, .int x1, .int x2, .int x3]) (st' := [.int x1, .int x2, .ref 65]) (E' := E) (I' := I) (J' := J) (S' := S) am_e13 rfl rfl rfl rfl ?_
    have hf1 := h.1
    replace h := h.2
    refine w_is (k := 65) (n := 4) (jn := x2.toNatClampNeg) am_e13 rfl rfl (by decide) hf1 rfl ?_
    show am_ww 13 12 [.ref 65, .int x1, .int x2, .int x3] [] E (u_I I 65 (upd (I 65) x2.toNatClampNeg x1)) J S _
    refine w_st (i' := 13) (ls' := [.ref 65, .int x1, .int (x2 + nI 1), .int x3]) (st' := []) (E' := E) (I' := (u_I I 65 (upd (I 65) x2.toNatClampNeg x1))) (J' := J) (S' := S) am_e13 rfl rfl rfl rfl ?_
    refine w_st (i' := 5) (ls' := [.ref 65, .int x1, .int (x2 + nI 1), .int x3]) (st' := []) (E' := E) (I' := (u_I I 65 (upd (I 65) x2.toNatClampNeg x1))) (J' := J) (S' := S) am_e13 rfl rfl rfl rfl ?_
    exact h
-- 13 fill
theorem g13_0_66 {p2 : Int32} {E : am_Ev} {I : Nat → Nat → Int32} {J : Nat → Nat → Int64} {S : Nat → Nat → Option Nat} {Q : am_Qt}  (h : am_ww 13 5 [.ref 66, .int p2, .int (nI 0), .int (nI 4)] [] E I J S Q) : am_ww 13 0 [.ref 66, .int p2, am_U, am_U] [] E I J S Q := by
  refine w_st (i' := 1) (ls' := [.ref 66, .int p2, am_U, am_U]) (st' := [.int (nI 0)]) (E' := E) (I' := I) (J' := J) (S' := S) am_e13 rfl rfl rfl rfl ?_
  refine w_st (i' := 2) (ls' := [.ref 66, .int p2, .int (nI 0), am_U]) (st' := []) (E' := E) (I' := I) (J' := J) (S' := S) am_e13 rfl rfl rfl rfl ?_
  refine w_st (i' := 3) (ls' := [.ref 66, .int p2, .int (nI 0), am_U]) (st' := [.ref 66]) (E' := E) (I' := I) (J' := J) (S' := S) am_e13 rfl rfl rfl rfl ?_
  refine w_st (i' := 4) (ls' := [.ref 66, .int p2, .int (nI 0), am_U]) (st' := [.int (nI 4)]) (E' := E) (I' := I) (J' := J) (S' := S) am_e13 rfl rfl rfl rfl ?_
  refine w_st (i' := 5) (ls' := [.ref 66, .int p2, .int (nI 0), .int (nI 4)]) (st' := []) (E' := E) (I' := I) (J' := J) (S' := S) am_e13 rfl rfl rfl rfl ?_
  exact h
theorem g13_5_66 {x1 : Int32} {x2 : Int32} {x3 : Int32} {E : am_Ev} {I : Nat → Nat → Int32} {J : Nat → Nat → Int64} {S : Nat → Nat → Option Nat} {Q : am_Qt}  (h : (x3 ≤ x2 → (Q (.inl none) E I J S)) ∧ (¬ x3 ≤ x2 → (vp_in x2 4 ∧ (am_ww 13 5 [.ref 66, .int x1, .int (x2 + nI 1), .int x3] [] E (u_I I 66 (upd (I 66) x2.toNatClampNeg x1)) J S Q)))) : am_ww 13 5 [.ref 66, .int x1, .int x2, .int x3] [] E I J S Q := by
  refine w_st (i' := 6) (ls' := [.ref 66, .int x1, .int x2, .int x3]) (st' := [.int x2]) (E' := E) (I' := I) (J' := J) (S' := S) am_e13 rfl rfl rfl rfl ?_
  refine w_st (i' := 7) (ls' := [.ref 66, .int x1, .int x2, .int x3]) (st' := [.int x3, .int x2]) (E' := E) (I' := I) (J' := J) (S' := S) am_e13 rfl rfl rfl rfl ?_
  refine w_if2 am_e13 rfl rfl (fun c => ?_) (fun c => ?_)
  · replace h := h.1 (of_decide_eq_true c)
    exact w_end am_e13 rfl rfl rfl h
  · replace h := h.2 (of_decide_eq_false c)
    refine w_st (i' := 9) (ls' := [.ref 66, .int x1, .int x2, .int x3]) (st' := [.ref 66]) (E' := E) (I' := I) (J' := J) (S' := S) am_e13 rfl rfl rfl rfl ?_
    refine w_st (i' := 10) (ls' := [.ref 66, .int x1, .int x2, .int x3]) (st' := [.int x2, .ref 66]) (E' := E) (I' := I) (J' := J) (S' := S) am_e13 rfl rfl rfl rfl ?_
    refine w_st (i' := 11) (ls' := [.ref 66, .int x1, .int x2, .int x3]) (st' := [.int x1, .int x2, .ref 66]) (E' := E) (I' := I) (J' := J) (S' := S) am_e13 rfl rfl rfl rfl ?_
    have hf1 := h.1
    replace h := h.2
    refine w_is (k := 66) (n := 4) (jn := x2.toNatClampNeg) am_e13 rfl rfl (by decide) hf1 rfl ?_
    show am_ww 13 12 [.ref 66, .int x1, .int x2, .int x3] [] E (u_I I 66 (upd (I 66) x2.toNatClampNeg x1)) J S _
    refine w_st (i' := 13) (ls' := [.ref 66, .int x1, .int (x2 + nI 1), .int x3]) (st' := []) (E' := E) (I' := (u_I I 66 (upd (I 66) x2.toNatClampNeg x1))) (J' := J) (S' := S) am_e13 rfl rfl rfl rfl ?_
    refine w_st (i' := 5) (ls' := [.ref 66, .int x1, .int (x2 + nI 1), .int x3]) (st' := []) (E' := E) (I' := (u_I I 66 (upd (I 66) x2.toNatClampNeg x1))) (J' := J) (S' := S) am_e13 rfl rfl rfl rfl ?_
    exact h
-- 13 fill
theorem g13_0_67 {p2 : Int32} {E : am_Ev} {I : Nat → Nat → Int32} {J : Nat → Nat → Int64} {S : Nat → Nat → Option Nat} {Q : am_Qt}  (h : am_ww 13 5 [.ref 67, .int p2, .int (nI 0), .int (nI 3)] [] E I J S Q) : am_ww 13 0 [.ref 67, .int p2, am_U, am_U] [] E I J S Q := by
  refine w_st (i' := 1) (ls' := [.ref 67, .int p2, am_U, am_U]) (st' := [.int (nI 0)]) (E' := E) (I' := I) (J' := J) (S' := S) am_e13 rfl rfl rfl rfl ?_
  refine w_st (i' := 2) (ls' := [.ref 67, .int p2, .int (nI 0), am_U]) (st' := []) (E' := E) (I' := I) (J' := J) (S' := S) am_e13 rfl rfl rfl rfl ?_
  refine w_st (i' := 3) (ls' := [.ref 67, .int p2, .int (nI 0), am_U]) (st' := [.ref 67]) (E' := E) (I' := I) (J' := J) (S' := S) am_e13 rfl rfl rfl rfl ?_
  refine w_st (i' := 4) (ls' := [.ref 67, .int p2, .int (nI 0), am_U]) (st' := [.int (nI 3)]) (E' := E) (I' := I) (J' := J) (S' := S) am_e13 rfl rfl rfl rfl ?_
  refine w_st (i' := 5) (ls' := [.ref 67, .int p2, .int (nI 0), .int (nI 3)]) (st' := []) (E' := E) (I' := I) (J' := J) (S' := S) am_e13 rfl rfl rfl rfl ?_
  exact h
theorem g13_5_67 {x1 : Int32} {x2 : Int32} {x3 : Int32} {E : am_Ev} {I : Nat → Nat → Int32} {J : Nat → Nat → Int64} {S : Nat → Nat → Option Nat} {Q : am_Qt}  (h : (x3 ≤ x2 → (Q (.inl none) E I J S)) ∧ (¬ x3 ≤ x2 → (vp_in x2 3 ∧ (am_ww 13 5 [.ref 67, .int x1, .int (x2 + nI 1), .int x3] [] E (u_I I 67 (upd (I 67) x2.toNatClampNeg x1)) J S Q)))) : am_ww 13 5 [.ref 67, .int x1, .int x2, .int x3] [] E I J S Q := by
  refine w_st (i' := 6) (ls' := [.ref 67, .int x1, .int x2, .int x3]) (st' := [.int x2]) (E' := E) (I' := I) (J' := J) (S' := S) am_e13 rfl rfl rfl rfl ?_
  refine w_st (i' := 7) (ls' := [.ref 67, .int x1, .int x2, .int x3]) (st' := [.int x3, .int x2]) (E' := E) (I' := I) (J' := J) (S' := S) am_e13 rfl rfl rfl rfl ?_
  refine w_if2 am_e13 rfl rfl (fun c => ?_) (fun c => ?_)
  · replace h := h.1 (of_decide_eq_true c)
    exact w_end am_e13 rfl rfl rfl h
  · replace h := h.2 (of_decide_eq_false c)
    refine w_st (i' := 9) (ls' := [.ref 67, .int x1, .int x2, .int x3]) (st' := [.ref 67]) (E' := E) (I' := I) (J' := J) (S' := S) am_e13 rfl rfl rfl rfl ?_
    refine w_st (i' := 10) (ls' := [.ref 67, .int x1, .int x2, .int x3]) (st' := [.int x2, .ref 67]) (E' := E) (I' := I) (J' := J) (S' := S) am_e13 rfl rfl rfl rfl ?_
    refine w_st (i' := 11) (ls' := [.ref 67, .int x1, .int x2, .int x3]) (st' := [.int x1, .int x2, .ref 67]) (E' := E) (I' := I) (J' := J) (S' := S) am_e13 rfl rfl rfl rfl ?_
    have hf1 := h.1
    replace h := h.2
    refine w_is (k := 67) (n := 3) (jn := x2.toNatClampNeg) am_e13 rfl rfl (by decide) hf1 rfl ?_
    show am_ww 13 12 [.ref 67, .int x1, .int x2, .int x3] [] E (u_I I 67 (upd (I 67) x2.toNatClampNeg x1)) J S _
    refine w_st (i' := 13) (ls' := [.ref 67, .int x1, .int (x2 + nI 1), .int x3]) (st' := []) (E' := E) (I' := (u_I I 67 (upd (I 67) x2.toNatClampNeg x1))) (J' := J) (S' := S) am_e13 rfl rfl rfl rfl ?_
    refine w_st (i' := 5) (ls' := [.ref 67, .int x1, .int (x2 + nI 1), .int x3]) (st' := []) (E' := E) (I' := (u_I I 67 (upd (I 67) x2.toNatClampNeg x1))) (J' := J) (S' := S) am_e13 rfl rfl rfl rfl ?_
    exact h
-- 13 fill
theorem g13_0_71 {p2 : Int32} {E : am_Ev} {I : Nat → Nat → Int32} {J : Nat → Nat → Int64} {S : Nat → Nat → Option Nat} {Q : am_Qt}  (h : am_ww 13 5 [.ref 71, .int p2, .int (nI 0), .int (nI 16)] [] E I J S Q) : am_ww 13 0 [.ref 71, .int p2, am_U, am_U] [] E I J S Q := by
  refine w_st (i' := 1) (ls' := [.ref 71, .int p2, am_U, am_U]) (st' := [.int (nI 0)]) (E' := E) (I' := I) (J' := J) (S' := S) am_e13 rfl rfl rfl rfl ?_
  refine w_st (i' := 2) (ls' := [.ref 71, .int p2, .int (nI 0), am_U]) (st' := []) (E' := E) (I' := I) (J' := J) (S' := S) am_e13 rfl rfl rfl rfl ?_
  refine w_st (i' := 3) (ls' := [.ref 71, .int p2, .int (nI 0), am_U]) (st' := [.ref 71]) (E' := E) (I' := I) (J' := J) (S' := S) am_e13 rfl rfl rfl rfl ?_
  refine w_st (i' := 4) (ls' := [.ref 71, .int p2, .int (nI 0), am_U]) (st' := [.int (nI 16)]) (E' := E) (I' := I) (J' := J) (S' := S) am_e13 rfl rfl rfl rfl ?_
  refine w_st (i' := 5) (ls' := [.ref 71, .int p2, .int (nI 0), .int (nI 16)]) (st' := []) (E' := E) (I' := I) (J' := J) (S' := S) am_e13 rfl rfl rfl rfl ?_
  exact h
theorem g13_5_71 {x1 : Int32} {x2 : Int32} {x3 : Int32} {E : am_Ev} {I : Nat → Nat → Int32} {J : Nat → Nat → Int64} {S : Nat → Nat → Option Nat} {Q : am_Qt}  (h : (x3 ≤ x2 → (Q (.inl none) E I J S)) ∧ (¬ x3 ≤ x2 → (vp_in x2 16 ∧ (am_ww 13 5 [.ref 71, .int x1, .int (x2 + nI 1), .int x3] [] E (u_I I 71 (upd (I 71) x2.toNatClampNeg x1)) J S Q)))) : am_ww 13 5 [.ref 71, .int x1, .int x2, .int x3] [] E I J S Q := by
  refine w_st (i' := 6) (ls' := [.ref 71, .int x1, .int x2, .int x3]) (st' := [.int x2]) (E' := E) (I' := I) (J' := J) (S' := S) am_e13 rfl rfl rfl rfl ?_
  refine w_st (i' := 7) (ls' := [.ref 71, .int x1, .int x2, .int x3]) (st' := [.int x3, .int x2]) (E' := E) (I' := I) (J' := J) (S' := S) am_e13 rfl rfl rfl rfl ?_
  refine w_if2 am_e13 rfl rfl (fun c => ?_) (fun c => ?_)
  · replace h := h.1 (of_decide_eq_true c)
    exact w_end am_e13 rfl rfl rfl h
  · replace h := h.2 (of_decide_eq_false c)
    refine w_st (i' := 9) (ls' := [.ref 71, .int x1, .int x2, .int x3]) (st' := [.ref 71]) (E' := E) (I' := I) (J' := J) (S' := S) am_e13 rfl rfl rfl rfl ?_
    refine w_st (i' := 10) (ls' := [.ref 71, .int x1, .int x2, .int x3]) (st' := [.int x2, .ref 71]) (E' := E) (I' := I) (J' := J) (S' := S) am_e13 rfl rfl rfl rfl ?_
    refine w_st (i' := 11) (ls' := [.ref 71, .int x1, .int x2, .int x3]) (st' := [.int x1, .int x2, .ref 71]) (E' := E) (I' := I) (J' := J) (S' := S) am_e13 rfl rfl rfl rfl ?_
    have hf1 := h.1
    replace h := h.2
    refine w_is (k := 71) (n := 16) (jn := x2.toNatClampNeg) am_e13 rfl rfl (by decide) hf1 rfl ?_
    show am_ww 13 12 [.ref 71, .int x1, .int x2, .int x3] [] E (u_I I 71 (upd (I 71) x2.toNatClampNeg x1)) J S _
    refine w_st (i' := 13) (ls' := [.ref 71, .int x1, .int (x2 + nI 1), .int x3]) (st' := []) (E' := E) (I' := (u_I I 71 (upd (I 71) x2.toNatClampNeg x1))) (J' := J) (S' := S) am_e13 rfl rfl rfl rfl ?_
    refine w_st (i' := 5) (ls' := [.ref 71, .int x1, .int (x2 + nI 1), .int x3]) (st' := []) (E' := E) (I' := (u_I I 71 (upd (I 71) x2.toNatClampNeg x1))) (J' := J) (S' := S) am_e13 rfl rfl rfl rfl ?_
    exact h
-- 13 fill
theorem g13_0_72 {p2 : Int32} {E : am_Ev} {I : Nat → Nat → Int32} {J : Nat → Nat → Int64} {S : Nat → Nat → Option Nat} {Q : am_Qt}  (h : am_ww 13 5 [.ref 72, .int p2, .int (nI 0), .int (nI 4)] [] E I J S Q) : am_ww 13 0 [.ref 72, .int p2, am_U, am_U] [] E I J S Q := by
  refine w_st (i' := 1) (ls' := [.ref 72, .int p2, am_U, am_U]) (st' := [.int (nI 0)]) (E' := E) (I' := I) (J' := J) (S' := S) am_e13 rfl rfl rfl rfl ?_
  refine w_st (i' := 2) (ls' := [.ref 72, .int p2, .int (nI 0), am_U]) (st' := []) (E' := E) (I' := I) (J' := J) (S' := S) am_e13 rfl rfl rfl rfl ?_
  refine w_st (i' := 3) (ls' := [.ref 72, .int p2, .int (nI 0), am_U]) (st' := [.ref 72]) (E' := E) (I' := I) (J' := J) (S' := S) am_e13 rfl rfl rfl rfl ?_
  refine w_st (i' := 4) (ls' := [.ref 72, .int p2, .int (nI 0), am_U]) (st' := [.int (nI 4)]) (E' := E) (I' := I) (J' := J) (S' := S) am_e13 rfl rfl rfl rfl ?_
  refine w_st (i' := 5) (ls' := [.ref 72, .int p2, .int (nI 0), .int (nI 4)]) (st' := []) (E' := E) (I' := I) (J' := J) (S' := S) am_e13 rfl rfl rfl rfl ?_
  exact h
theorem g13_5_72 {x1 : Int32} {x2 : Int32} {x3 : Int32} {E : am_Ev} {I : Nat → Nat → Int32} {J : Nat → Nat → Int64} {S : Nat → Nat → Option Nat} {Q : am_Qt}  (h : (x3 ≤ x2 → (Q (.inl none) E I J S)) ∧ (¬ x3 ≤ x2 → (vp_in x2 4 ∧ (am_ww 13 5 [.ref 72, .int x1, .int (x2 + nI 1), .int x3] [] E (u_I I 72 (upd (I 72) x2.toNatClampNeg x1)) J S Q)))) : am_ww 13 5 [.ref 72, .int x1, .int x2, .int x3] [] E I J S Q := by
  refine w_st (i' := 6) (ls' := [.ref 72, .int x1, .int x2, .int x3]) (st' := [.int x2]) (E' := E) (I' := I) (J' := J) (S' := S) am_e13 rfl rfl rfl rfl ?_
  refine w_st (i' := 7) (ls' := [.ref 72, .int x1, .int x2, .int x3]) (st' := [.int x3, .int x2]) (E' := E) (I' := I) (J' := J) (S' := S) am_e13 rfl rfl rfl rfl ?_
  refine w_if2 am_e13 rfl rfl (fun c => ?_) (fun c => ?_)
  · replace h := h.1 (of_decide_eq_true c)
    exact w_end am_e13 rfl rfl rfl h
  · replace h := h.2 (of_decide_eq_false c)
    refine w_st (i' := 9) (ls' := [.ref 72, .int x1, .int x2, .int x3]) (st' := [.ref 72]) (E' := E) (I' := I) (J' := J) (S' := S) am_e13 rfl rfl rfl rfl ?_
    refine w_st (i' := 10) (ls' := [.ref 72, .int x1, .int x2, .int x3]) (st' := [.int x2, .ref 72]) (E' := E) (I' := I) (J' := J) (S' := S) am_e13 rfl rfl rfl rfl ?_
    refine w_st (i' := 11) (ls' := [.ref 72, .int x1, .int x2, .int x3]) (st' := [.int x1, .int x2, .ref 72]) (E' := E) (I' := I) (J' := J) (S' := S) am_e13 rfl rfl rfl rfl ?_
    have hf1 := h.1
    replace h := h.2
    refine w_is (k := 72) (n := 4) (jn := x2.toNatClampNeg) am_e13 rfl rfl (by decide) hf1 rfl ?_
    show am_ww 13 12 [.ref 72, .int x1, .int x2, .int x3] [] E (u_I I 72 (upd (I 72) x2.toNatClampNeg x1)) J S _
    refine w_st (i' := 13) (ls' := [.ref 72, .int x1, .int (x2 + nI 1), .int x3]) (st' := []) (E' := E) (I' := (u_I I 72 (upd (I 72) x2.toNatClampNeg x1))) (J' := J) (S' := S) am_e13 rfl rfl rfl rfl ?_
    refine w_st (i' := 5) (ls' := [.ref 72, .int x1, .int (x2 + nI 1), .int x3]) (st' := []) (E' := E) (I' := (u_I I 72 (upd (I 72) x2.toNatClampNeg x1))) (J' := J) (S' := S) am_e13 rfl rfl rfl rfl ?_
    exact h
-- 13 fill
theorem g13_0_73 {p2 : Int32} {E : am_Ev} {I : Nat → Nat → Int32} {J : Nat → Nat → Int64} {S : Nat → Nat → Option Nat} {Q : am_Qt}  (h : am_ww 13 5 [.ref 73, .int p2, .int (nI 0), .int (nI 4)] [] E I J S Q) : am_ww 13 0 [.ref 73, .int p2, am_U, am_U] [] E I J S Q := by
  refine w_st (i' := 1) (ls' := [.ref 73, .int p2, am_U, am_U]) (st' := [.int (nI 0)]) (E' := E) (I' := I) (J' := J) (S' := S) am_e13 rfl rfl rfl rfl ?_
  refine w_st (i' := 2) (ls' := [.ref 73, .int p2, .int (nI 0), am_U]) (st' := []) (E' := E) (I' := I) (J' := J) (S' := S) am_e13 rfl rfl rfl rfl ?_
  refine w_st (i' := 3) (ls' := [.ref 73, .int p2, .int (nI 0), am_U]) (st' := [.ref 73]) (E' := E) (I' := I) (J' := J) (S' := S) am_e13 rfl rfl rfl rfl ?_
  refine w_st (i' := 4) (ls' := [.ref 73, .int p2, .int (nI 0), am_U]) (st' := [.int (nI 4)]) (E' := E) (I' := I) (J' := J) (S' := S) am_e13 rfl rfl rfl rfl ?_
  refine w_st (i' := 5) (ls' := [.ref 73, .int p2, .int (nI 0), .int (nI 4)]) (st' := []) (E' := E) (I' := I) (J' := J) (S' := S) am_e13 rfl rfl rfl rfl ?_
  exact h
theorem g13_5_73 {x1 : Int32} {x2 : Int32} {x3 : Int32} {E : am_Ev} {I : Nat → Nat → Int32} {J : Nat → Nat → Int64} {S : Nat → Nat → Option Nat} {Q : am_Qt}  (h : (x3 ≤ x2 → (Q (.inl none) E I J S)) ∧ (¬ x3 ≤ x2 → (vp_in x2 4 ∧ (am_ww 13 5 [.ref 73, .int x1, .int (x2 + nI 1), .int x3] [] E (u_I I 73 (upd (I 73) x2.toNatClampNeg x1)) J S Q)))) : am_ww 13 5 [.ref 73, .int x1, .int x2, .int x3] [] E I J S Q := by
  refine w_st (i' := 6) (ls' := [.ref 73, .int x1, .int x2, .int x3]) (st' := [.int x2]) (E' := E) (I' := I) (J' := J) (S' := S) am_e13 rfl rfl rfl rfl ?_
  refine w_st (i' := 7) (ls' := [.ref 73, .int x1, .int x2, .int x3]) (st' := [.int x3, .int x2]) (E' := E) (I' := I) (J' := J) (S' := S) am_e13 rfl rfl rfl rfl ?_
  refine w_if2 am_e13 rfl rfl (fun c => ?_) (fun c => ?_)
  · replace h := h.1 (of_decide_eq_true c)
    exact w_end am_e13 rfl rfl rfl h
  · replace h := h.2 (of_decide_eq_false c)
    refine w_st (i' := 9) (ls' := [.ref 73, .int x1, .int x2, .int x3]) (st' := [.ref 73]) (E' := E) (I' := I) (J' := J) (S' := S) am_e13 rfl rfl rfl rfl ?_
    refine w_st (i' := 10) (ls' := [.ref 73, .int x1, .int x2, .int x3]) (st' := [.int x2, .ref 73]) (E' := E) (I' := I) (J' := J) (S' := S) am_e13 rfl rfl rfl rfl ?_
    refine w_st (i' := 11) (ls' := [.ref 73, .int x1, .int x2, .int x3]) (st' := [.int x1, .int x2, .ref 73]) (E' := E) (I' := I) (J' := J) (S' := S) am_e13 rfl rfl rfl rfl ?_
    have hf1 := h.1
    replace h := h.2
    refine w_is (k := 73) (n := 4) (jn := x2.toNatClampNeg) am_e13 rfl rfl (by decide) hf1 rfl ?_
    show am_ww 13 12 [.ref 73, .int x1, .int x2, .int x3] [] E (u_I I 73 (upd (I 73) x2.toNatClampNeg x1)) J S _
    refine w_st (i' := 13) (ls' := [.ref 73, .int x1, .int (x2 + nI 1), .int x3]) (st' := []) (E' := E) (I' := (u_I I 73 (upd (I 73) x2.toNatClampNeg x1))) (J' := J) (S' := S) am_e13 rfl rfl rfl rfl ?_
    refine w_st (i' := 5) (ls' := [.ref 73, .int x1, .int (x2 + nI 1), .int x3]) (st' := []) (E' := E) (I' := (u_I I 73 (upd (I 73) x2.toNatClampNeg x1))) (J' := J) (S' := S) am_e13 rfl rfl rfl rfl ?_
    exact h
-- 13 fill
theorem g13_0_74 {p2 : Int32} {E : am_Ev} {I : Nat → Nat → Int32} {J : Nat → Nat → Int64} {S : Nat → Nat → Option Nat} {Q : am_Qt}  (h : am_ww 13 5 [.ref 74, .int p2, .int (nI 0), .int (nI 4)] [] E I J S Q) : am_ww 13 0 [.ref 74, .int p2, am_U, am_U] [] E I J S Q := by
  refine w_st (i' := 1) (ls' := [.ref 74, .int p2, am_U, am_U]) (st' := [.int (nI 0)]) (E' := E) (I' := I) (J' := J) (S' := S) am_e13 rfl rfl rfl rfl ?_
  refine w_st (i' := 2) (ls' := [.ref 74, .int p2, .int (nI 0), am_U]) (st' := []) (E' := E) (I' := I) (J' := J) (S' := S) am_e13 rfl rfl rfl rfl ?_
  refine w_st (i' := 3) (ls' := [.ref 74, .int p2, .int (nI 0), am_U]) (st' := [.ref 74]) (E' := E) (I' := I) (J' := J) (S' := S) am_e13 rfl rfl rfl rfl ?_
  refine w_st (i' := 4) (ls' := [.ref 74, .int p2, .int (nI 0), am_U]) (st' := [.int (nI 4)]) (E' := E) (I' := I) (J' := J) (S' := S) am_e13 rfl rfl rfl rfl ?_
  refine w_st (i' := 5) (ls' := [.ref 74, .int p2, .int (nI 0), .int (nI 4)]) (st' := []) (E' := E) (I' := I) (J' := J) (S' := S) am_e13 rfl rfl rfl rfl ?_
  exact h
theorem g13_5_74 {x1 : Int32} {x2 : Int32} {x3 : Int32} {E : am_Ev} {I : Nat → Nat → Int32} {J : Nat → Nat → Int64} {S : Nat → Nat → Option Nat} {Q : am_Qt}  (h : (x3 ≤ x2 → (Q (.inl none) E I J S)) ∧ (¬ x3 ≤ x2 → (vp_in x2 4 ∧ (am_ww 13 5 [.ref 74, .int x1, .int (x2 + nI 1), .int x3] [] E (u_I I 74 (upd (I 74) x2.toNatClampNeg x1)) J S Q)))) : am_ww 13 5 [.ref 74, .int x1, .int x2, .int x3] [] E I J S Q := by
  refine w_st (i' := 6) (ls' := [.ref 74, .int x1, .int x2, .int x3]) (st' := [.int x2]) (E' := E) (I' := I) (J' := J) (S' := S) am_e13 rfl rfl rfl rfl ?_
  refine w_st (i' := 7) (ls' := [.ref 74, .int x1, .int x2, .int x3]) (st' := [.int x3, .int x2]) (E' := E) (I' := I) (J' := J) (S' := S) am_e13 rfl rfl rfl rfl ?_
  refine w_if2 am_e13 rfl rfl (fun c => ?_) (fun c => ?_)
  · replace h := h.1 (of_decide_eq_true c)
    exact w_end am_e13 rfl rfl rfl h
  · replace h := h.2 (of_decide_eq_false c)
    refine w_st (i' := 9) (ls' := [.ref 74, .int x1, .int x2, .int x3]) (st' := [.ref 74]) (E' := E) (I' := I) (J' := J) (S' := S) am_e13 rfl rfl rfl rfl ?_
    refine w_st (i' := 10) (ls' := [.ref 74, .int x1, .int x2, .int x3]) (st' := [.int x2, .ref 74]) (E' := E) (I' := I) (J' := J) (S' := S) am_e13 rfl rfl rfl rfl ?_
    refine w_st (i' := 11) (ls' := [.ref 74, .int x1, .int x2, .int x3]) (st' := [.int x1, .int x2, .ref 74]) (E' := E) (I' := I) (J' := J) (S' := S) am_e13 rfl rfl rfl rfl ?_
    have hf1 := h.1
    replace h := h.2
    refine w_is (k := 74) (n := 4) (jn := x2.toNatClampNeg) am_e13 rfl rfl (by decide) hf1 rfl ?_
    show am_ww 13 12 [.ref 74, .int x1, .int x2, .int x3] [] E (u_I I 74 (upd (I 74) x2.toNatClampNeg x1)) J S _
    refine w_st (i' := 13) (ls' := [.ref 74, .int x1, .int (x2 + nI 1), .int x3]) (st' := []) (E' := E) (I' := (u_I I 74 (upd (I 74) x2.toNatClampNeg x1))) (J' := J) (S' := S) am_e13 rfl rfl rfl rfl ?_
    refine w_st (i' := 5) (ls' := [.ref 74, .int x1, .int (x2 + nI 1), .int x3]) (st' := []) (E' := E) (I' := (u_I I 74 (upd (I 74) x2.toNatClampNeg x1))) (J' := J) (S' := S) am_e13 rfl rfl rfl rfl ?_
    exact h
-- 13 fill
theorem g13_0_75 {p2 : Int32} {E : am_Ev} {I : Nat → Nat → Int32} {J : Nat → Nat → Int64} {S : Nat → Nat → Option Nat} {Q : am_Qt}  (h : am_ww 13 5 [.ref 75, .int p2, .int (nI 0), .int (nI 3)] [] E I J S Q) : am_ww 13 0 [.ref 75, .int p2, am_U, am_U] [] E I J S Q := by
  refine w_st (i' := 1) (ls' := [.ref 75, .int p2, am_U, am_U]) (st' := [.int (nI 0)]) (E' := E) (I' := I) (J' := J) (S' := S) am_e13 rfl rfl rfl rfl ?_
  refine w_st (i' := 2) (ls' := [.ref 75, .int p2, .int (nI 0), am_U]) (st' := []) (E' := E) (I' := I) (J' := J) (S' := S) am_e13 rfl rfl rfl rfl ?_
  refine w_st (i' := 3) (ls' := [.ref 75, .int p2, .int (nI 0), am_U]) (st' := [.ref 75]) (E' := E) (I' := I) (J' := J) (S' := S) am_e13 rfl rfl rfl rfl ?_
  refine w_st (i' := 4) (ls' := [.ref 75, .int p2, .int (nI 0), am_U]) (st' := [.int (nI 3)]) (E' := E) (I' := I) (J' := J) (S' := S) am_e13 rfl rfl rfl rfl ?_
  refine w_st (i' := 5) (ls' := [.ref 75, .int p2, .int (nI 0), .int (nI 3)]) (st' := []) (E' := E) (I' := I) (J' := J) (S' := S) am_e13 rfl rfl rfl rfl ?_
  exact h
theorem g13_5_75 {x1 : Int32} {x2 : Int32} {x3 : Int32} {E : am_Ev} {I : Nat → Nat → Int32} {J : Nat → Nat → Int64} {S : Nat → Nat → Option Nat} {Q : am_Qt}  (h : (x3 ≤ x2 → (Q (.inl none) E I J S)) ∧ (¬ x3 ≤ x2 → (vp_in x2 3 ∧ (am_ww 13 5 [.ref 75, .int x1, .int (x2 + nI 1), .int x3] [] E (u_I I 75 (upd (I 75) x2.toNatClampNeg x1)) J S Q)))) : am_ww 13 5 [.ref 75, .int x1, .int x2, .int x3] [] E I J S Q := by
  refine w_st (i' := 6) (ls' := [.ref 75, .int x1, .int x2, .int x3]) (st' := [.int x2]) (E' := E) (I' := I) (J' := J) (S' := S) am_e13 rfl rfl rfl rfl ?_
  refine w_st (i' := 7) (ls' := [.ref 75, .int x1, .int x2, .int x3]) (st' := [.int x3, .int x2]) (E' := E) (I' := I) (J' := J) (S' := S) am_e13 rfl rfl rfl rfl ?_
  refine w_if2 am_e13 rfl rfl (fun c => ?_) (fun c => ?_)
  · replace h := h.1 (of_decide_eq_true c)
    exact w_end am_e13 rfl rfl rfl h
  · replace h := h.2 (of_decide_eq_false c)
    refine w_st (i' := 9) (ls' := [.ref 75, .int x1, .int x2, .int x3]) (st' := [.ref 75]) (E' := E) (I' := I) (J' := J) (S' := S) am_e13 rfl rfl rfl rfl ?_
    refine w_st (i' := 10) (ls' := [.ref 75, .int x1, .int x2, .int x3]) (st' := [.int x2, .ref 75]) (E' := E) (I' := I) (J' := J) (S' := S) am_e13 rfl rfl rfl rfl ?_
    refine w_st (i' := 11) (ls' := [.ref 75, .int x1, .int x2, .int x3]) (st' := [.int x1, .int x2, .ref 75]) (E' := E) (I' := I) (J' := J) (S' := S) am_e13 rfl rfl rfl rfl ?_
    have hf1 := h.1
    replace h := h.2
    refine w_is (k := 75) (n := 3) (jn := x2.toNatClampNeg) am_e13 rfl rfl (by decide) hf1 rfl ?_
    show am_ww 13 12 [.ref 75, .int x1, .int x2, .int x3] [] E (u_I I 75 (upd (I 75) x2.toNatClampNeg x1)) J S _
    refine w_st (i' := 13) (ls' := [.ref 75, .int x1, .int (x2 + nI 1), .int x3]) (st' := []) (E' := E) (I' := (u_I I 75 (upd (I 75) x2.toNatClampNeg x1))) (J' := J) (S' := S) am_e13 rfl rfl rfl rfl ?_
    refine w_st (i' := 5) (ls' := [.ref 75, .int x1, .int (x2 + nI 1), .int x3]) (st' := []) (E' := E) (I' := (u_I I 75 (upd (I 75) x2.toNatClampNeg x1))) (J' := J) (S' := S) am_e13 rfl rfl rfl rfl ?_
    exact h
-- 13 fill
theorem g13_0_79 {p2 : Int32} {E : am_Ev} {I : Nat → Nat → Int32} {J : Nat → Nat → Int64} {S : Nat → Nat → Option Nat} {Q : am_Qt}  (h : am_ww 13 5 [.ref 79, .int p2, .int (nI 0), .int (nI 16)] [] E I J S Q) : am_ww 13 0 [.ref 79, .int p2, am_U, am_U] [] E I J S Q := by
  refine w_st (i' := 1) (ls' := [.ref 79, .int p2, am_U, am_U]) (st' := [.int (nI 0)]) (E' := E) (I' := I) (J' := J) (S' := S) am_e13 rfl rfl rfl rfl ?_
  refine w_st (i' := 2) (ls' := [.ref 79, .int p2, .int (nI 0), am_U]) (st' := []) (E' := E) (I' := I) (J' := J) (S' := S) am_e13 rfl rfl rfl rfl ?_
  refine w_st (i' := 3) (ls' := [.ref 79, .int p2, .int (nI 0), am_U]) (st' := [.ref 79]) (E' := E) (I' := I) (J' := J) (S' := S) am_e13 rfl rfl rfl rfl ?_
  refine w_st (i' := 4) (ls' := [.ref 79, .int p2, .int (nI 0), am_U]) (st' := [.int (nI 16)]) (E' := E) (I' := I) (J' := J) (S' := S) am_e13 rfl rfl rfl rfl ?_
  refine w_st (i' := 5) (ls' := [.ref 79, .int p2, .int (nI 0), .int (nI 16)]) (st' := []) (E' := E) (I' := I) (J' := J) (S' := S) am_e13 rfl rfl rfl rfl ?_
  exact h
theorem g13_5_79 {x1 : Int32} {x2 : Int32} {x3 : Int32} {E : am_Ev} {I : Nat → Nat → Int32} {J : Nat → Nat → Int64} {S : Nat → Nat → Option Nat} {Q : am_Qt}  (h : (x3 ≤ x2 → (Q (.inl none) E I J S)) ∧ (¬ x3 ≤ x2 → (vp_in x2 16 ∧ (am_ww 13 5 [.ref 79, .int x1, .int (x2 + nI 1), .int x3] [] E (u_I I 79 (upd (I 79) x2.toNatClampNeg x1)) J S Q)))) : am_ww 13 5 [.ref 79, .int x1, .int x2, .int x3] [] E I J S Q := by
  refine w_st (i' := 6) (ls' := [.ref 79, .int x1, .int x2, .int x3]) (st' := [.int x2]) (E' := E) (I' := I) (J' := J) (S' := S) am_e13 rfl rfl rfl rfl ?_
  refine w_st (i' := 7) (ls' := [.ref 79, .int x1, .int x2, .int x3]) (st' := [.int x3, .int x2]) (E' := E) (I' := I) (J' := J) (S' := S) am_e13 rfl rfl rfl rfl ?_
  refine w_if2 am_e13 rfl rfl (fun c => ?_) (fun c => ?_)
  · replace h := h.1 (of_decide_eq_true c)
    exact w_end am_e13 rfl rfl rfl h
  · replace h := h.2 (of_decide_eq_false c)
    refine w_st (i' := 9) (ls' := [.ref 79, .int x1, .int x2, .int x3]) (st' := [.ref 79]) (E' := E) (I' := I) (J' := J) (S' := S) am_e13 rfl rfl rfl rfl ?_
    refine w_st (i' := 10) (ls' := [.ref 79, .int x1, .int x2, .int x3]) (st' := [.int x2, .ref 79]) (E' := E) (I' := I) (J' := J) (S' := S) am_e13 rfl rfl rfl rfl ?_
    refine w_st (i' := 11) (ls' := [.ref 79, .int x1, .int x2, .int x3]) (st' := [.int x1, .int x2, .ref 79]) (E' := E) (I' := I) (J' := J) (S' := S) am_e13 rfl rfl rfl rfl ?_
    have hf1 := h.1
    replace h := h.2
    refine w_is (k := 79) (n := 16) (jn := x2.toNatClampNeg) am_e13 rfl rfl (by decide) hf1 rfl ?_
    show am_ww 13 12 [.ref 79, .int x1, .int x2, .int x3] [] E (u_I I 79 (upd (I 79) x2.toNatClampNeg x1)) J S _
    refine w_st (i' := 13) (ls' := [.ref 79, .int x1, .int (x2 + nI 1), .int x3]) (st' := []) (E' := E) (I' := (u_I I 79 (upd (I 79) x2.toNatClampNeg x1))) (J' := J) (S' := S) am_e13 rfl rfl rfl rfl ?_
    refine w_st (i' := 5) (ls' := [.ref 79, .int x1, .int (x2 + nI 1), .int x3]) (st' := []) (E' := E) (I' := (u_I I 79 (upd (I 79) x2.toNatClampNeg x1))) (J' := J) (S' := S) am_e13 rfl rfl rfl rfl ?_
    exact h
-- 13 fill
theorem g13_0_80 {p2 : Int32} {E : am_Ev} {I : Nat → Nat → Int32} {J : Nat → Nat → Int64} {S : Nat → Nat → Option Nat} {Q : am_Qt}  (h : am_ww 13 5 [.ref 80, .int p2, .int (nI 0), .int (nI 4)] [] E I J S Q) : am_ww 13 0 [.ref 80, .int p2, am_U, am_U] [] E I J S Q := by
  refine w_st (i' := 1) (ls' := [.ref 80, .int p2, am_U, am_U]) (st' := [.int (nI 0)]) (E' := E) (I' := I) (J' := J) (S' := S) am_e13 rfl rfl rfl rfl ?_
  refine w_st (i' := 2) (ls' := [.ref 80, .int p2, .int (nI 0), am_U]) (st' := []) (E' := E) (I' := I) (J' := J) (S' := S) am_e13 rfl rfl rfl rfl ?_
  refine w_st (i' := 3) (ls' := [.ref 80, .int p2, .int (nI 0), am_U]) (st' := [.ref 80]) (E' := E) (I' := I) (J' := J) (S' := S) am_e13 rfl rfl rfl rfl ?_
  refine w_st (i' := 4) (ls' := [.ref 80, .int p2, .int (nI 0), am_U]) (st' := [.int (nI 4)]) (E' := E) (I' := I) (J' := J) (S' := S) am_e13 rfl rfl rfl rfl ?_
  refine w_st (i' := 5) (ls' := [.ref 80, .int p2, .int (nI 0), .int (nI 4)]) (st' := []) (E' := E) (I' := I) (J' := J) (S' := S) am_e13 rfl rfl rfl rfl ?_
  exact h
theorem g13_5_80 {x1 : Int32} {x2 : Int32} {x3 : Int32} {E : am_Ev} {I : Nat → Nat → Int32} {J : Nat → Nat → Int64} {S : Nat → Nat → Option Nat} {Q : am_Qt}  (h : (x3 ≤ x2 → (Q (.inl none) E I J S)) ∧ (¬ x3 ≤ x2 → (vp_in x2 4 ∧ (am_ww 13 5 [.ref 80, .int x1, .int (x2 + nI 1), .int x3] [] E (u_I I 80 (upd (I 80) x2.toNatClampNeg x1)) J S Q)))) : am_ww 13 5 [.ref 80, .int x1, .int x2, .int x3] [] E I J S Q := by
  refine w_st (i' := 6) (ls' := [.ref 80, .int x1, .int x2, .int x3]) (st' := [.int x2]) (E' := E) (I' := I) (J' := J) (S' := S) am_e13 rfl rfl rfl rfl ?_
  refine w_st (i' := 7) (ls' := [.ref 80, .int x1, .int x2, .int x3]) (st' := [.int x3, .int x2]) (E' := E) (I' := I) (J' := J) (S' := S) am_e13 rfl rfl rfl rfl ?_
  refine w_if2 am_e13 rfl rfl (fun c => ?_) (fun c => ?_)
  · replace h := h.1 (of_decide_eq_true c)
    exact w_end am_e13 rfl rfl rfl h
  · replace h := h.2 (of_decide_eq_false c)
    refine w_st (i' := 9) (ls' := [.ref 80, .int x1, .int x2, .int x3]) (st' := [.ref 80]) (E' := E) (I' := I) (J' := J) (S' := S) am_e13 rfl rfl rfl rfl ?_
    refine w_st (i' := 10) (ls' := [.ref 80, .int x1, .int x2, .int x3]) (st' := [.int x2, .ref 80]) (E' := E) (I' := I) (J' := J) (S' := S) am_e13 rfl rfl rfl rfl ?_
    refine w_st (i' := 11) (ls' := [.ref 80, .int x1, .int x2, .int x3]) (st' := [.int x1, .int x2, .ref 80]) (E' := E) (I' := I) (J' := J) (S' := S) am_e13 rfl rfl rfl rfl ?_
    have hf1 := h.1
    replace h := h.2
    refine w_is (k := 80) (n := 4) (jn := x2.toNatClampNeg) am_e13 rfl rfl (by decide) hf1 rfl ?_
    show am_ww 13 12 [.ref 80, .int x1, .int x2, .int x3] [] E (u_I I 80 (upd (I 80) x2.toNatClampNeg x1)) J S _
    refine w_st (i' := 13) (ls' := [.ref 80, .int x1, .int (x2 + nI 1), .int x3]) (st' := []) (E' := E) (I' := (u_I I 80 (upd (I 80) x2.toNatClampNeg x1))) (J' := J) (S' := S) am_e13 rfl rfl rfl rfl ?_
    refine w_st (i' := 5) (ls' := [.ref 80, .int x1, .int (x2 + nI 1), .int x3]) (st' := []) (E' := E) (I' := (u_I I 80 (upd (I 80) x2.toNatClampNeg x1))) (J' := J) (S' := S) am_e13 rfl rfl rfl rfl ?_
    exact h
-- 13 fill
theorem g13_0_81 {p2 : Int32} {E : am_Ev} {I : Nat → Nat → Int32} {J : Nat → Nat → Int64} {S : Nat → Nat → Option Nat} {Q : am_Qt}  (h : am_ww 13 5 [.ref 81, .int p2, .int (nI 0), .int (nI 4)] [] E I J S Q) : am_ww 13 0 [.ref 81, .int p2, am_U, am_U] [] E I J S Q := by
  refine w_st (i' := 1) (ls' := [.ref 81, .int p2, am_U, am_U]) (st' := [.int (nI 0)]) (E' := E) (I' := I) (J' := J) (S' := S) am_e13 rfl rfl rfl rfl ?_
  refine w_st (i' := 2) (ls' := [.ref 81, .int p2, .int (nI 0), am_U]) (st' := []) (E' := E) (I' := I) (J' := J) (S' := S) am_e13 rfl rfl rfl rfl ?_
  refine w_st (i' := 3) (ls' := [.ref 81, .int p2, .int (nI 0), am_U]) (st' := [.ref 81]) (E' := E) (I' := I) (J' := J) (S' := S) am_e13 rfl rfl rfl rfl ?_
  refine w_st (i' := 4) (ls' := [.ref 81, .int p2, .int (nI 0), am_U]) (st' := [.int (nI 4)]) (E' := E) (I' := I) (J' := J) (S' := S) am_e13 rfl rfl rfl rfl ?_
  refine w_st (i' := 5) (ls' := [.ref 81, .int p2, .int (nI 0), .int (nI 4)]) (st' := []) (E' := E) (I' := I) (J' := J) (S' := S) am_e13 rfl rfl rfl rfl ?_
  exact h
theorem g13_5_81 {x1 : Int32} {x2 : Int32} {x3 : Int32} {E : am_Ev} {I : Nat → Nat → Int32} {J : Nat → Nat → Int64} {S : Nat → Nat → Option Nat} {Q : am_Qt}  (h : (x3 ≤ x2 → (Q (.inl none) E I J S)) ∧ (¬ x3 ≤ x2 → (vp_in x2 4 ∧ (am_ww 13 5 [.ref 81, .int x1, .int (x2 + nI 1), .int x3] [] E (u_I I 81 (upd (I 81) x2.toNatClampNeg x1)) J S Q)))) : am_ww 13 5 [.ref 81, .int x1, .int x2, .int x3] [] E I J S Q := by
  refine w_st (i' := 6) (ls' := [.ref 81, .int x1, .int x2, .int x3]) (st' := [.int x2]) (E' := E) (I' := I) (J' := J) (S' := S) am_e13 rfl rfl rfl rfl ?_
  refine w_st (i' := 7) (ls' := [.ref 81, .int x1, .int x2, .int x3]) (st' := [.int x3, .int x2]) (E' := E) (I' := I) (J' := J) (S' := S) am_e13 rfl rfl rfl rfl ?_
  refine w_if2 am_e13 rfl rfl (fun c => ?_) (fun c => ?_)
  · replace h := h.1 (of_decide_eq_true c)
    exact w_end am_e13 rfl rfl rfl h
  · replace h := h.2 (of_decide_eq_false c)
    refine w_st (i' := 9) (ls' := [.ref 81, .int x1, .int x2, .int x3]) (st' := [.ref 81]) (E' := E) (I' := I) (J' := J) (S' := S) am_e13 rfl rfl rfl rfl ?_
    refine w_st (i' := 10) (ls' := [.ref 81, .int x1, .int x2, .int x3]) (st' := [.int x2, .ref 81]) (E' := E) (I' := I) (J' := J) (S' := S) am_e13 rfl rfl rfl rfl ?_
    refine w_st (i' := 11) (ls' := [.ref 81, .int x1, .int x2, .int x3]) (st' := [.int x1, .int x2, .ref 81]) (E' := E) (I' := I) (J' := J) (S' := S) am_e13 rfl rfl rfl rfl ?_
    have hf1 := h.1
    replace h := h.2
    refine w_is (k := 81) (n := 4) (jn := x2.toNatClampNeg) am_e13 rfl rfl (by decide) hf1 rfl ?_
    show am_ww 13 12 [.ref 81, .int x1, .int x2, .int x3] [] E (u_I I 81 (upd (I 81) x2.toNatClampNeg x1)) J S _
    refine w_st (i' := 13) (ls' := [.ref 81, .int x1, .int (x2 + nI 1), .int x3]) (st' := []) (E' := E) (I' := (u_I I 81 (upd (I 81) x2.toNatClampNeg x1))) (J' := J) (S' := S) am_e13 rfl rfl rfl rfl ?_
    refine w_st (i' := 5) (ls' := [.ref 81, .int x1, .int (x2 + nI 1), .int x3]) (st' := []) (E' := E) (I' := (u_I I 81 (upd (I 81) x2.toNatClampNeg x1))) (J' := J) (S' := S) am_e13 rfl rfl rfl rfl ?_
    exact h
-- 13 fill
theorem g13_0_82 {p2 : Int32} {E : am_Ev} {I : Nat → Nat → Int32} {J : Nat → Nat → Int64} {S : Nat → Nat → Option Nat} {Q : am_Qt}  (h : am_ww 13 5 [.ref 82, .int p2, .int (nI 0), .int (nI 4)] [] E I J S Q) : am_ww 13 0 [.ref 82, .int p2, am_U, am_U] [] E I J S Q := by
  refine w_st (i' := 1) (ls' := [.ref 82, .int p2, am_U, am_U]) (st' := [.int (nI 0)]) (E' := E) (I' := I) (J' := J) (S' := S) am_e13 rfl rfl rfl rfl ?_
  refine w_st (i' := 2) (ls' := [.ref 82, .int p2, .int (nI 0), am_U]) (st' := []) (E' := E) (I' := I) (J' := J) (S' := S) am_e13 rfl rfl rfl rfl ?_
  refine w_st (i' := 3) (ls' := [.ref 82, .int p2, .int (nI 0), am_U]) (st' := [.ref 82]) (E' := E) (I' := I) (J' := J) (S' := S) am_e13 rfl rfl rfl rfl ?_
  refine w_st (i' := 4) (ls' := [.ref 82, .int p2, .int (nI 0), am_U]) (st' := [.int (nI 4)]) (E' := E) (I' := I) (J' := J) (S' := S) am_e13 rfl rfl rfl rfl ?_
  refine w_st (i' := 5) (ls' := [.ref 82, .int p2, .int (nI 0), .int (nI 4)]) (st' := []) (E' := E) (I' := I) (J' := J) (S' := S) am_e13 rfl rfl rfl rfl ?_
  exact h
theorem g13_5_82 {x1 : Int32} {x2 : Int32} {x3 : Int32} {E : am_Ev} {I : Nat → Nat → Int32} {J : Nat → Nat → Int64} {S : Nat → Nat → Option Nat} {Q : am_Qt}  (h : (x3 ≤ x2 → (Q (.inl none) E I J S)) ∧ (¬ x3 ≤ x2 → (vp_in x2 4 ∧ (am_ww 13 5 [.ref 82, .int x1, .int (x2 + nI 1), .int x3] [] E (u_I I 82 (upd (I 82) x2.toNatClampNeg x1)) J S Q)))) : am_ww 13 5 [.ref 82, .int x1, .int x2, .int x3] [] E I J S Q := by
  refine w_st (i' := 6) (ls' := [.ref 82, .int x1, .int x2, .int x3]) (st' := [.int x2]) (E' := E) (I' := I) (J' := J) (S' := S) am_e13 rfl rfl rfl rfl ?_
  refine w_st (i' := 7) (ls' := [.ref 82, .int x1, .int x2, .int x3]) (st' := [.int x3, .int x2]) (E' := E) (I' := I) (J' := J) (S' := S) am_e13 rfl rfl rfl rfl ?_
  refine w_if2 am_e13 rfl rfl (fun c => ?_) (fun c => ?_)
  · replace h := h.1 (of_decide_eq_true c)
    exact w_end am_e13 rfl rfl rfl h
  · replace h := h.2 (of_decide_eq_false c)
    refine w_st (i' := 9) (ls' := [.ref 82, .int x1, .int x2, .int x3]) (st' := [.ref 82]) (E' := E) (I' := I) (J' := J) (S' := S) am_e13 rfl rfl rfl rfl ?_
    refine w_st (i' := 10) (ls' := [.ref 82, .int x1, .int x2, .int x3]) (st' := [.int x2, .ref 82]) (E' := E) (I' := I) (J' := J) (S' := S) am_e13 rfl rfl rfl rfl ?_
    refine w_st (i' := 11) (ls' := [.ref 82, .int x1, .int x2, .int x3]) (st' := [.int x1, .int x2, .ref 82]) (E' := E) (I' := I) (J' := J) (S' := S) am_e13 rfl rfl rfl rfl ?_
    have hf1 := h.1
    replace h := h.2
    refine w_is (k := 82) (n := 4) (jn := x2.toNatClampNeg) am_e13 rfl rfl (by decide) hf1 rfl ?_
    show am_ww 13 12 [.ref 82, .int x1, .int x2, .int x3] [] E (u_I I 82 (upd (I 82) x2.toNatClampNeg x1)) J S _
    refine w_st (i' := 13) (ls' := [.ref 82, .int x1, .int (x2 + nI 1), .int x3]) (st' := []) (E' := E) (I' := (u_I I 82 (upd (I 82) x2.toNatClampNeg x1))) (J' := J) (S' := S) am_e13 rfl rfl rfl rfl ?_
    refine w_st (i' := 5) (ls' := [.ref 82, .int x1, .int (x2 + nI 1), .int x3]) (st' := []) (E' := E) (I' := (u_I I 82 (upd (I 82) x2.toNatClampNeg x1))) (J' := J) (S' := S) am_e13 rfl rfl rfl rfl ?_
    exact h
-- 13 fill
theorem g13_0_83 {p2 : Int32} {E : am_Ev} {I : Nat → Nat → Int32} {J : Nat → Nat → Int64} {S : Nat → Nat → Option Nat} {Q : am_Qt}  (h : am_ww 13 5 [.ref 83, .int p2, .int (nI 0), .int (nI 3)] [] E I J S Q) : am_ww 13 0 [.ref 83, .int p2, am_U, am_U] [] E I J S Q := by
  refine w_st (i' := 1) (ls' := [.ref 83, .int p2, am_U, am_U]) (st' := [.int (nI 0)]) (E' := E) (I' := I) (J' := J) (S' := S) am_e13 rfl rfl rfl rfl ?_
  refine w_st (i' := 2) (ls' := [.ref 83, .int p2, .int (nI 0), am_U]) (st' := []) (E' := E) (I' := I) (J' := J) (S' := S) am_e13 rfl rfl rfl rfl ?_
  refine w_st (i' := 3) (ls' := [.ref 83, .int p2, .int (nI 0), am_U]) (st' := [.ref 83]) (E' := E) (I' := I) (J' := J) (S' := S) am_e13 rfl rfl rfl rfl ?_
  refine w_st (i' := 4) (ls' := [.ref 83, .int p2, .int (nI 0), am_U]) (st' := [.int (nI 3)]) (E' := E) (I' := I) (J' := J) (S' := S) am_e13 rfl rfl rfl rfl ?_
  refine w_st (i' := 5) (ls' := [.ref 83, .int p2, .int (nI 0), .int (nI 3)]) (st' := []) (E' := E) (I' := I) (J' := J) (S' := S) am_e13 rfl rfl rfl rfl ?_
  exact h
theorem g13_5_83 {x1 : Int32} {x2 : Int32} {x3 : Int32} {E : am_Ev} {I : Nat → Nat → Int32} {J : Nat → Nat → Int64} {S : Nat → Nat → Option Nat} {Q : am_Qt}  (h : (x3 ≤ x2 → (Q (.inl none) E I J S)) ∧ (¬ x3 ≤ x2 → (vp_in x2 3 ∧ (am_ww 13 5 [.ref 83, .int x1, .int (x2 + nI 1), .int x3] [] E (u_I I 83 (upd (I 83) x2.toNatClampNeg x1)) J S Q)))) : am_ww 13 5 [.ref 83, .int x1, .int x2, .int x3] [] E I J S Q := by
  refine w_st (i' := 6) (ls' := [.ref 83, .int x1, .int x2, .int x3]) (st' := [.int x2]) (E' := E) (I' := I) (J' := J) (S' := S) am_e13 rfl rfl rfl rfl ?_
  refine w_st (i' := 7) (ls' := [.ref 83, .int x1, .int x2, .int x3]) (st' := [.int x3, .int x2]) (E' := E) (I' := I) (J' := J) (S' := S) am_e13 rfl rfl rfl rfl ?_
  refine w_if2 am_e13 rfl rfl (fun c => ?_) (fun c => ?_)
  · replace h := h.1 (of_decide_eq_true c)
    exact w_end am_e13 rfl rfl rfl h
  · replace h := h.2 (of_decide_eq_false c)
    refine w_st (i' := 9) (ls' := [.ref 83, .int x1, .int x2, .int x3]) (st' := [.ref 83]) (E' := E) (I' := I) (J' := J) (S' := S) am_e13 rfl rfl rfl rfl ?_
    refine w_st (i' := 10) (ls' := [.ref 83, .int x1, .int x2, .int x3]) (st' := [.int x2, .ref 83]) (E' := E) (I' := I) (J' := J) (S' := S) am_e13 rfl rfl rfl rfl ?_
    refine w_st (i' := 11) (ls' := [.ref 83, .int x1, .int x2, .int x3]) (st' := [.int x1, .int x2, .ref 83]) (E' := E) (I' := I) (J' := J) (S' := S) am_e13 rfl rfl rfl rfl ?_
    have hf1 := h.1
    replace h := h.2
    refine w_is (k := 83) (n := 3) (jn := x2.toNatClampNeg) am_e13 rfl rfl (by decide) hf1 rfl ?_
    show am_ww 13 12 [.ref 83, .int x1, .int x2, .int x3] [] E (u_I I 83 (upd (I 83) x2.toNatClampNeg x1)) J S _
    refine w_st (i' := 13) (ls' := [.ref 83, .int x1, .int (x2 + nI 1), .int x3]) (st' := []) (E' := E) (I' := (u_I I 83 (upd (I 83) x2.toNatClampNeg x1))) (J' := J) (S' := S) am_e13 rfl rfl rfl rfl ?_
    refine w_st (i' := 5) (ls' := [.ref 83, .int x1, .int (x2 + nI 1), .int x3]) (st' := []) (E' := E) (I' := (u_I I 83 (upd (I 83) x2.toNatClampNeg x1))) (J' := J) (S' := S) am_e13 rfl rfl rfl rfl ?_
    exact h
-- 13 fill
theorem g13_0_88 {p2 : Int32} {E : am_Ev} {I : Nat → Nat → Int32} {J : Nat → Nat → Int64} {S : Nat → Nat → Option Nat} {Q : am_Qt}  (h : am_ww 13 5 [.ref 88, .int p2, .int (nI 0), .int (nI 4)] [] E I J S Q) : am_ww 13 0 [.ref 88, .int p2, am_U, am_U] [] E I J S Q := by
  refine w_st (i' := 1) (ls' := [.ref 88, .int p2, am_U, am_U]) (st' := [.int (nI 0)]) (E' := E) (I' := I) (J' := J) (S' := S) am_e13 rfl rfl rfl rfl ?_
  refine w_st (i' := 2) (ls' := [.ref 88, .int p2, .int (nI 0), am_U]) (st' := []) (E' := E) (I' := I) (J' := J) (S' := S) am_e13 rfl rfl rfl rfl ?_
  refine w_st (i' := 3) (ls' := [.ref 88, .int p2, .int (nI 0), am_U]) (st' := [.ref 88]) (E' := E) (I' := I) (J' := J) (S' := S) am_e13 rfl rfl rfl rfl ?_
  refine w_st (i' := 4) (ls' := [.ref 88, .int p2, .int (nI 0), am_U]) (st' := [.int (nI 4)]) (E' := E) (I' := I) (J' := J) (S' := S) am_e13 rfl rfl rfl rfl ?_
  refine w_st (i' := 5) (ls' := [.ref 88, .int p2, .int (nI 0), .int (nI 4)]) (st' := []) (E' := E) (I' := I) (J' := J) (S' := S) am_e13 rfl rfl rfl rfl ?_
  exact h
theorem g13_5_88 {x1 : Int32} {x2 : Int32} {x3 : Int32} {E : am_Ev} {I : Nat → Nat → Int32} {J : Nat → Nat → Int64} {S : Nat → Nat → Option Nat} {Q : am_Qt}  (h : (x3 ≤ x2 → (Q (.inl none) E I J S)) ∧ (¬ x3 ≤ x2 → (vp_in x2 4 ∧ (am_ww 13 5 [.ref 88, .int x1, .int (x2 + nI 1), .int x3] [] E (u_I I 88 (upd (I 88) x2.toNatClampNeg x1)) J S Q)))) : am_ww 13 5 [.ref 88, .int x1, .int x2, .int x3] [] E I J S Q := by
  refine w_st (i' := 6) (ls' := [.ref 88, .int x1, .int x2, .int x3]) (st' := [.int x2]) (E' := E) (I' := I) (J' := J) (S' := S) am_e13 rfl rfl rfl rfl ?_
  refine w_st (i' := 7) (ls' := [.ref 88, .int x1, .int x2, .int x3]) (st' := [.int x3, .int x2]) (E' := E) (I' := I) (J' := J) (S' := S) am_e13 rfl rfl rfl rfl ?_
  refine w_if2 am_e13 rfl rfl (fun c => ?_) (fun c => ?_)
  · replace h := h.1 (of_decide_eq_true c)
    exact w_end am_e13 rfl rfl rfl h
  · replace h := h.2 (of_decide_eq_false c)
    refine w_st (i' := 9) (ls' := [.ref 88, .int x1, .int x2, .int x3]) (st' := [.ref 88]) (E' := E) (I' := I) (J' := J) (S' := S) am_e13 rfl rfl rfl rfl ?_
    refine w_st (i' := 10) (ls' := [.ref 88, .int x1, .int x2, .int x3]) (st' := [.int x2, .ref 88]) (E' := E) (I' := I) (J' := J) (S' := S) am_e13 rfl rfl rfl rfl ?_
    refine w_st (i' := 11) (ls' := [.ref 88, .int x1, .int x2, .int x3]) (st' := [.int x1, .int x2, .ref 88]) (E' := E) (I' := I) (J' := J) (S' := S) am_e13 rfl rfl rfl rfl ?_
    have hf1 := h.1
    replace h := h.2
    refine w_is (k := 88) (n := 4) (jn := x2.toNatClampNeg) am_e13 rfl rfl (by decide) hf1 rfl ?_
    show am_ww 13 12 [.ref 88, .int x1, .int x2, .int x3] [] E (u_I I 88 (upd (I 88) x2.toNatClampNeg x1)) J S _
    refine w_st (i' := 13) (ls' := [.ref 88, .int x1, .int (x2 + nI 1), .int x3]) (st' := []) (E' := E) (I' := (u_I I 88 (upd (I 88) x2.toNatClampNeg x1))) (J' := J) (S' := S) am_e13 rfl rfl rfl rfl ?_
    refine w_st (i' := 5) (ls' := [.ref 88, .int x1, .int (x2 + nI 1), .int x3]) (st' := []) (E' := E) (I' := (u_I I 88 (upd (I 88) x2.toNatClampNeg x1))) (J' := J) (S' := S) am_e13 rfl rfl rfl rfl ?_
    exact h
-- 13 fill
theorem g13_0_90 {p2 : Int32} {E : am_Ev} {I : Nat → Nat → Int32} {J : Nat → Nat → Int64} {S : Nat → Nat → Option Nat} {Q : am_Qt}  (h : am_ww 13 5 [.ref 90, .int p2, .int (nI 0), .int (nI 401)] [] E I J S Q) : am_ww 13 0 [.ref 90, .int p2, am_U, am_U] [] E I J S Q := by
  refine w_st (i' := 1) (ls' := [.ref 90, .int p2, am_U, am_U]) (st' := [.int (nI 0)]) (E' := E) (I' := I) (J' := J) (S' := S) am_e13 rfl rfl rfl rfl ?_
  refine w_st (i' := 2) (ls' := [.ref 90, .int p2, .int (nI 0), am_U]) (st' := []) (E' := E) (I' := I) (J' := J) (S' := S) am_e13 rfl rfl rfl rfl ?_
  refine w_st (i' := 3) (ls' := [.ref 90, .int p2, .int (nI 0), am_U]) (st' := [.ref 90]) (E' := E) (I' := I) (J' := J) (S' := S) am_e13 rfl rfl rfl rfl ?_
  refine w_st (i' := 4) (ls' := [.ref 90, .int p2, .int (nI 0), am_U]) (st' := [.int (nI 401)]) (E' := E) (I' := I) (J' := J) (S' := S) am_e13 rfl rfl rfl rfl ?_
  refine w_st (i' := 5) (ls' := [.ref 90, .int p2, .int (nI 0), .int (nI 401)]) (st' := []) (E' := E) (I' := I) (J' := J) (S' := S) am_e13 rfl rfl rfl rfl ?_
  exact h
theorem g13_5_90 {x1 : Int32} {x2 : Int32} {x3 : Int32} {E : am_Ev} {I : Nat → Nat → Int32} {J : Nat → Nat → Int64} {S : Nat → Nat → Option Nat} {Q : am_Qt}  (h : (x3 ≤ x2 → (Q (.inl none) E I J S)) ∧ (¬ x3 ≤ x2 → (vp_in x2 401 ∧ (am_ww 13 5 [.ref 90, .int x1, .int (x2 + nI 1), .int x3] [] E (u_I I 90 (upd (I 90) x2.toNatClampNeg x1)) J S Q)))) : am_ww 13 5 [.ref 90, .int x1, .int x2, .int x3] [] E I J S Q := by
  refine w_st (i' := 6) (ls' := [.ref 90, .int x1, .int x2, .int x3]) (st' := [.int x2]) (E' := E) (I' := I) (J' := J) (S' := S) am_e13 rfl rfl rfl rfl ?_
  refine w_st (i' := 7) (ls' := [.ref 90, .int x1, .int x2, .int x3]) (st' := [.int x3, .int x2]) (E' := E) (I' := I) (J' := J) (S' := S) am_e13 rfl rfl rfl rfl ?_
  refine w_if2 am_e13 rfl rfl (fun c => ?_) (fun c => ?_)
  · replace h := h.1 (of_decide_eq_true c)
    exact w_end am_e13 rfl rfl rfl h
  · replace h := h.2 (of_decide_eq_false c)
    refine w_st (i' := 9) (ls' := [.ref 90, .int x1, .int x2, .int x3]) (st' := [.ref 90]) (E' := E) (I' := I) (J' := J) (S' := S) am_e13 rfl rfl rfl rfl ?_
    refine w_st (i' := 10) (ls' := [.ref 90, .int x1, .int x2, .int x3]) (st' := [.int x2, .ref 90]) (E' := E) (I' := I) (J' := J) (S' := S) am_e13 rfl rfl rfl rfl ?_
    refine w_st (i' := 11) (ls' := [.ref 90, .int x1, .int x2, .int x3]) (st' := [.int x1, .int x2, .ref 90]) (E' := E) (I' := I) (J' := J) (S' := S) am_e13 rfl rfl rfl rfl ?_
    have hf1 := h.1
    replace h := h.2
    refine w_is (k := 90) (n := 401) (jn := x2.toNatClampNeg) am_e13 rfl rfl (by decide) hf1 rfl ?_
    show am_ww 13 12 [.ref 90, .int x1, .int x2, .int x3] [] E (u_I I 90 (upd (I 90) x2.toNatClampNeg x1)) J S _
    refine w_st (i' := 13) (ls' := [.ref 90, .int x1, .int (x2 + nI 1), .int x3]) (st' := []) (E' := E) (I' := (u_I I 90 (upd (I 90) x2.toNatClampNeg x1))) (J' := J) (S' := S) am_e13 rfl rfl rfl rfl ?_
    refine w_st (i' := 5) (ls' := [.ref 90, .int x1, .int (x2 + nI 1), .int x3]) (st' := []) (E' := E) (I' := (u_I I 90 (upd (I 90) x2.toNatClampNeg x1))) (J' := J) (S' := S) am_e13 rfl rfl rfl rfl ?_
    exact h
-- 13 fill
theorem g13_0_93 {p2 : Int32} {E : am_Ev} {I : Nat → Nat → Int32} {J : Nat → Nat → Int64} {S : Nat → Nat → Option Nat} {Q : am_Qt}  (h : am_ww 13 5 [.ref 93, .int p2, .int (nI 0), .int (nI 16)] [] E I J S Q) : am_ww 13 0 [.ref 93, .int p2, am_U, am_U] [] E I J S Q := by
  refine w_st (i' := 1) (ls' := [.ref 93, .int p2, am_U, am_U]) (st' := [.int (nI 0)]) (E' := E) (I' := I) (J' := J) (S' := S) am_e13 rfl rfl rfl rfl ?_
  refine w_st (i' := 2) (ls' := [.ref 93, .int p2, .int (nI 0), am_U]) (st' := []) (E' := E) (I' := I) (J' := J) (S' := S) am_e13 rfl rfl rfl rfl ?_
  refine w_st (i' := 3) (ls' := [.ref 93, .int p2, .int (nI 0), am_U]) (st' := [.ref 93]) (E' := E) (I' := I) (J' := J) (S' := S) am_e13 rfl rfl rfl rfl ?_
  refine w_st (i' := 4) (ls' := [.ref 93, .int p2, .int (nI 0), am_U]) (st' := [.int (nI 16)]) (E' := E) (I' := I) (J' := J) (S' := S) am_e13 rfl rfl rfl rfl ?_
  refine w_st (i' := 5) (ls' := [.ref 93, .int p2, .int (nI 0), .int (nI 16)]) (st' := []) (E' := E) (I' := I) (J' := J) (S' := S) am_e13 rfl rfl rfl rfl ?_
  exact h
theorem g13_5_93 {x1 : Int32} {x2 : Int32} {x3 : Int32} {E : am_Ev} {I : Nat → Nat → Int32} {J : Nat → Nat → Int64} {S : Nat → Nat → Option Nat} {Q : am_Qt}  (h : (x3 ≤ x2 → (Q (.inl none) E I J S)) ∧ (¬ x3 ≤ x2 → (vp_in x2 16 ∧ (am_ww 13 5 [.ref 93, .int x1, .int (x2 + nI 1), .int x3] [] E (u_I I 93 (upd (I 93) x2.toNatClampNeg x1)) J S Q)))) : am_ww 13 5 [.ref 93, .int x1, .int x2, .int x3] [] E I J S Q := by
  refine w_st (i' := 6) (ls' := [.ref 93, .int x1, .int x2, .int x3]) (st' := [.int x2]) (E' := E) (I' := I) (J' := J) (S' := S) am_e13 rfl rfl rfl rfl ?_
  refine w_st (i' := 7) (ls' := [.ref 93, .int x1, .int x2, .int x3]) (st' := [.int x3, .int x2]) (E' := E) (I' := I) (J' := J) (S' := S) am_e13 rfl rfl rfl rfl ?_
  refine w_if2 am_e13 rfl rfl (fun c => ?_) (fun c => ?_)
  · replace h := h.1 (of_decide_eq_true c)
    exact w_end am_e13 rfl rfl rfl h
  · replace h := h.2 (of_decide_eq_false c)
    refine w_st (i' := 9) (ls' := [.ref 93, .int x1, .int x2, .int x3]) (st' := [.ref 93]) (E' := E) (I' := I) (J' := J) (S' := S) am_e13 rfl rfl rfl rfl ?_
    refine w_st (i' := 10) (ls' := [.ref 93, .int x1, .int x2, .int x3]) (st' := [.int x2, .ref 93]) (E' := E) (I' := I) (J' := J) (S' := S) am_e13 rfl rfl rfl rfl ?_
    refine w_st (i' := 11) (ls' := [.ref 93, .int x1, .int x2, .int x3]) (st' := [.int x1, .int x2, .ref 93]) (E' := E) (I' := I) (J' := J) (S' := S) am_e13 rfl rfl rfl rfl ?_
    have hf1 := h.1
    replace h := h.2
    refine w_is (k := 93) (n := 16) (jn := x2.toNatClampNeg) am_e13 rfl rfl (by decide) hf1 rfl ?_
    show am_ww 13 12 [.ref 93, .int x1, .int x2, .int x3] [] E (u_I I 93 (upd (I 93) x2.toNatClampNeg x1)) J S _
    refine w_st (i' := 13) (ls' := [.ref 93, .int x1, .int (x2 + nI 1), .int x3]) (st' := []) (E' := E) (I' := (u_I I 93 (upd (I 93) x2.toNatClampNeg x1))) (J' := J) (S' := S) am_e13 rfl rfl rfl rfl ?_
    refine w_st (i' := 5) (ls' := [.ref 93, .int x1, .int (x2 + nI 1), .int x3]) (st' := []) (E' := E) (I' := (u_I I 93 (upd (I 93) x2.toNatClampNeg x1))) (J' := J) (S' := S) am_e13 rfl rfl rfl rfl ?_
    exact h
-- 13 fill
theorem g13_0_94 {p2 : Int32} {E : am_Ev} {I : Nat → Nat → Int32} {J : Nat → Nat → Int64} {S : Nat → Nat → Option Nat} {Q : am_Qt}  (h : am_ww 13 5 [.ref 94, .int p2, .int (nI 0), .int (nI 16)] [] E I J S Q) : am_ww 13 0 [.ref 94, .int p2, am_U, am_U] [] E I J S Q := by
  refine w_st (i' := 1) (ls' := [.ref 94, .int p2, am_U, am_U]) (st' := [.int (nI 0)]) (E' := E) (I' := I) (J' := J) (S' := S) am_e13 rfl rfl rfl rfl ?_
  refine w_st (i' := 2) (ls' := [.ref 94, .int p2, .int (nI 0), am_U]) (st' := []) (E' := E) (I' := I) (J' := J) (S' := S) am_e13 rfl rfl rfl rfl ?_
  refine w_st (i' := 3) (ls' := [.ref 94, .int p2, .int (nI 0), am_U]) (st' := [.ref 94]) (E' := E) (I' := I) (J' := J) (S' := S) am_e13 rfl rfl rfl rfl ?_
  refine w_st (i' := 4) (ls' := [.ref 94, .int p2, .int (nI 0), am_U]) (st' := [.int (nI 16)]) (E' := E) (I' := I) (J' := J) (S' := S) am_e13 rfl rfl rfl rfl ?_
  refine w_st (i' := 5) (ls' := [.ref 94, .int p2, .int (nI 0), .int (nI 16)]) (st' := []) (E' := E) (I' := I) (J' := J) (S' := S) am_e13 rfl rfl rfl rfl ?_
  exact h
theorem g13_5_94 {x1 : Int32} {x2 : Int32} {x3 : Int32} {E : am_Ev} {I : Nat → Nat → Int32} {J : Nat → Nat → Int64} {S : Nat → Nat → Option Nat} {Q : am_Qt}  (h : (x3 ≤ x2 → (Q (.inl none) E I J S)) ∧ (¬ x3 ≤ x2 → (vp_in x2 16 ∧ (am_ww 13 5 [.ref 94, .int x1, .int (x2 + nI 1), .int x3] [] E (u_I I 94 (upd (I 94) x2.toNatClampNeg x1)) J S Q)))) : am_ww 13 5 [.ref 94, .int x1, .int x2, .int x3] [] E I J S Q := by
  refine w_st (i' := 6) (ls' := [.ref 94, .int x1, .int x2, .int x3]) (st' := [.int x2]) (E' := E) (I' := I) (J' := J) (S' := S) am_e13 rfl rfl rfl rfl ?_
  refine w_st (i' := 7) (ls' := [.ref 94, .int x1, .int x2, .int x3]) (st' := [.int x3, .int x2]) (E' := E) (I' := I) (J' := J) (S' := S) am_e13 rfl rfl rfl rfl ?_
  refine w_if2 am_e13 rfl rfl (fun c => ?_) (fun c => ?_)
  · replace h := h.1 (of_decide_eq_true c)
    exact w_end am_e13 rfl rfl rfl h
  · replace h := h.2 (of_decide_eq_false c)
    refine w_st (i' := 9) (ls' := [.ref 94, .int x1, .int x2, .int x3]) (st' := [.ref 94]) (E' := E) (I' := I) (J' := J) (S' := S) am_e13 rfl rfl rfl rfl ?_
    refine w_st (i' := 10) (ls' := [.ref 94, .int x1, .int x2, .int x3]) (st' := [.int x2, .ref 94]) (E' := E) (I' := I) (J' := J) (S' := S) am_e13 rfl rfl rfl rfl ?_
    refine w_st (i' := 11) (ls' := [.ref 94, .int x1, .int x2, .int x3]) (st' := [.int x1, .int x2, .ref 94]) (E' := E) (I' := I) (J' := J) (S' := S) am_e13 rfl rfl rfl rfl ?_
    have hf1 := h.1
    replace h := h.2
    refine w_is (k := 94) (n := 16) (jn := x2.toNatClampNeg) am_e13 rfl rfl (by decide) hf1 rfl ?_
    show am_ww 13 12 [.ref 94, .int x1, .int x2, .int x3] [] E (u_I I 94 (upd (I 94) x2.toNatClampNeg x1)) J S _
    refine w_st (i' := 13) (ls' := [.ref 94, .int x1, .int (x2 + nI 1), .int x3]) (st' := []) (E' := E) (I' := (u_I I 94 (upd (I 94) x2.toNatClampNeg x1))) (J' := J) (S' := S) am_e13 rfl rfl rfl rfl ?_
    refine w_st (i' := 5) (ls' := [.ref 94, .int x1, .int (x2 + nI 1), .int x3]) (st' := []) (E' := E) (I' := (u_I I 94 (upd (I 94) x2.toNatClampNeg x1))) (J' := J) (S' := S) am_e13 rfl rfl rfl rfl ?_
    exact h
-- 13 fill
theorem g13_0_98 {p2 : Int32} {E : am_Ev} {I : Nat → Nat → Int32} {J : Nat → Nat → Int64} {S : Nat → Nat → Option Nat} {Q : am_Qt}  (h : am_ww 13 5 [.ref 98, .int p2, .int (nI 0), .int (nI 64)] [] E I J S Q) : am_ww 13 0 [.ref 98, .int p2, am_U, am_U] [] E I J S Q := by
  refine w_st (i' := 1) (ls' := [.ref 98, .int p2, am_U, am_U]) (st' := [.int (nI 0)]) (E' := E) (I' := I) (J' := J) (S' := S) am_e13 rfl rfl rfl rfl ?_
  refine w_st (i' := 2) (ls' := [.ref 98, .int p2, .int (nI 0), am_U]) (st' := []) (E' := E) (I' := I) (J' := J) (S' := S) am_e13 rfl rfl rfl rfl ?_
  refine w_st (i' := 3) (ls' := [.ref 98, .int p2, .int (nI 0), am_U]) (st' := [.ref 98]) (E' := E) (I' := I) (J' := J) (S' := S) am_e13 rfl rfl rfl rfl ?_
  refine w_st (i' := 4) (ls' := [.ref 98, .int p2, .int (nI 0), am_U]) (st' := [.int (nI 64)]) (E' := E) (I' := I) (J' := J) (S' := S) am_e13 rfl rfl rfl rfl ?_
  refine w_st (i' := 5) (ls' := [.ref 98, .int p2, .int (nI 0), .int (nI 64)]) (st' := []) (E' := E) (I' := I) (J' := J) (S' := S) am_e13 rfl rfl rfl rfl ?_
  exact h
theorem g13_5_98 {x1 : Int32} {x2 : Int32} {x3 : Int32} {E : am_Ev} {I : Nat → Nat → Int32} {J : Nat → Nat → Int64} {S : Nat → Nat → Option Nat} {Q : am_Qt}  (h : (x3 ≤ x2 → (Q (.inl none) E I J S)) ∧ (¬ x3 ≤ x2 → (vp_in x2 64 ∧ (am_ww 13 5 [.ref 98, .int x1, .int (x2 + nI 1), .int x3] [] E (u_I I 98 (upd (I 98) x2.toNatClampNeg x1)) J S Q)))) : am_ww 13 5 [.ref 98, .int x1, .int x2, .int x3] [] E I J S Q := by
  refine w_st (i' := 6) (ls' := [.ref 98, .int x1, .int x2, .int x3]) (st' := [.int x2]) (E' := E) (I' := I) (J' := J) (S' := S) am_e13 rfl rfl rfl rfl ?_
  refine w_st (i' := 7) (ls' := [.ref 98, .int x1, .int x2, .int x3]) (st' := [.int x3, .int x2]) (E' := E) (I' := I) (J' := J) (S' := S) am_e13 rfl rfl rfl rfl ?_
  refine w_if2 am_e13 rfl rfl (fun c => ?_) (fun c => ?_)
  · replace h := h.1 (of_decide_eq_true c)
    exact w_end am_e13 rfl rfl rfl h
  · replace h := h.2 (of_decide_eq_false c)
    refine w_st (i' := 9) (ls' := [.ref 98, .int x1, .int x2, .int x3]) (st' := [.ref 98]) (E' := E) (I' := I) (J' := J) (S' := S) am_e13 rfl rfl rfl rfl ?_
    refine w_st (i' := 10) (ls' := [.ref 98, .int x1, .int x2, .int x3]) (st' := [.int x2, .ref 98]) (E' := E) (I' := I) (J' := J) (S' := S) am_e13 rfl rfl rfl rfl ?_
    refine w_st (i' := 11) (ls' := [.ref 98, .int x1, .int x2, .int x3]) (st' := [.int x1, .int x2, .ref 98]) (E' := E) (I' := I) (J' := J) (S' := S) am_e13 rfl rfl rfl rfl ?_
    have hf1 := h.1
    replace h := h.2
    refine w_is (k := 98) (n := 64) (jn := x2.toNatClampNeg) am_e13 rfl rfl (by decide) hf1 rfl ?_
    show am_ww 13 12 [.ref 98, .int x1, .int x2, .int x3] [] E (u_I I 98 (upd (I 98) x2.toNatClampNeg x1)) J S _
    refine w_st (i' := 13) (ls' := [.ref 98, .int x1, .int (x2 + nI 1), .int x3]) (st' := []) (E' := E) (I' := (u_I I 98 (upd (I 98) x2.toNatClampNeg x1))) (J' := J) (S' := S) am_e13 rfl rfl rfl rfl ?_
    refine w_st (i' := 5) (ls' := [.ref 98, .int x1, .int (x2 + nI 1), .int x3]) (st' := []) (E' := E) (I' := (u_I I 98 (upd (I 98) x2.toNatClampNeg x1))) (J' := J) (S' := S) am_e13 rfl rfl rfl rfl ?_
    exact h
-- 62 fill
theorem g62_0_9 {p2 : Int64} {E : am_Ev} {I : Nat → Nat → Int32} {J : Nat → Nat → Int64} {S : Nat → Nat → Option Nat} {Q : am_Qt}  (h : am_ww 62 5 [.ref 9, .long p2, am_U, .int (nI 0), .int (nI 64)] [] E I J S Q) : am_ww 62 0 [.ref 9, .long p2, am_U, am_U, am_U] [] E I J S Q := by
  refine w_st (i' := 1) (ls' := [.ref 9, .long p2, am_U, am_U, am_U]) (st' := [.int (nI 0)]) (E' := E) (I' := I) (J' := J) (S' := S) am_e62 rfl rfl rfl rfl ?_
  refine w_st (i' := 2) (ls' := [.ref 9, .long p2, am_U, .int (nI 0), am_U]) (st' := []) (E' := E) (I' := I) (J' := J) (S' := S) am_e62 rfl rfl rfl rfl ?_
  refine w_st (i' := 3) (ls' := [.ref 9, .long p2, am_U, .int (nI 0), am_U]) (st' := [.ref 9]) (E' := E) (I' := I) (J' := J) (S' := S) am_e62 rfl rfl rfl rfl ?_
  refine w_st (i' := 4) (ls' := [.ref 9, .long p2, am_U, .int (nI 0), am_U]) (st' := [.int (nI 64)]) (E' := E) (I' := I) (J' := J) (S' := S) am_e62 rfl rfl rfl rfl ?_
  refine w_st (i' := 5) (ls' := [.ref 9, .long p2, am_U, .int (nI 0), .int (nI 64)]) (st' := []) (E' := E) (I' := I) (J' := J) (S' := S) am_e62 rfl rfl rfl rfl ?_
  exact h
theorem g62_5_9 {x1 : Int64} {d2 : Value} {x3 : Int32} {x4 : Int32} {E : am_Ev} {I : Nat → Nat → Int32} {J : Nat → Nat → Int64} {S : Nat → Nat → Option Nat} {Q : am_Qt} (hd2 : am_isL d2 = false) (h : (x4 ≤ x3 → (Q (.inl none) E I J S)) ∧ (¬ x4 ≤ x3 → (vp_in x3 64 ∧ (am_ww 62 5 [.ref 9, .long x1, d2, .int (x3 + nI 1), .int x4] [] E I (u_J J 9 (vp_updL (J 9) x3.toNatClampNeg x1)) S Q)))) : am_ww 62 5 [.ref 9, .long x1, d2, .int x3, .int x4] [] E I J S Q := by
  refine w_st (i' := 6) (ls' := [.ref 9, .long x1, d2, .int x3, .int x4]) (st' := [.int x3]) (E' := E) (I' := I) (J' := J) (S' := S) am_e62 rfl rfl rfl rfl ?_
  refine w_st (i' := 7) (ls' := [.ref 9, .long x1, d2, .int x3, .int x4]) (st' := [.int x4, .int x3]) (E' := E) (I' := I) (J' := J) (S' := S) am_e62 rfl rfl rfl rfl ?_
  refine w_if2 am_e62 rfl rfl (fun c => ?_) (fun c => ?_)
  · replace h := h.1 (of_decide_eq_true c)
    exact w_end am_e62 rfl rfl rfl h
  · replace h := h.2 (of_decide_eq_false c)
    refine w_st (i' := 9) (ls' := [.ref 9, .long x1, d2, .int x3, .int x4]) (st' := [.ref 9]) (E' := E) (I' := I) (J' := J) (S' := S) am_e62 rfl rfl rfl rfl ?_
    refine w_st (i' := 10) (ls' := [.ref 9, .long x1, d2, .int x3, .int x4]) (st' := [.int x3, .ref 9]) (E' := E) (I' := I) (J' := J) (S' := S) am_e62 rfl rfl rfl rfl ?_
    refine w_st (i' := 11) (ls' := [.ref 9, .long x1, d2, .int x3, .int x4]) (st' := [.long x1, .int x3, .ref 9]) (E' := E) (I' := I) (J' := J) (S' := S) am_e62 rfl rfl rfl rfl ?_
    have hf1 := h.1
    replace h := h.2
    refine w_ls (k := 9) (n := 64) (jn := x3.toNatClampNeg) am_e62 rfl rfl (by decide) hf1 rfl ?_
    show am_ww 62 12 [.ref 9, .long x1, d2, .int x3, .int x4] [] E I (u_J J 9 (vp_updL (J 9) x3.toNatClampNeg x1)) S _
    refine w_st (i' := 13) (ls' := [.ref 9, .long x1, d2, .int (x3 + nI 1), .int x4]) (st' := []) (E' := E) (I' := I) (J' := (u_J J 9 (vp_updL (J 9) x3.toNatClampNeg x1))) (S' := S) am_e62 rfl rfl rfl (by simp [am_step, am_sto, am_inc, hd2]) ?_
    refine w_st (i' := 5) (ls' := [.ref 9, .long x1, d2, .int (x3 + nI 1), .int x4]) (st' := []) (E' := E) (I' := I) (J' := (u_J J 9 (vp_updL (J 9) x3.toNatClampNeg x1))) (S' := S) am_e62 rfl rfl rfl rfl ?_
    exact h
-- 62 fill
theorem g62_0_10 {p2 : Int64} {E : am_Ev} {I : Nat → Nat → Int32} {J : Nat → Nat → Int64} {S : Nat → Nat → Option Nat} {Q : am_Qt}  (h : am_ww 62 5 [.ref 10, .long p2, am_U, .int (nI 0), .int (nI 64)] [] E I J S Q) : am_ww 62 0 [.ref 10, .long p2, am_U, am_U, am_U] [] E I J S Q := by
  refine w_st (i' := 1) (ls' := [.ref 10, .long p2, am_U, am_U, am_U]) (st' := [.int (nI 0)]) (E' := E) (I' := I) (J' := J) (S' := S) am_e62 rfl rfl rfl rfl ?_
  refine w_st (i' := 2) (ls' := [.ref 10, .long p2, am_U, .int (nI 0), am_U]) (st' := []) (E' := E) (I' := I) (J' := J) (S' := S) am_e62 rfl rfl rfl rfl ?_
  refine w_st (i' := 3) (ls' := [.ref 10, .long p2, am_U, .int (nI 0), am_U]) (st' := [.ref 10]) (E' := E) (I' := I) (J' := J) (S' := S) am_e62 rfl rfl rfl rfl ?_
  refine w_st (i' := 4) (ls' := [.ref 10, .long p2, am_U, .int (nI 0), am_U]) (st' := [.int (nI 64)]) (E' := E) (I' := I) (J' := J) (S' := S) am_e62 rfl rfl rfl rfl ?_
  refine w_st (i' := 5) (ls' := [.ref 10, .long p2, am_U, .int (nI 0), .int (nI 64)]) (st' := []) (E' := E) (I' := I) (J' := J) (S' := S) am_e62 rfl rfl rfl rfl ?_
  exact h
theorem g62_5_10 {x1 : Int64} {d2 : Value} {x3 : Int32} {x4 : Int32} {E : am_Ev} {I : Nat → Nat → Int32} {J : Nat → Nat → Int64} {S : Nat → Nat → Option Nat} {Q : am_Qt} (hd2 : am_isL d2 = false) (h : (x4 ≤ x3 → (Q (.inl none) E I J S)) ∧ (¬ x4 ≤ x3 → (vp_in x3 64 ∧ (am_ww 62 5 [.ref 10, .long x1, d2, .int (x3 + nI 1), .int x4] [] E I (u_J J 10 (vp_updL (J 10) x3.toNatClampNeg x1)) S Q)))) : am_ww 62 5 [.ref 10, .long x1, d2, .int x3, .int x4] [] E I J S Q := by
  refine w_st (i' := 6) (ls' := [.ref 10, .long x1, d2, .int x3, .int x4]) (st' := [.int x3]) (E' := E) (I' := I) (J' := J) (S' := S) am_e62 rfl rfl rfl rfl ?_
  refine w_st (i' := 7) (ls' := [.ref 10, .long x1, d2, .int x3, .int x4]) (st' := [.int x4, .int x3]) (E' := E) (I' := I) (J' := J) (S' := S) am_e62 rfl rfl rfl rfl ?_
  refine w_if2 am_e62 rfl rfl (fun c => ?_) (fun c => ?_)
  · replace h := h.1 (of_decide_eq_true c)
    exact w_end am_e62 rfl rfl rfl h
  · replace h := h.2 (of_decide_eq_false c)
    refine w_st (i' := 9) (ls' := [.ref 10, .long x1, d2, .int x3, .int x4]) (st' := [.ref 10]) (E' := E) (I' := I) (J' := J) (S' := S) am_e62 rfl rfl rfl rfl ?_
    refine w_st (i' := 10) (ls' := [.ref 10, .long x1, d2, .int x3, .int x4]) (st' := [.int x3, .ref 10]) (E' := E) (I' := I) (J' := J) (S' := S) am_e62 rfl rfl rfl rfl ?_
    refine w_st (i' := 11) (ls' := [.ref 10, .long x1, d2, .int x3, .int x4]) (st' := [.long x1, .int x3, .ref 10]) (E' := E) (I' := I) (J' := J) (S' := S) am_e62 rfl rfl rfl rfl ?_
    have hf1 := h.1
    replace h := h.2
    refine w_ls (k := 10) (n := 64) (jn := x3.toNatClampNeg) am_e62 rfl rfl (by decide) hf1 rfl ?_
    show am_ww 62 12 [.ref 10, .long x1, d2, .int x3, .int x4] [] E I (u_J J 10 (vp_updL (J 10) x3.toNatClampNeg x1)) S _
    refine w_st (i' := 13) (ls' := [.ref 10, .long x1, d2, .int (x3 + nI 1), .int x4]) (st' := []) (E' := E) (I' := I) (J' := (u_J J 10 (vp_updL (J 10) x3.toNatClampNeg x1))) (S' := S) am_e62 rfl rfl rfl (by simp [am_step, am_sto, am_inc, hd2]) ?_
    refine w_st (i' := 5) (ls' := [.ref 10, .long x1, d2, .int (x3 + nI 1), .int x4]) (st' := []) (E' := E) (I' := I) (J' := (u_J J 10 (vp_updL (J 10) x3.toNatClampNeg x1))) (S' := S) am_e62 rfl rfl rfl rfl ?_
    exact h
-- 62 fill
theorem g62_0_95 {p2 : Int64} {E : am_Ev} {I : Nat → Nat → Int32} {J : Nat → Nat → Int64} {S : Nat → Nat → Option Nat} {Q : am_Qt}  (h : am_ww 62 5 [.ref 95, .long p2, am_U, .int (nI 0), .int (nI 64)] [] E I J S Q) : am_ww 62 0 [.ref 95, .long p2, am_U, am_U, am_U] [] E I J S Q := by
  refine w_st (i' := 1) (ls' := [.ref 95, .long p2, am_U, am_U, am_U]) (st' := [.int (nI 0)]) (E' := E) (I' := I) (J' := J) (S' := S) am_e62 rfl rfl rfl rfl ?_
  refine w_st (i' := 2) (ls' := [.ref 95, .long p2, am_U, .int (nI 0), am_U]) (st' := []) (E' := E) (I' := I) (J' := J) (S' := S) am_e62 rfl rfl rfl rfl ?_
  refine w_st (i' := 3) (ls' := [.ref 95, .long p2, am_U, .int (nI 0), am_U]) (st' := [.ref 95]) (E' := E) (I' := I) (J' := J) (S' := S) am_e62 rfl rfl rfl rfl ?_
  refine w_st (i' := 4) (ls' := [.ref 95, .long p2, am_U, .int (nI 0), am_U]) (st' := [.int (nI 64)]) (E' := E) (I' := I) (J' := J) (S' := S) am_e62 rfl rfl rfl rfl ?_
  refine w_st (i' := 5) (ls' := [.ref 95, .long p2, am_U, .int (nI 0), .int (nI 64)]) (st' := []) (E' := E) (I' := I) (J' := J) (S' := S) am_e62 rfl rfl rfl rfl ?_
  exact h
theorem g62_5_95 {x1 : Int64} {d2 : Value} {x3 : Int32} {x4 : Int32} {E : am_Ev} {I : Nat → Nat → Int32} {J : Nat → Nat → Int64} {S : Nat → Nat → Option Nat} {Q : am_Qt} (hd2 : am_isL d2 = false) (h : (x4 ≤ x3 → (Q (.inl none) E I J S)) ∧ (¬ x4 ≤ x3 → (vp_in x3 64 ∧ (am_ww 62 5 [.ref 95, .long x1, d2, .int (x3 + nI 1), .int x4] [] E I (u_J J 95 (vp_updL (J 95) x3.toNatClampNeg x1)) S Q)))) : am_ww 62 5 [.ref 95, .long x1, d2, .int x3, .int x4] [] E I J S Q := by
  refine w_st (i' := 6) (ls' := [.ref 95, .long x1, d2, .int x3, .int x4]) (st' := [.int x3]) (E' := E) (I' := I) (J' := J) (S' := S) am_e62 rfl rfl rfl rfl ?_
  refine w_st (i' := 7) (ls' := [.ref 95, .long x1, d2, .int x3, .int x4]) (st' := [.int x4, .int x3]) (E' := E) (I' := I) (J' := J) (S' := S) am_e62 rfl rfl rfl rfl ?_
  refine w_if2 am_e62 rfl rfl (fun c => ?_) (fun c => ?_)
  · replace h := h.1 (of_decide_eq_true c)
    exact w_end am_e62 rfl rfl rfl h
  · replace h := h.2 (of_decide_eq_false c)
    refine w_st (i' := 9) (ls' := [.ref 95, .long x1, d2, .int x3, .int x4]) (st' := [.ref 95]) (E' := E) (I' := I) (J' := J) (S' := S) am_e62 rfl rfl rfl rfl ?_
    refine w_st (i' := 10) (ls' := [.ref 95, .long x1, d2, .int x3, .int x4]) (st' := [.int x3, .ref 95]) (E' := E) (I' := I) (J' := J) (S' := S) am_e62 rfl rfl rfl rfl ?_
    refine w_st (i' := 11) (ls' := [.ref 95, .long x1, d2, .int x3, .int x4]) (st' := [.long x1, .int x3, .ref 95]) (E' := E) (I' := I) (J' := J) (S' := S) am_e62 rfl rfl rfl rfl ?_
    have hf1 := h.1
    replace h := h.2
    refine w_ls (k := 95) (n := 64) (jn := x3.toNatClampNeg) am_e62 rfl rfl (by decide) hf1 rfl ?_
    show am_ww 62 12 [.ref 95, .long x1, d2, .int x3, .int x4] [] E I (u_J J 95 (vp_updL (J 95) x3.toNatClampNeg x1)) S _
    refine w_st (i' := 13) (ls' := [.ref 95, .long x1, d2, .int (x3 + nI 1), .int x4]) (st' := []) (E' := E) (I' := I) (J' := (u_J J 95 (vp_updL (J 95) x3.toNatClampNeg x1))) (S' := S) am_e62 rfl rfl rfl (by simp [am_step, am_sto, am_inc, hd2]) ?_
    refine w_st (i' := 5) (ls' := [.ref 95, .long x1, d2, .int (x3 + nI 1), .int x4]) (st' := []) (E' := E) (I' := I) (J' := (u_J J 95 (vp_updL (J 95) x3.toNatClampNeg x1))) (S' := S) am_e62 rfl rfl rfl rfl ?_
    exact h
-- 99 sum
theorem g99_0_26  {E : am_Ev} {I : Nat → Nat → Int32} {J : Nat → Nat → Int64} {S : Nat → Nat → Option Nat} {Q : am_Qt}  (h : am_ww 99 9 [.ref 26, .int (nI 0), .ref 26, .int (nI 3), .int (nI 0), am_U] [] E I J S Q) : am_ww 99 0 [.ref 26, am_U, am_U, am_U, am_U, am_U] [] E I J S Q := by
  refine w_st (i' := 1) (ls' := [.ref 26, am_U, am_U, am_U, am_U, am_U]) (st' := [.int (nI 0)]) (E' := E) (I' := I) (J' := J) (S' := S) am_e99 rfl rfl rfl rfl ?_
  refine w_st (i' := 2) (ls' := [.ref 26, .int (nI 0), am_U, am_U, am_U, am_U]) (st' := []) (E' := E) (I' := I) (J' := J) (S' := S) am_e99 rfl rfl rfl rfl ?_
  refine w_st (i' := 3) (ls' := [.ref 26, .int (nI 0), am_U, am_U, am_U, am_U]) (st' := [.ref 26]) (E' := E) (I' := I) (J' := J) (S' := S) am_e99 rfl rfl rfl rfl ?_
  refine w_st (i' := 4) (ls' := [.ref 26, .int (nI 0), .ref 26, am_U, am_U, am_U]) (st' := []) (E' := E) (I' := I) (J' := J) (S' := S) am_e99 rfl rfl rfl rfl ?_
  refine w_st (i' := 5) (ls' := [.ref 26, .int (nI 0), .ref 26, am_U, am_U, am_U]) (st' := [.ref 26]) (E' := E) (I' := I) (J' := J) (S' := S) am_e99 rfl rfl rfl rfl ?_
  refine w_st (i' := 6) (ls' := [.ref 26, .int (nI 0), .ref 26, am_U, am_U, am_U]) (st' := [.int (nI 3)]) (E' := E) (I' := I) (J' := J) (S' := S) am_e99 rfl rfl rfl rfl ?_
  refine w_st (i' := 7) (ls' := [.ref 26, .int (nI 0), .ref 26, .int (nI 3), am_U, am_U]) (st' := []) (E' := E) (I' := I) (J' := J) (S' := S) am_e99 rfl rfl rfl rfl ?_
  refine w_st (i' := 8) (ls' := [.ref 26, .int (nI 0), .ref 26, .int (nI 3), am_U, am_U]) (st' := [.int (nI 0)]) (E' := E) (I' := I) (J' := J) (S' := S) am_e99 rfl rfl rfl rfl ?_
  refine w_st (i' := 9) (ls' := [.ref 26, .int (nI 0), .ref 26, .int (nI 3), .int (nI 0), am_U]) (st' := []) (E' := E) (I' := I) (J' := J) (S' := S) am_e99 rfl rfl rfl rfl ?_
  exact h
theorem g99_9_26 {d0 : Value} {x1 : Int32} {x3 : Int32} {x4 : Int32} {d5 : Value} {E : am_Ev} {I : Nat → Nat → Int32} {J : Nat → Nat → Int64} {S : Nat → Nat → Option Nat} {Q : am_Qt} (hd0 : am_isL d0 = false) (hd5 : am_isL d5 = false) (h : (x3 ≤ x4 → (Q (.inl (some (.int x1))) E I J S)) ∧ (¬ x3 ≤ x4 → (vp_in x4 3 ∧ (∀ w2 : Int32, w2 = (x1 + ((I 26) x4.toNatClampNeg)) → (am_ww 99 9 [d0, .int w2, .ref 26, .int x3, .int (x4 + nI 1), .int ((I 26) x4.toNatClampNeg)] [] E I J S Q))))) : am_ww 99 9 [d0, .int x1, .ref 26, .int x3, .int x4, d5] [] E I J S Q := by
  refine w_st (i' := 10) (ls' := [d0, .int x1, .ref 26, .int x3, .int x4, d5]) (st' := [.int x4]) (E' := E) (I' := I) (J' := J) (S' := S) am_e99 rfl rfl rfl rfl ?_
  refine w_st (i' := 11) (ls' := [d0, .int x1, .ref 26, .int x3, .int x4, d5]) (st' := [.int x3, .int x4]) (E' := E) (I' := I) (J' := J) (S' := S) am_e99 rfl rfl rfl rfl ?_
  refine w_if2 am_e99 rfl rfl (fun c => ?_) (fun c => ?_)
  · replace h := h.1 (of_decide_eq_true c)
    refine w_st (i' := 23) (ls' := [d0, .int x1, .ref 26, .int x3, .int x4, d5]) (st' := [.int x1]) (E' := E) (I' := I) (J' := J) (S' := S) am_e99 rfl rfl rfl rfl ?_
    exact w_ri am_e99 rfl rfl h
  · replace h := h.2 (of_decide_eq_false c)
    refine w_st (i' := 13) (ls' := [d0, .int x1, .ref 26, .int x3, .int x4, d5]) (st' := [.ref 26]) (E' := E) (I' := I) (J' := J) (S' := S) am_e99 rfl rfl rfl rfl ?_
    refine w_st (i' := 14) (ls' := [d0, .int x1, .ref 26, .int x3, .int x4, d5]) (st' := [.int x4, .ref 26]) (E' := E) (I' := I) (J' := J) (S' := S) am_e99 rfl rfl rfl rfl ?_
    have hf1 := h.1
    replace h := h.2
    refine w_ia (k := 26) (n := 3) (jn := x4.toNatClampNeg) am_e99 rfl rfl (by decide) hf1 rfl ?_
    refine w_st (i' := 16) (ls' := [d0, .int x1, .ref 26, .int x3, .int x4, .int ((I 26) x4.toNatClampNeg)]) (st' := []) (E' := E) (I' := I) (J' := J) (S' := S) am_e99 rfl rfl rfl rfl ?_
    refine w_st (i' := 17) (ls' := [d0, .int x1, .ref 26, .int x3, .int x4, .int ((I 26) x4.toNatClampNeg)]) (st' := [.int x1]) (E' := E) (I' := I) (J' := J) (S' := S) am_e99 rfl rfl rfl rfl ?_
    refine w_st (i' := 18) (ls' := [d0, .int x1, .ref 26, .int x3, .int x4, .int ((I 26) x4.toNatClampNeg)]) (st' := [.int ((I 26) x4.toNatClampNeg), .int x1]) (E' := E) (I' := I) (J' := J) (S' := S) am_e99 rfl rfl rfl rfl ?_
    refine w_st (i' := 19) (ls' := [d0, .int x1, .ref 26, .int x3, .int x4, .int ((I 26) x4.toNatClampNeg)]) (st' := [.int (x1 + ((I 26) x4.toNatClampNeg))]) (E' := E) (I' := I) (J' := J) (S' := S) am_e99 rfl rfl rfl rfl ?_
    refine w_st (i' := 20) (ls' := [d0, .int (x1 + ((I 26) x4.toNatClampNeg)), .ref 26, .int x3, .int x4, .int ((I 26) x4.toNatClampNeg)]) (st' := []) (E' := E) (I' := I) (J' := J) (S' := S) am_e99 rfl rfl rfl (by simp [am_step, am_sto, hd0]) ?_
    refine w_var (fun w2 => am_ww 99 20 [d0, .int w2, .ref 26, .int x3, .int x4, .int ((I 26) x4.toNatClampNeg)] [] E I J S _) (x1 + ((I 26) x4.toNatClampNeg)) (fun w2 hw2 => ?_)
    replace h := h w2 hw2
    refine w_st (i' := 21) (ls' := [d0, .int w2, .ref 26, .int x3, .int (x4 + nI 1), .int ((I 26) x4.toNatClampNeg)]) (st' := []) (E' := E) (I' := I) (J' := J) (S' := S) am_e99 rfl rfl rfl rfl ?_
    refine w_st (i' := 9) (ls' := [d0, .int w2, .ref 26, .int x3, .int (x4 + nI 1), .int ((I 26) x4.toNatClampNeg)]) (st' := []) (E' := E) (I' := I) (J' := J) (S' := S) am_e99 rfl rfl rfl rfl ?_
    exact h
-- 99 sum
theorem g99_0_28  {E : am_Ev} {I : Nat → Nat → Int32} {J : Nat → Nat → Int64} {S : Nat → Nat → Option Nat} {Q : am_Qt}  (h : am_ww 99 9 [.ref 28, .int (nI 0), .ref 28, .int (nI 3), .int (nI 0), am_U] [] E I J S Q) : am_ww 99 0 [.ref 28, am_U, am_U, am_U, am_U, am_U] [] E I J S Q := by
  refine w_st (i' := 1) (ls' := [.ref 28, am_U, am_U, am_U, am_U, am_U]) (st' := [.int (nI 0)]) (E' := E) (I' := I) (J' := J) (S' := S) am_e99 rfl rfl rfl rfl ?_
  refine w_st (i' := 2) (ls' := [.ref 28, .int (nI 0), am_U, am_U, am_U, am_U]) (st' := []) (E' := E) (I' := I) (J' := J) (S' := S) am_e99 rfl rfl rfl rfl ?_
  refine w_st (i' := 3) (ls' := [.ref 28, .int (nI 0), am_U, am_U, am_U, am_U]) (st' := [.ref 28]) (E' := E) (I' := I) (J' := J) (S' := S) am_e99 rfl rfl rfl rfl ?_
  refine w_st (i' := 4) (ls' := [.ref 28, .int (nI 0), .ref 28, am_U, am_U, am_U]) (st' := []) (E' := E) (I' := I) (J' := J) (S' := S) am_e99 rfl rfl rfl rfl ?_
  refine w_st (i' := 5) (ls' := [.ref 28, .int (nI 0), .ref 28, am_U, am_U, am_U]) (st' := [.ref 28]) (E' := E) (I' := I) (J' := J) (S' := S) am_e99 rfl rfl rfl rfl ?_
  refine w_st (i' := 6) (ls' := [.ref 28, .int (nI 0), .ref 28, am_U, am_U, am_U]) (st' := [.int (nI 3)]) (E' := E) (I' := I) (J' := J) (S' := S) am_e99 rfl rfl rfl rfl ?_
  refine w_st (i' := 7) (ls' := [.ref 28, .int (nI 0), .ref 28, .int (nI 3), am_U, am_U]) (st' := []) (E' := E) (I' := I) (J' := J) (S' := S) am_e99 rfl rfl rfl rfl ?_
  refine w_st (i' := 8) (ls' := [.ref 28, .int (nI 0), .ref 28, .int (nI 3), am_U, am_U]) (st' := [.int (nI 0)]) (E' := E) (I' := I) (J' := J) (S' := S) am_e99 rfl rfl rfl rfl ?_
  refine w_st (i' := 9) (ls' := [.ref 28, .int (nI 0), .ref 28, .int (nI 3), .int (nI 0), am_U]) (st' := []) (E' := E) (I' := I) (J' := J) (S' := S) am_e99 rfl rfl rfl rfl ?_
  exact h
theorem g99_9_28 {d0 : Value} {x1 : Int32} {x3 : Int32} {x4 : Int32} {d5 : Value} {E : am_Ev} {I : Nat → Nat → Int32} {J : Nat → Nat → Int64} {S : Nat → Nat → Option Nat} {Q : am_Qt} (hd0 : am_isL d0 = false) (hd5 : am_isL d5 = false) (h : (x3 ≤ x4 → (Q (.inl (some (.int x1))) E I J S)) ∧ (¬ x3 ≤ x4 → (vp_in x4 3 ∧ (∀ w2 : Int32, w2 = (x1 + ((I 28) x4.toNatClampNeg)) → (am_ww 99 9 [d0, .int w2, .ref 28, .int x3, .int (x4 + nI 1), .int ((I 28) x4.toNatClampNeg)] [] E I J S Q))))) : am_ww 99 9 [d0, .int x1, .ref 28, .int x3, .int x4, d5] [] E I J S Q := by
  refine w_st (i' := 10) (ls' := [d0, .int x1, .ref 28, .int x3, .int x4, d5]) (st' := [.int x4]) (E' := E) (I' := I) (J' := J) (S' := S) am_e99 rfl rfl rfl rfl ?_
  refine w_st (i' := 11) (ls' := [d0, .int x1, .ref 28, .int x3, .int x4, d5]) (st' := [.int x3, .int x4]) (E' := E) (I' := I) (J' := J) (S' := S) am_e99 rfl rfl rfl rfl ?_
  refine w_if2 am_e99 rfl rfl (fun c => ?_) (fun c => ?_)
  · replace h := h.1 (of_decide_eq_true c)
    refine w_st (i' := 23) (ls' := [d0, .int x1, .ref 28, .int x3, .int x4, d5]) (st' := [.int x1]) (E' := E) (I' := I) (J' := J) (S' := S) am_e99 rfl rfl rfl rfl ?_
    exact w_ri am_e99 rfl rfl h
  · replace h := h.2 (of_decide_eq_false c)
    refine w_st (i' := 13) (ls' := [d0, .int x1, .ref 28, .int x3, .int x4, d5]) (st' := [.ref 28]) (E' := E) (I' := I) (J' := J) (S' := S) am_e99 rfl rfl rfl rfl ?_
    refine w_st (i' := 14) (ls' := [d0, .int x1, .ref 28, .int x3, .int x4, d5]) (st' := [.int x4, .ref 28]) (E' := E) (I' := I) (J' := J) (S' := S) am_e99 rfl rfl rfl rfl ?_
    have hf1 := h.1
    replace h := h.2
    refine w_ia (k := 28) (n := 3) (jn := x4.toNatClampNeg) am_e99 rfl rfl (by decide) hf1 rfl ?_
    refine w_st (i' := 16) (ls' := [d0, .int x1, .ref 28, .int x3, .int x4, .int ((I 28) x4.toNatClampNeg)]) (st' := []) (E' := E) (I' := I) (J' := J) (S' := S) am_e99 rfl rfl rfl rfl ?_
    refine w_st (i' := 17) (ls' := [d0, .int x1, .ref 28, .int x3, .int x4, .int ((I 28) x4.toNatClampNeg)]) (st' := [.int x1]) (E' := E) (I' := I) (J' := J) (S' := S) am_e99 rfl rfl rfl rfl ?_
    refine w_st (i' := 18) (ls' := [d0, .int x1, .ref 28, .int x3, .int x4, .int ((I 28) x4.toNatClampNeg)]) (st' := [.int ((I 28) x4.toNatClampNeg), .int x1]) (E' := E) (I' := I) (J' := J) (S' := S) am_e99 rfl rfl rfl rfl ?_
    refine w_st (i' := 19) (ls' := [d0, .int x1, .ref 28, .int x3, .int x4, .int ((I 28) x4.toNatClampNeg)]) (st' := [.int (x1 + ((I 28) x4.toNatClampNeg))]) (E' := E) (I' := I) (J' := J) (S' := S) am_e99 rfl rfl rfl rfl ?_
    refine w_st (i' := 20) (ls' := [d0, .int (x1 + ((I 28) x4.toNatClampNeg)), .ref 28, .int x3, .int x4, .int ((I 28) x4.toNatClampNeg)]) (st' := []) (E' := E) (I' := I) (J' := J) (S' := S) am_e99 rfl rfl rfl (by simp [am_step, am_sto, hd0]) ?_
    refine w_var (fun w2 => am_ww 99 20 [d0, .int w2, .ref 28, .int x3, .int x4, .int ((I 28) x4.toNatClampNeg)] [] E I J S _) (x1 + ((I 28) x4.toNatClampNeg)) (fun w2 hw2 => ?_)
    replace h := h w2 hw2
    refine w_st (i' := 21) (ls' := [d0, .int w2, .ref 28, .int x3, .int (x4 + nI 1), .int ((I 28) x4.toNatClampNeg)]) (st' := []) (E' := E) (I' := I) (J' := J) (S' := S) am_e99 rfl rfl rfl rfl ?_
    refine w_st (i' := 9) (ls' := [d0, .int w2, .ref 28, .int x3, .int (x4 + nI 1), .int ((I 28) x4.toNatClampNeg)]) (st' := []) (E' := E) (I' := I) (J' := J) (S' := S) am_e99 rfl rfl rfl rfl ?_
    exact h
