/-! rows of methods, by program -/
-- 41 forgetViews
theorem g41_0  {E : am_Ev} {I : Nat → Nat → Int32} {J : Nat → Nat → Int64} {S : Nat → Nat → Option Nat} {Q : am_Qt}  (h : am_cl 17 [.ref 60, .ref 12] E I J S (q_V fun E1 I1 J1 S1 => Q (.inl none) E1 (u_I I1 89 (upd (I1 89) 8 (nI 0))) J1 S1)) : am_ww 41 0 [.ref 0] [] E I J S Q := by
  refine w_st (i' := 1) (ls' := [.ref 0]) (st' := [.ref 0]) (E' := E) (I' := I) (J' := J) (S' := S) am_e41 rfl rfl rfl rfl ?_
  refine w_st (i' := 2) (ls' := [.ref 0]) (st' := [.ref 60]) (E' := E) (I' := I) (J' := J) (S' := S) am_e41 rfl rfl rfl rfl ?_
  refine w_st (i' := 3) (ls' := [.ref 0]) (st' := [.ref 0, .ref 60]) (E' := E) (I' := I) (J' := J) (S' := S) am_e41 rfl rfl rfl rfl ?_
  refine w_st (i' := 4) (ls' := [.ref 0]) (st' := [.ref 12, .ref 60]) (E' := E) (I' := I) (J' := J) (S' := S) am_e41 rfl rfl rfl rfl ?_
  refine w_cV am_e41 rfl rfl (as := [.ref 60, .ref 12]) (rest := []) rfl rfl (am_ww.mono h ?_)
  rintro _ E1 I1 J1 S1 ⟨rfl, h⟩
  refine q_mkV ?_
  refine w_st (i' := 6) (ls' := [.ref 0]) (st' := [.ref 0]) (E' := E1) (I' := I1) (J' := J1) (S' := S1) am_e41 rfl rfl rfl rfl ?_
  refine w_st (i' := 7) (ls' := [.ref 0]) (st' := [.ref 89]) (E' := E1) (I' := I1) (J' := J1) (S' := S1) am_e41 rfl rfl rfl rfl ?_
  refine w_st (i' := 8) (ls' := [.ref 0]) (st' := [.int (nI 0), .ref 89]) (E' := E1) (I' := I1) (J' := J1) (S' := S1) am_e41 rfl rfl rfl rfl ?_
  refine w_st (i' := 9) (ls' := [.ref 0]) (st' := []) (E' := E1) (I' := (u_I I1 89 (upd (I1 89) 8 (nI 0)))) (J' := J1) (S' := S1) am_e41 rfl rfl rfl rfl ?_
  exact w_end am_e41 rfl rfl rfl h
-- 101 snapshotsNow
theorem g101_0  {E : am_Ev} {I : Nat → Nat → Int32} {J : Nat → Nat → Int64} {S : Nat → Nat → Option Nat} {Q : am_Qt}  (h : am_cl 102 [.ref 85, .int ((I 18) 10), .int ((I 17) 3)] E I J S (q_V fun E1 I1 J1 S1 => Q (.inl (some (.ref 85))) E1 I1 J1 S1)) : am_ww 101 0 [.ref 0] [] E I J S Q := by
  refine w_st (i' := 1) (ls' := [.ref 0]) (st' := [.ref 0]) (E' := E) (I' := I) (J' := J) (S' := S) am_e101 rfl rfl rfl rfl ?_
  refine w_st (i' := 2) (ls' := [.ref 0]) (st' := [.ref 85]) (E' := E) (I' := I) (J' := J) (S' := S) am_e101 rfl rfl rfl rfl ?_
  refine w_st (i' := 3) (ls' := [.ref 0]) (st' := [.ref 0, .ref 85]) (E' := E) (I' := I) (J' := J) (S' := S) am_e101 rfl rfl rfl rfl ?_
  refine w_st (i' := 4) (ls' := [.ref 0]) (st' := [.ref 18, .ref 85]) (E' := E) (I' := I) (J' := J) (S' := S) am_e101 rfl rfl rfl rfl ?_
  refine w_st (i' := 5) (ls' := [.ref 0]) (st' := [.int ((I 18) 10), .ref 85]) (E' := E) (I' := I) (J' := J) (S' := S) am_e101 rfl rfl rfl rfl ?_
  refine w_st (i' := 6) (ls' := [.ref 0]) (st' := [.ref 0, .int ((I 18) 10), .ref 85]) (E' := E) (I' := I) (J' := J) (S' := S) am_e101 rfl rfl rfl rfl ?_
  refine w_st (i' := 7) (ls' := [.ref 0]) (st' := [.ref 12, .int ((I 18) 10), .ref 85]) (E' := E) (I' := I) (J' := J) (S' := S) am_e101 rfl rfl rfl rfl ?_
  refine w_st (i' := 8) (ls' := [.ref 0]) (st' := [.ref 17, .int ((I 18) 10), .ref 85]) (E' := E) (I' := I) (J' := J) (S' := S) am_e101 rfl rfl rfl rfl ?_
  refine w_st (i' := 9) (ls' := [.ref 0]) (st' := [.int (nI 3), .ref 17, .int ((I 18) 10), .ref 85]) (E' := E) (I' := I) (J' := J) (S' := S) am_e101 rfl rfl rfl rfl ?_
  refine w_ia (k := 17) (n := 4) (jn := 3) am_e101 rfl rfl (by decide) (vp_in_nI (by decide) (by decide)) rfl ?_
  show am_ww 101 10 [.ref 0] [.int ((I 17) 3), .int ((I 18) 10), .ref 85] E I J S _
  refine w_cV am_e101 rfl rfl (as := [.ref 85, .int ((I 18) 10), .int ((I 17) 3)]) (rest := []) rfl rfl (am_ww.mono h ?_)
  rintro _ E1 I1 J1 S1 ⟨rfl, h⟩
  refine q_mkV ?_
  refine w_st (i' := 12) (ls' := [.ref 0]) (st' := [.ref 0]) (E' := E1) (I' := I1) (J' := J1) (S' := S1) am_e101 rfl rfl rfl rfl ?_
  refine w_st (i' := 13) (ls' := [.ref 0]) (st' := [.ref 85]) (E' := E1) (I' := I1) (J' := J1) (S' := S1) am_e101 rfl rfl rfl rfl ?_
  exact w_end am_e101 rfl rfl rfl h
-- 52 machineAt
theorem g52_0 {p1 : Int32} {E : am_Ev} {I : Nat → Nat → Int32} {J : Nat → Nat → Int64} {S : Nat → Nat → Option Nat} {Q : am_Qt}  (h : (((I 60) 1) ≤ p1 → (am_cl 46 [.ref 60, .int p1, .ref 12, .ref 18] E I J S (q_V fun E1 I1 J1 S1 => Q (.inl (some (.ref 61))) E1 I1 J1 S1))) ∧ (¬ ((I 60) 1) ≤ p1 → (am_cl 17 [.ref 60, .ref 12] E I J S (q_V fun E2 I2 J2 S2 => am_cl 46 [.ref 60, .int p1, .ref 12, .ref 18] E2 I2 J2 S2 (q_V fun E3 I3 J3 S3 => Q (.inl (some (.ref 61))) E3 I3 J3 S3))))) : am_ww 52 0 [.ref 0, .int p1] [] E I J S Q := by
  refine w_st (i' := 1) (ls' := [.ref 0, .int p1]) (st' := [.ref 0]) (E' := E) (I' := I) (J' := J) (S' := S) am_e52 rfl rfl rfl rfl ?_
  refine w_st (i' := 2) (ls' := [.ref 0, .int p1]) (st' := [.ref 60]) (E' := E) (I' := I) (J' := J) (S' := S) am_e52 rfl rfl rfl rfl ?_
  refine w_st (i' := 3) (ls' := [.ref 0, .int p1]) (st' := [.int ((I 60) 1)]) (E' := E) (I' := I) (J' := J) (S' := S) am_e52 rfl rfl rfl rfl ?_
  refine w_st (i' := 4) (ls' := [.ref 0, .int p1]) (st' := [.int p1, .int ((I 60) 1)]) (E' := E) (I' := I) (J' := J) (S' := S) am_e52 rfl rfl rfl rfl ?_
  refine w_if2 am_e52 rfl rfl (fun c => ?_) (fun c => ?_)
  · replace h := h.1 (of_decide_eq_true c)
    refine w_st (i' := 11) (ls' := [.ref 0, .int p1]) (st' := [.ref 0]) (E' := E) (I' := I) (J' := J) (S' := S) am_e52 rfl rfl rfl rfl ?_
    refine w_st (i' := 12) (ls' := [.ref 0, .int p1]) (st' := [.ref 60]) (E' := E) (I' := I) (J' := J) (S' := S) am_e52 rfl rfl rfl rfl ?_
    refine w_st (i' := 13) (ls' := [.ref 0, .int p1]) (st' := [.int p1, .ref 60]) (E' := E) (I' := I) (J' := J) (S' := S) am_e52 rfl rfl rfl rfl ?_
    refine w_st (i' := 14) (ls' := [.ref 0, .int p1]) (st' := [.ref 0, .int p1, .ref 60]) (E' := E) (I' := I) (J' := J) (S' := S) am_e52 rfl rfl rfl rfl ?_
    refine w_st (i' := 15) (ls' := [.ref 0, .int p1]) (st' := [.ref 12, .int p1, .ref 60]) (E' := E) (I' := I) (J' := J) (S' := S) am_e52 rfl rfl rfl rfl ?_
    refine w_st (i' := 16) (ls' := [.ref 0, .int p1]) (st' := [.ref 0, .ref 12, .int p1, .ref 60]) (E' := E) (I' := I) (J' := J) (S' := S) am_e52 rfl rfl rfl rfl ?_
    refine w_st (i' := 17) (ls' := [.ref 0, .int p1]) (st' := [.ref 18, .ref 12, .int p1, .ref 60]) (E' := E) (I' := I) (J' := J) (S' := S) am_e52 rfl rfl rfl rfl ?_
    refine w_cV am_e52 rfl rfl (as := [.ref 60, .int p1, .ref 12, .ref 18]) (rest := []) rfl rfl (am_ww.mono h ?_)
    rintro _ E1 I1 J1 S1 ⟨rfl, h⟩
    refine q_mkV ?_
    refine w_st (i' := 19) (ls' := [.ref 0, .int p1]) (st' := [.ref 0]) (E' := E1) (I' := I1) (J' := J1) (S' := S1) am_e52 rfl rfl rfl rfl ?_
    refine w_st (i' := 20) (ls' := [.ref 0, .int p1]) (st' := [.ref 60]) (E' := E1) (I' := I1) (J' := J1) (S' := S1) am_e52 rfl rfl rfl rfl ?_
    refine w_st (i' := 21) (ls' := [.ref 0, .int p1]) (st' := [.ref 61]) (E' := E1) (I' := I1) (J' := J1) (S' := S1) am_e52 rfl rfl rfl rfl ?_
    exact w_end am_e52 rfl rfl rfl h
  · replace h := h.2 (of_decide_eq_false c)
    refine w_st (i' := 6) (ls' := [.ref 0, .int p1]) (st' := [.ref 0]) (E' := E) (I' := I) (J' := J) (S' := S) am_e52 rfl rfl rfl rfl ?_
    refine w_st (i' := 7) (ls' := [.ref 0, .int p1]) (st' := [.ref 60]) (E' := E) (I' := I) (J' := J) (S' := S) am_e52 rfl rfl rfl rfl ?_
    refine w_st (i' := 8) (ls' := [.ref 0, .int p1]) (st' := [.ref 0, .ref 60]) (E' := E) (I' := I) (J' := J) (S' := S) am_e52 rfl rfl rfl rfl ?_
    refine w_st (i' := 9) (ls' := [.ref 0, .int p1]) (st' := [.ref 12, .ref 60]) (E' := E) (I' := I) (J' := J) (S' := S) am_e52 rfl rfl rfl rfl ?_
    refine w_cV am_e52 rfl rfl (as := [.ref 60, .ref 12]) (rest := []) rfl rfl (am_ww.mono h ?_)
    rintro _ E2 I2 J2 S2 ⟨rfl, h⟩
    refine q_mkV ?_
    refine w_st (i' := 11) (ls' := [.ref 0, .int p1]) (st' := [.ref 0]) (E' := E2) (I' := I2) (J' := J2) (S' := S2) am_e52 rfl rfl rfl rfl ?_
    refine w_st (i' := 12) (ls' := [.ref 0, .int p1]) (st' := [.ref 60]) (E' := E2) (I' := I2) (J' := J2) (S' := S2) am_e52 rfl rfl rfl rfl ?_
    refine w_st (i' := 13) (ls' := [.ref 0, .int p1]) (st' := [.int p1, .ref 60]) (E' := E2) (I' := I2) (J' := J2) (S' := S2) am_e52 rfl rfl rfl rfl ?_
    refine w_st (i' := 14) (ls' := [.ref 0, .int p1]) (st' := [.ref 0, .int p1, .ref 60]) (E' := E2) (I' := I2) (J' := J2) (S' := S2) am_e52 rfl rfl rfl rfl ?_
    refine w_st (i' := 15) (ls' := [.ref 0, .int p1]) (st' := [.ref 12, .int p1, .ref 60]) (E' := E2) (I' := I2) (J' := J2) (S' := S2) am_e52 rfl rfl rfl rfl ?_
    refine w_st (i' := 16) (ls' := [.ref 0, .int p1]) (st' := [.ref 0, .ref 12, .int p1, .ref 60]) (E' := E2) (I' := I2) (J' := J2) (S' := S2) am_e52 rfl rfl rfl rfl ?_
    refine w_st (i' := 17) (ls' := [.ref 0, .int p1]) (st' := [.ref 18, .ref 12, .int p1, .ref 60]) (E' := E2) (I' := I2) (J' := J2) (S' := S2) am_e52 rfl rfl rfl rfl ?_
    refine w_cV am_e52 rfl rfl (as := [.ref 60, .int p1, .ref 12, .ref 18]) (rest := []) rfl rfl (am_ww.mono h ?_)
    rintro _ E3 I3 J3 S3 ⟨rfl, h⟩
    refine q_mkV ?_
    refine w_st (i' := 19) (ls' := [.ref 0, .int p1]) (st' := [.ref 0]) (E' := E3) (I' := I3) (J' := J3) (S' := S3) am_e52 rfl rfl rfl rfl ?_
    refine w_st (i' := 20) (ls' := [.ref 0, .int p1]) (st' := [.ref 60]) (E' := E3) (I' := I3) (J' := J3) (S' := S3) am_e52 rfl rfl rfl rfl ?_
    refine w_st (i' := 21) (ls' := [.ref 0, .int p1]) (st' := [.ref 61]) (E' := E3) (I' := I3) (J' := J3) (S' := S3) am_e52 rfl rfl rfl rfl ?_
    exact w_end am_e52 rfl rfl rfl h
-- 45 takeStepsBack
theorem g45_0 {p1 : Int32} {E : am_Ev} {I : Nat → Nat → Int32} {J : Nat → Nat → Int64} {S : Nat → Nat → Option Nat} {Q : am_Qt}  (h : am_cl 17 [.ref 60, .ref 12] E I J S (q_V fun E1 I1 J1 S1 => am_cl 46 [.ref 60, .int p1, .ref 12, .ref 18] E1 I1 J1 S1 (q_V fun E2 I2 J2 S2 => am_cl 50 [.ref 20, .ref 61] E2 I2 J2 S2 (q_V fun E3 I3 J3 S3 => Q (.inl none) E3 (u_I I3 18 (upd (upd (I3 18) 9 ((I3 60) 2)) 10 p1)) J3 S3)))) : am_ww 45 0 [.ref 0, .int p1] [] E I J S Q := by
  refine w_st (i' := 1) (ls' := [.ref 0, .int p1]) (st' := [.ref 0]) (E' := E) (I' := I) (J' := J) (S' := S) am_e45 rfl rfl rfl rfl ?_
  refine w_st (i' := 2) (ls' := [.ref 0, .int p1]) (st' := [.ref 60]) (E' := E) (I' := I) (J' := J) (S' := S) am_e45 rfl rfl rfl rfl ?_
  refine w_st (i' := 3) (ls' := [.ref 0, .int p1]) (st' := [.ref 0, .ref 60]) (E' := E) (I' := I) (J' := J) (S' := S) am_e45 rfl rfl rfl rfl ?_
  refine w_st (i' := 4) (ls' := [.ref 0, .int p1]) (st' := [.ref 12, .ref 60]) (E' := E) (I' := I) (J' := J) (S' := S) am_e45 rfl rfl rfl rfl ?_
  refine w_cV am_e45 rfl rfl (as := [.ref 60, .ref 12]) (rest := []) rfl rfl (am_ww.mono h ?_)
  rintro _ E1 I1 J1 S1 ⟨rfl, h⟩
  refine q_mkV ?_
  refine w_st (i' := 6) (ls' := [.ref 0, .int p1]) (st' := [.ref 0]) (E' := E1) (I' := I1) (J' := J1) (S' := S1) am_e45 rfl rfl rfl rfl ?_
  refine w_st (i' := 7) (ls' := [.ref 0, .int p1]) (st' := [.ref 60]) (E' := E1) (I' := I1) (J' := J1) (S' := S1) am_e45 rfl rfl rfl rfl ?_
  refine w_st (i' := 8) (ls' := [.ref 0, .int p1]) (st' := [.int p1, .ref 60]) (E' := E1) (I' := I1) (J' := J1) (S' := S1) am_e45 rfl rfl rfl rfl ?_
  refine w_st (i' := 9) (ls' := [.ref 0, .int p1]) (st' := [.ref 0, .int p1, .ref 60]) (E' := E1) (I' := I1) (J' := J1) (S' := S1) am_e45 rfl rfl rfl rfl ?_
  refine w_st (i' := 10) (ls' := [.ref 0, .int p1]) (st' := [.ref 12, .int p1, .ref 60]) (E' := E1) (I' := I1) (J' := J1) (S' := S1) am_e45 rfl rfl rfl rfl ?_
  refine w_st (i' := 11) (ls' := [.ref 0, .int p1]) (st' := [.ref 0, .ref 12, .int p1, .ref 60]) (E' := E1) (I' := I1) (J' := J1) (S' := S1) am_e45 rfl rfl rfl rfl ?_
  refine w_st (i' := 12) (ls' := [.ref 0, .int p1]) (st' := [.ref 18, .ref 12, .int p1, .ref 60]) (E' := E1) (I' := I1) (J' := J1) (S' := S1) am_e45 rfl rfl rfl rfl ?_
  refine w_cV am_e45 rfl rfl (as := [.ref 60, .int p1, .ref 12, .ref 18]) (rest := []) rfl rfl (am_ww.mono h ?_)
  rintro _ E2 I2 J2 S2 ⟨rfl, h⟩
  refine q_mkV ?_
  refine w_st (i' := 14) (ls' := [.ref 0, .int p1]) (st' := [.ref 0]) (E' := E2) (I' := I2) (J' := J2) (S' := S2) am_e45 rfl rfl rfl rfl ?_
  refine w_st (i' := 15) (ls' := [.ref 0, .int p1]) (st' := [.ref 18]) (E' := E2) (I' := I2) (J' := J2) (S' := S2) am_e45 rfl rfl rfl rfl ?_
  refine w_st (i' := 16) (ls' := [.ref 0, .int p1]) (st' := [.ref 19]) (E' := E2) (I' := I2) (J' := J2) (S' := S2) am_e45 rfl rfl rfl rfl ?_
  refine w_st (i' := 17) (ls' := [.ref 0, .int p1]) (st' := [.ref 20]) (E' := E2) (I' := I2) (J' := J2) (S' := S2) am_e45 rfl rfl rfl rfl ?_
  refine w_st (i' := 18) (ls' := [.ref 0, .int p1]) (st' := [.ref 0, .ref 20]) (E' := E2) (I' := I2) (J' := J2) (S' := S2) am_e45 rfl rfl rfl rfl ?_
  refine w_st (i' := 19) (ls' := [.ref 0, .int p1]) (st' := [.ref 60, .ref 20]) (E' := E2) (I' := I2) (J' := J2) (S' := S2) am_e45 rfl rfl rfl rfl ?_
  refine w_st (i' := 20) (ls' := [.ref 0, .int p1]) (st' := [.ref 61, .ref 20]) (E' := E2) (I' := I2) (J' := J2) (S' := S2) am_e45 rfl rfl rfl rfl ?_
  refine w_cV am_e45 rfl rfl (as := [.ref 20, .ref 61]) (rest := []) rfl rfl (am_ww.mono h ?_)
  rintro _ E3 I3 J3 S3 ⟨rfl, h⟩
  refine q_mkV ?_
  refine w_st (i' := 22) (ls' := [.ref 0, .int p1]) (st' := [.ref 0]) (E' := E3) (I' := I3) (J' := J3) (S' := S3) am_e45 rfl rfl rfl rfl ?_
  refine w_st (i' := 23) (ls' := [.ref 0, .int p1]) (st' := [.ref 18]) (E' := E3) (I' := I3) (J' := J3) (S' := S3) am_e45 rfl rfl rfl rfl ?_
  refine w_st (i' := 24) (ls' := [.ref 0, .int p1]) (st' := [.ref 0, .ref 18]) (E' := E3) (I' := I3) (J' := J3) (S' := S3) am_e45 rfl rfl rfl rfl ?_
  refine w_st (i' := 25) (ls' := [.ref 0, .int p1]) (st' := [.ref 60, .ref 18]) (E' := E3) (I' := I3) (J' := J3) (S' := S3) am_e45 rfl rfl rfl rfl ?_
  refine w_st (i' := 26) (ls' := [.ref 0, .int p1]) (st' := [.int ((I3 60) 2), .ref 18]) (E' := E3) (I' := I3) (J' := J3) (S' := S3) am_e45 rfl rfl rfl rfl ?_
  refine w_st (i' := 27) (ls' := [.ref 0, .int p1]) (st' := []) (E' := E3) (I' := (u_I I3 18 (upd (I3 18) 9 ((I3 60) 2)))) (J' := J3) (S' := S3) am_e45 rfl rfl rfl rfl ?_
  refine w_st (i' := 28) (ls' := [.ref 0, .int p1]) (st' := [.ref 0]) (E' := E3) (I' := (u_I I3 18 (upd (I3 18) 9 ((I3 60) 2)))) (J' := J3) (S' := S3) am_e45 rfl rfl rfl rfl ?_
  refine w_st (i' := 29) (ls' := [.ref 0, .int p1]) (st' := [.ref 18]) (E' := E3) (I' := (u_I I3 18 (upd (I3 18) 9 ((I3 60) 2)))) (J' := J3) (S' := S3) am_e45 rfl rfl rfl rfl ?_
  refine w_st (i' := 30) (ls' := [.ref 0, .int p1]) (st' := [.int p1, .ref 18]) (E' := E3) (I' := (u_I I3 18 (upd (I3 18) 9 ((I3 60) 2)))) (J' := J3) (S' := S3) am_e45 rfl rfl rfl rfl ?_
  refine w_st (i' := 31) (ls' := [.ref 0, .int p1]) (st' := []) (E' := E3) (I' := (u_I (u_I I3 18 (upd (I3 18) 9 ((I3 60) 2))) 18 (upd (upd (I3 18) 9 ((I3 60) 2)) 10 p1))) (J' := J3) (S' := S3) am_e45 rfl rfl rfl rfl ?_
  refine w_eI (uI_0 ..) ?_
  show am_ww 45 31 [.ref 0, .int p1] [] E3 (u_I I3 18 (upd (upd (I3 18) 9 ((I3 60) 2)) 10 p1)) J3 S3 _
  exact w_end am_e45 rfl rfl rfl h
-- 137 lastStore
theorem g137_0 {p1 : Int32} {E : am_Ev} {I : Nat → Nat → Int32} {J : Nat → Nat → Int64} {S : Nat → Nat → Option Nat} {Q : am_Qt}  (h : am_ww 137 4 [.ref 0, .int p1, .int ((I 18) 11), am_U] [] E I J S Q) : am_ww 137 0 [.ref 0, .int p1, am_U, am_U] [] E I J S Q := by
  refine w_st (i' := 1) (ls' := [.ref 0, .int p1, am_U, am_U]) (st' := [.ref 0]) (E' := E) (I' := I) (J' := J) (S' := S) am_e137 rfl rfl rfl rfl ?_
  refine w_st (i' := 2) (ls' := [.ref 0, .int p1, am_U, am_U]) (st' := [.ref 18]) (E' := E) (I' := I) (J' := J) (S' := S) am_e137 rfl rfl rfl rfl ?_
  refine w_st (i' := 3) (ls' := [.ref 0, .int p1, am_U, am_U]) (st' := [.int ((I 18) 11)]) (E' := E) (I' := I) (J' := J) (S' := S) am_e137 rfl rfl rfl rfl ?_
  refine w_st (i' := 4) (ls' := [.ref 0, .int p1, .int ((I 18) 11), am_U]) (st' := []) (E' := E) (I' := I) (J' := J) (S' := S) am_e137 rfl rfl rfl rfl ?_
  exact h
theorem g137_4 {x1 : Int32} {x2 : Int32} {d3 : Value} {E : am_Ev} {I : Nat → Nat → Int32} {J : Nat → Nat → Int64} {S : Nat → Nat → Option Nat} {Q : am_Qt} (hd3 : am_isL d3 = false) (h : (x2 < (nI 1) → (Q (.inl (some (.int (-1)))) E I J S)) ∧ (¬ x2 < (nI 1) → (vp_in x2 401 ∧ (vp_in ((I 33) x2.toNatClampNeg) 64 ∧ ((((I 13) (((I 33) x2.toNatClampNeg).toNatClampNeg)) = (nI 8) → (am_cl 138 [.ref 12, .int ((I 33) x2.toNatClampNeg)] E I J S (q_I fun v3 E3 I3 J3 S3 => (v3 = x1 → (Q (.inl (some (.int x2))) E3 I3 J3 S3)) ∧ (¬ v3 = x1 → (am_ww 137 4 [.ref 0, .int x1, .int (x2 - nI 1), .int ((I 33) x2.toNatClampNeg)] [] E3 I3 J3 S3 Q))))) ∧ (¬ ((I 13) (((I 33) x2.toNatClampNeg).toNatClampNeg)) = (nI 8) → (am_ww 137 4 [.ref 0, .int x1, .int (x2 - nI 1), .int ((I 33) x2.toNatClampNeg)] [] E I J S Q))))))) : am_ww 137 4 [.ref 0, .int x1, .int x2, d3] [] E I J S Q := by
  refine w_st (i' := 5) (ls' := [.ref 0, .int x1, .int x2, d3]) (st' := [.int x2]) (E' := E) (I' := I) (J' := J) (S' := S) am_e137 rfl rfl rfl rfl ?_
  refine w_st (i' := 6) (ls' := [.ref 0, .int x1, .int x2, d3]) (st' := [.int (nI 1), .int x2]) (E' := E) (I' := I) (J' := J) (S' := S) am_e137 rfl rfl rfl rfl ?_
  refine w_if2 am_e137 rfl rfl (fun c => ?_) (fun c => ?_)
  · replace h := h.1 (of_decide_eq_true c)
    refine w_st (i' := 31) (ls' := [.ref 0, .int x1, .int x2, d3]) (st' := [.int (-1)]) (E' := E) (I' := I) (J' := J) (S' := S) am_e137 rfl rfl rfl rfl ?_
    exact w_end am_e137 rfl rfl rfl h
  · replace h := h.2 (of_decide_eq_false c)
    refine w_st (i' := 8) (ls' := [.ref 0, .int x1, .int x2, d3]) (st' := [.ref 0]) (E' := E) (I' := I) (J' := J) (S' := S) am_e137 rfl rfl rfl rfl ?_
    refine w_st (i' := 9) (ls' := [.ref 0, .int x1, .int x2, d3]) (st' := [.ref 18]) (E' := E) (I' := I) (J' := J) (S' := S) am_e137 rfl rfl rfl rfl ?_
    refine w_st (i' := 10) (ls' := [.ref 0, .int x1, .int x2, d3]) (st' := [.ref 33]) (E' := E) (I' := I) (J' := J) (S' := S) am_e137 rfl rfl rfl rfl ?_
    refine w_st (i' := 11) (ls' := [.ref 0, .int x1, .int x2, d3]) (st' := [.int x2, .ref 33]) (E' := E) (I' := I) (J' := J) (S' := S) am_e137 rfl rfl rfl rfl ?_
    have hf1 := h.1
    replace h := h.2
    refine w_ia (k := 33) (n := 401) (jn := x2.toNatClampNeg) am_e137 rfl rfl (by decide) hf1 rfl ?_
    refine w_st (i' := 13) (ls' := [.ref 0, .int x1, .int x2, .int ((I 33) x2.toNatClampNeg)]) (st' := []) (E' := E) (I' := I) (J' := J) (S' := S) am_e137 rfl rfl rfl rfl ?_
    refine w_st (i' := 14) (ls' := [.ref 0, .int x1, .int x2, .int ((I 33) x2.toNatClampNeg)]) (st' := [.ref 0]) (E' := E) (I' := I) (J' := J) (S' := S) am_e137 rfl rfl rfl rfl ?_
    refine w_st (i' := 15) (ls' := [.ref 0, .int x1, .int x2, .int ((I 33) x2.toNatClampNeg)]) (st' := [.ref 12]) (E' := E) (I' := I) (J' := J) (S' := S) am_e137 rfl rfl rfl rfl ?_
    refine w_st (i' := 16) (ls' := [.ref 0, .int x1, .int x2, .int ((I 33) x2.toNatClampNeg)]) (st' := [.ref 13]) (E' := E) (I' := I) (J' := J) (S' := S) am_e137 rfl rfl rfl rfl ?_
    refine w_st (i' := 17) (ls' := [.ref 0, .int x1, .int x2, .int ((I 33) x2.toNatClampNeg)]) (st' := [.int ((I 33) x2.toNatClampNeg), .ref 13]) (E' := E) (I' := I) (J' := J) (S' := S) am_e137 rfl rfl rfl rfl ?_
    have hf2 := h.1
    replace h := h.2
    refine w_ia (k := 13) (n := 64) (jn := ((I 33) x2.toNatClampNeg).toNatClampNeg) am_e137 rfl rfl (by decide) hf2 rfl ?_
    refine w_st (i' := 19) (ls' := [.ref 0, .int x1, .int x2, .int ((I 33) x2.toNatClampNeg)]) (st' := [.int (nI 8), .int ((I 13) (((I 33) x2.toNatClampNeg).toNatClampNeg))]) (E' := E) (I' := I) (J' := J) (S' := S) am_e137 rfl rfl rfl rfl ?_
    refine w_if2 am_e137 rfl rfl (fun c => ?_) (fun c => ?_)
    · replace h := h.2 (of_decide_eq_true c)
      refine w_st (i' := 29) (ls' := [.ref 0, .int x1, .int (x2 - nI 1), .int ((I 33) x2.toNatClampNeg)]) (st' := []) (E' := E) (I' := I) (J' := J) (S' := S) am_e137 rfl rfl rfl rfl ?_
      refine w_st (i' := 4) (ls' := [.ref 0, .int x1, .int (x2 - nI 1), .int ((I 33) x2.toNatClampNeg)]) (st' := []) (E' := E) (I' := I) (J' := J) (S' := S) am_e137 rfl rfl rfl rfl ?_
      exact h
    · replace h := h.1 (Decidable.not_not.mp (of_decide_eq_false c))
      refine w_st (i' := 21) (ls' := [.ref 0, .int x1, .int x2, .int ((I 33) x2.toNatClampNeg)]) (st' := [.ref 0]) (E' := E) (I' := I) (J' := J) (S' := S) am_e137 rfl rfl rfl rfl ?_
      refine w_st (i' := 22) (ls' := [.ref 0, .int x1, .int x2, .int ((I 33) x2.toNatClampNeg)]) (st' := [.ref 12]) (E' := E) (I' := I) (J' := J) (S' := S) am_e137 rfl rfl rfl rfl ?_
      refine w_st (i' := 23) (ls' := [.ref 0, .int x1, .int x2, .int ((I 33) x2.toNatClampNeg)]) (st' := [.int ((I 33) x2.toNatClampNeg), .ref 12]) (E' := E) (I' := I) (J' := J) (S' := S) am_e137 rfl rfl rfl rfl ?_
      refine w_cI am_e137 rfl rfl (as := [.ref 12, .int ((I 33) x2.toNatClampNeg)]) (rest := []) rfl rfl (am_ww.mono h ?_)
      rintro _ E3 I3 J3 S3 ⟨v3, rfl, h⟩
      refine q_mkI ?_
      refine w_st (i' := 25) (ls' := [.ref 0, .int x1, .int x2, .int ((I 33) x2.toNatClampNeg)]) (st' := [.int x1, .int v3]) (E' := E3) (I' := I3) (J' := J3) (S' := S3) am_e137 rfl rfl rfl rfl ?_
      refine w_if2 am_e137 rfl rfl (fun c => ?_) (fun c => ?_)
      · replace h := h.2 (of_decide_eq_true c)
        refine w_st (i' := 29) (ls' := [.ref 0, .int x1, .int (x2 - nI 1), .int ((I 33) x2.toNatClampNeg)]) (st' := []) (E' := E3) (I' := I3) (J' := J3) (S' := S3) am_e137 rfl rfl rfl rfl ?_
        refine w_st (i' := 4) (ls' := [.ref 0, .int x1, .int (x2 - nI 1), .int ((I 33) x2.toNatClampNeg)]) (st' := []) (E' := E3) (I' := I3) (J' := J3) (S' := S3) am_e137 rfl rfl rfl rfl ?_
        exact h
      · replace h := h.1 (Decidable.not_not.mp (of_decide_eq_false c))
        refine w_st (i' := 27) (ls' := [.ref 0, .int x1, .int x2, .int ((I 33) x2.toNatClampNeg)]) (st' := [.int x2]) (E' := E3) (I' := I3) (J' := J3) (S' := S3) am_e137 rfl rfl rfl rfl ?_
        exact w_ri am_e137 rfl rfl h
-- 168 canAlter
theorem g168_0 {p1 : Int32} {p2 : Int32} {p3 : Int32} {E : am_Ev} {I : Nat → Nat → Int32} {J : Nat → Nat → Int64} {S : Nat → Nat → Option Nat} {Q : am_Qt}  (h : (p1 = 0 → ((p2 < 0 → (Q (.inl (some (.int (nI 0)))) E I J S)) ∧ (¬ p2 < 0 → ((((I 18) 9) ≤ p2 → (Q (.inl (some (.int (nI 0)))) E I J S)) ∧ (¬ ((I 18) 9) ≤ p2 → ((p3 < 0 → (Q (.inl (some (.int (nI 0)))) E I J S)) ∧ (¬ p3 < 0 → ((((I 12) 5) ≤ p3 → (Q (.inl (some (.int (nI 0)))) E I J S)) ∧ (¬ ((I 12) 5) ≤ p3 → (Q (.inl (some (.int (nI 1)))) E I J S)))))))))) ∧ (¬ p1 = 0 → ((p1 = (nI 1) → ((p2 < 0 → (Q (.inl (some (.int (nI 0)))) E I J S)) ∧ (¬ p2 < 0 → ((((I 18) 9) ≤ p2 → (Q (.inl (some (.int (nI 0)))) E I J S)) ∧ (¬ ((I 18) 9) ≤ p2 → (Q (.inl (some (.int (nI 1)))) E I J S)))))) ∧ (¬ p1 = (nI 1) → ((p1 = (nI 5) → ((p2 < 0 → (Q (.inl (some (.int (nI 0)))) E I J S)) ∧ (¬ p2 < 0 → (((nI 16) ≤ p2 → (Q (.inl (some (.int (nI 0)))) E I J S)) ∧ (¬ (nI 16) ≤ p2 → (Q (.inl (some (.int (nI 1)))) E I J S)))))) ∧ (¬ p1 = (nI 5) → (((p1 - (nI 2)) < 0 → (Q (.inl (some (.int (nI 0)))) E I J S)) ∧ (¬ (p1 - (nI 2)) < 0 → (((nI 3) ≤ (p1 - (nI 2)) → (Q (.inl (some (.int (nI 0)))) E I J S)) ∧ (¬ (nI 3) ≤ (p1 - (nI 2)) → ((p2 < 0 → (Q (.inl (some (.int (nI 0)))) E I J S)) ∧ (¬ p2 < 0 → (vp_in (p1 - (nI 2)) 3 ∧ ((((I 26) ((p1 - (nI 2)).toNatClampNeg)) ≤ p2 → (Q (.inl (some (.int (nI 0)))) E I J S)) ∧ (¬ ((I 26) ((p1 - (nI 2)).toNatClampNeg)) ≤ p2 → (Q (.inl (some (.int (nI 1)))) E I J S)))))))))))))))) : am_ww 168 0 [.ref 0, .int p1, .int p2, .int p3] [] E I J S Q := by
  refine w_st (i' := 1) (ls' := [.ref 0, .int p1, .int p2, .int p3]) (st' := [.int p1]) (E' := E) (I' := I) (J' := J) (S' := S) am_e168 rfl rfl rfl rfl ?_
  refine w_if1 am_e168 rfl rfl (fun c => ?_) (fun c => ?_)
  · replace h := h.2 (of_decide_eq_true c)
    refine w_st (i' := 18) (ls' := [.ref 0, .int p1, .int p2, .int p3]) (st' := [.int p1]) (E' := E) (I' := I) (J' := J) (S' := S) am_e168 rfl rfl rfl rfl ?_
    refine w_st (i' := 19) (ls' := [.ref 0, .int p1, .int p2, .int p3]) (st' := [.int (nI 1), .int p1]) (E' := E) (I' := I) (J' := J) (S' := S) am_e168 rfl rfl rfl rfl ?_
    refine w_if2 am_e168 rfl rfl (fun c => ?_) (fun c => ?_)
    · replace h := h.2 (of_decide_eq_true c)
      refine w_st (i' := 32) (ls' := [.ref 0, .int p1, .int p2, .int p3]) (st' := [.int p1]) (E' := E) (I' := I) (J' := J) (S' := S) am_e168 rfl rfl rfl rfl ?_
      refine w_st (i' := 33) (ls' := [.ref 0, .int p1, .int p2, .int p3]) (st' := [.int (nI 5), .int p1]) (E' := E) (I' := I) (J' := J) (S' := S) am_e168 rfl rfl rfl rfl ?_
      refine w_if2 am_e168 rfl rfl (fun c => ?_) (fun c => ?_)
      · replace h := h.2 (of_decide_eq_true c)
        refine w_st (i' := 44) (ls' := [.ref 0, .int p1, .int p2, .int p3]) (st' := [.ref 0]) (E' := E) (I' := I) (J' := J) (S' := S) am_e168 rfl rfl rfl rfl ?_
        refine w_st (i' := 45) (ls' := [.ref 0, .int p1, .int p2, .int p3]) (st' := [.int p1, .ref 0]) (E' := E) (I' := I) (J' := J) (S' := S) am_e168 rfl rfl rfl rfl ?_
        refine w_st (i' := 46) (ls' := [.ref 0, .int p1, .int p2, .int p3]) (st' := [.int (nI 2), .int p1, .ref 0]) (E' := E) (I' := I) (J' := J) (S' := S) am_e168 rfl rfl rfl rfl ?_
        refine w_st (i' := 47) (ls' := [.ref 0, .int p1, .int p2, .int p3]) (st' := [.int (p1 - (nI 2)), .ref 0]) (E' := E) (I' := I) (J' := J) (S' := S) am_e168 rfl rfl rfl rfl ?_
        refine w_st (i' := 48) (ls' := [.ref 0, .int p1, .int p2, .int p3]) (st' := [.int p2, .int (p1 - (nI 2)), .ref 0]) (E' := E) (I' := I) (J' := J) (S' := S) am_e168 rfl rfl rfl rfl ?_
        refine w_cI am_e168 rfl rfl (as := [.ref 0, .int (p1 - (nI 2)), .int p2]) (rest := []) rfl rfl ?_
        show am_ww 115 0 [.ref 0, .int (p1 - (nI 2)), .int p2] [] E I J S _
        refine w_st (i' := 1) (ls' := [.ref 0, .int (p1 - (nI 2)), .int p2]) (st' := [.int (p1 - (nI 2))]) (E' := E) (I' := I) (J' := J) (S' := S) am_e115 rfl rfl rfl rfl ?_
        refine w_cI am_e115 rfl rfl (as := [.int (p1 - (nI 2))]) (rest := []) rfl rfl ?_
        show am_ww 43 0 [.int (p1 - (nI 2))] [] E I J S _
        refine w_st (i' := 1) (ls' := [.int (p1 - (nI 2))]) (st' := [.int (p1 - (nI 2))]) (E' := E) (I' := I) (J' := J) (S' := S) am_e43 rfl rfl rfl rfl ?_
        refine w_if1 am_e43 rfl rfl (fun c => ?_) (fun c => ?_)
        · replace h := h.1 (of_decide_eq_true c)
          refine w_st (i' := 8) (ls' := [.int (p1 - (nI 2))]) (st' := [.int (nI 0)]) (E' := E) (I' := I) (J' := J) (S' := S) am_e43 rfl rfl rfl rfl ?_
          refine w_end (E' := E) (I' := I) (J' := J) (S' := S) am_e43 rfl rfl rfl (q_mkI ?_)
          show am_ww 115 2 [.ref 0, .int (p1 - (nI 2)), .int p2] [.int (nI 0)] E I J S _
          refine w_st (i' := 16) (ls' := [.ref 0, .int (p1 - (nI 2)), .int p2]) (st' := []) (E' := E) (I' := I) (J' := J) (S' := S) am_e115 rfl rfl rfl rfl ?_
          refine w_st (i' := 17) (ls' := [.ref 0, .int (p1 - (nI 2)), .int p2]) (st' := [.int (nI 0)]) (E' := E) (I' := I) (J' := J) (S' := S) am_e115 rfl rfl rfl rfl ?_
          refine w_end (E' := E) (I' := I) (J' := J) (S' := S) am_e115 rfl rfl rfl (q_mkI ?_)
          show am_ww 168 49 [.ref 0, .int p1, .int p2, .int p3] [.int (nI 0)] E I J S _
          exact w_end am_e168 rfl rfl rfl h
        · replace h := h.2 (of_decide_eq_false c)
          refine w_st (i' := 3) (ls' := [.int (p1 - (nI 2))]) (st' := [.int (p1 - (nI 2))]) (E' := E) (I' := I) (J' := J) (S' := S) am_e43 rfl rfl rfl rfl ?_
          refine w_st (i' := 4) (ls' := [.int (p1 - (nI 2))]) (st' := [.int (nI 3), .int (p1 - (nI 2))]) (E' := E) (I' := I) (J' := J) (S' := S) am_e43 rfl rfl rfl rfl ?_
          refine w_if2 am_e43 rfl rfl (fun c => ?_) (fun c => ?_)
          · replace h := h.1 (of_decide_eq_true c)
            refine w_st (i' := 8) (ls' := [.int (p1 - (nI 2))]) (st' := [.int (nI 0)]) (E' := E) (I' := I) (J' := J) (S' := S) am_e43 rfl rfl rfl rfl ?_
            refine w_end (E' := E) (I' := I) (J' := J) (S' := S) am_e43 rfl rfl rfl (q_mkI ?_)
            show am_ww 115 2 [.ref 0, .int (p1 - (nI 2)), .int p2] [.int (nI 0)] E I J S _
            refine w_st (i' := 16) (ls' := [.ref 0, .int (p1 - (nI 2)), .int p2]) (st' := []) (E' := E) (I' := I) (J' := J) (S' := S) am_e115 rfl rfl rfl rfl ?_
            refine w_st (i' := 17) (ls' := [.ref 0, .int (p1 - (nI 2)), .int p2]) (st' := [.int (nI 0)]) (E' := E) (I' := I) (J' := J) (S' := S) am_e115 rfl rfl rfl rfl ?_
            refine w_end (E' := E) (I' := I) (J' := J) (S' := S) am_e115 rfl rfl rfl (q_mkI ?_)
            show am_ww 168 49 [.ref 0, .int p1, .int p2, .int p3] [.int (nI 0)] E I J S _
            exact w_end am_e168 rfl rfl rfl h
          · replace h := h.2 (of_decide_eq_false c)
            refine w_st (i' := 6) (ls' := [.int (p1 - (nI 2))]) (st' := [.int (nI 1)]) (E' := E) (I' := I) (J' := J) (S' := S) am_e43 rfl rfl rfl rfl ?_
            refine w_st (i' := 8) (ls' := [.int (p1 - (nI 2))]) (st' := [.int (nI 1)]) (E' := E) (I' := I) (J' := J) (S' := S) am_e43 rfl rfl rfl rfl ?_
            refine w_end (E' := E) (I' := I) (J' := J) (S' := S) am_e43 rfl rfl rfl (q_mkI ?_)
            show am_ww 115 2 [.ref 0, .int (p1 - (nI 2)), .int p2] [.int (nI 1)] E I J S _
            refine w_st (i' := 3) (ls' := [.ref 0, .int (p1 - (nI 2)), .int p2]) (st' := []) (E' := E) (I' := I) (J' := J) (S' := S) am_e115 rfl rfl rfl rfl ?_
            refine w_st (i' := 4) (ls' := [.ref 0, .int (p1 - (nI 2)), .int p2]) (st' := [.int p2]) (E' := E) (I' := I) (J' := J) (S' := S) am_e115 rfl rfl rfl rfl ?_
            refine w_if1 am_e115 rfl rfl (fun c => ?_) (fun c => ?_)
            · replace h := h.1 (of_decide_eq_true c)
              refine w_st (i' := 17) (ls' := [.ref 0, .int (p1 - (nI 2)), .int p2]) (st' := [.int (nI 0)]) (E' := E) (I' := I) (J' := J) (S' := S) am_e115 rfl rfl rfl rfl ?_
              refine w_end (E' := E) (I' := I) (J' := J) (S' := S) am_e115 rfl rfl rfl (q_mkI ?_)
              show am_ww 168 49 [.ref 0, .int p1, .int p2, .int p3] [.int (nI 0)] E I J S _
              exact w_end am_e168 rfl rfl rfl h
            · replace h := h.2 (of_decide_eq_false c)
              refine w_st (i' := 6) (ls' := [.ref 0, .int (p1 - (nI 2)), .int p2]) (st' := [.int p2]) (E' := E) (I' := I) (J' := J) (S' := S) am_e115 rfl rfl rfl rfl ?_
              refine w_st (i' := 7) (ls' := [.ref 0, .int (p1 - (nI 2)), .int p2]) (st' := [.ref 0, .int p2]) (E' := E) (I' := I) (J' := J) (S' := S) am_e115 rfl rfl rfl rfl ?_
              refine w_st (i' := 8) (ls' := [.ref 0, .int (p1 - (nI 2)), .int p2]) (st' := [.ref 18, .int p2]) (E' := E) (I' := I) (J' := J) (S' := S) am_e115 rfl rfl rfl rfl ?_
              refine w_st (i' := 9) (ls' := [.ref 0, .int (p1 - (nI 2)), .int p2]) (st' := [.ref 19, .int p2]) (E' := E) (I' := I) (J' := J) (S' := S) am_e115 rfl rfl rfl rfl ?_
              refine w_st (i' := 10) (ls' := [.ref 0, .int (p1 - (nI 2)), .int p2]) (st' := [.ref 20, .int p2]) (E' := E) (I' := I) (J' := J) (S' := S) am_e115 rfl rfl rfl rfl ?_
              refine w_st (i' := 11) (ls' := [.ref 0, .int (p1 - (nI 2)), .int p2]) (st' := [.ref 26, .int p2]) (E' := E) (I' := I) (J' := J) (S' := S) am_e115 rfl rfl rfl rfl ?_
              refine w_st (i' := 12) (ls' := [.ref 0, .int (p1 - (nI 2)), .int p2]) (st' := [.int (p1 - (nI 2)), .ref 26, .int p2]) (E' := E) (I' := I) (J' := J) (S' := S) am_e115 rfl rfl rfl rfl ?_
              have hf1 := h.1
              replace h := h.2
              refine w_ia (k := 26) (n := 3) (jn := (p1 - (nI 2)).toNatClampNeg) am_e115 rfl rfl (by decide) hf1 rfl ?_
              refine w_if2 am_e115 rfl rfl (fun c => ?_) (fun c => ?_)
              · replace h := h.1 (of_decide_eq_true c)
                refine w_st (i' := 17) (ls' := [.ref 0, .int (p1 - (nI 2)), .int p2]) (st' := [.int (nI 0)]) (E' := E) (I' := I) (J' := J) (S' := S) am_e115 rfl rfl rfl rfl ?_
                refine w_end (E' := E) (I' := I) (J' := J) (S' := S) am_e115 rfl rfl rfl (q_mkI ?_)
                show am_ww 168 49 [.ref 0, .int p1, .int p2, .int p3] [.int (nI 0)] E I J S _
                exact w_end am_e168 rfl rfl rfl h
              · replace h := h.2 (of_decide_eq_false c)
                refine w_st (i' := 15) (ls' := [.ref 0, .int (p1 - (nI 2)), .int p2]) (st' := [.int (nI 1)]) (E' := E) (I' := I) (J' := J) (S' := S) am_e115 rfl rfl rfl rfl ?_
                refine w_st (i' := 17) (ls' := [.ref 0, .int (p1 - (nI 2)), .int p2]) (st' := [.int (nI 1)]) (E' := E) (I' := I) (J' := J) (S' := S) am_e115 rfl rfl rfl rfl ?_
                refine w_end (E' := E) (I' := I) (J' := J) (S' := S) am_e115 rfl rfl rfl (q_mkI ?_)
                show am_ww 168 49 [.ref 0, .int p1, .int p2, .int p3] [.int (nI 1)] E I J S _
                exact w_end am_e168 rfl rfl rfl h
      · replace h := h.1 (Decidable.not_not.mp (of_decide_eq_false c))
        refine w_st (i' := 35) (ls' := [.ref 0, .int p1, .int p2, .int p3]) (st' := [.int p2]) (E' := E) (I' := I) (J' := J) (S' := S) am_e168 rfl rfl rfl rfl ?_
        refine w_if1 am_e168 rfl rfl (fun c => ?_) (fun c => ?_)
        · replace h := h.1 (of_decide_eq_true c)
          refine w_st (i' := 42) (ls' := [.ref 0, .int p1, .int p2, .int p3]) (st' := [.int (nI 0)]) (E' := E) (I' := I) (J' := J) (S' := S) am_e168 rfl rfl rfl rfl ?_
          exact w_end am_e168 rfl rfl rfl h
        · replace h := h.2 (of_decide_eq_false c)
          refine w_st (i' := 37) (ls' := [.ref 0, .int p1, .int p2, .int p3]) (st' := [.int p2]) (E' := E) (I' := I) (J' := J) (S' := S) am_e168 rfl rfl rfl rfl ?_
          refine w_st (i' := 38) (ls' := [.ref 0, .int p1, .int p2, .int p3]) (st' := [.int (nI 16), .int p2]) (E' := E) (I' := I) (J' := J) (S' := S) am_e168 rfl rfl rfl rfl ?_
          refine w_if2 am_e168 rfl rfl (fun c => ?_) (fun c => ?_)
          · replace h := h.1 (of_decide_eq_true c)
            refine w_st (i' := 42) (ls' := [.ref 0, .int p1, .int p2, .int p3]) (st' := [.int (nI 0)]) (E' := E) (I' := I) (J' := J) (S' := S) am_e168 rfl rfl rfl rfl ?_
            exact w_end am_e168 rfl rfl rfl h
          · replace h := h.2 (of_decide_eq_false c)
            refine w_st (i' := 40) (ls' := [.ref 0, .int p1, .int p2, .int p3]) (st' := [.int (nI 1)]) (E' := E) (I' := I) (J' := J) (S' := S) am_e168 rfl rfl rfl rfl ?_
            refine w_st (i' := 42) (ls' := [.ref 0, .int p1, .int p2, .int p3]) (st' := [.int (nI 1)]) (E' := E) (I' := I) (J' := J) (S' := S) am_e168 rfl rfl rfl rfl ?_
            exact w_end am_e168 rfl rfl rfl h
    · replace h := h.1 (Decidable.not_not.mp (of_decide_eq_false c))
      refine w_st (i' := 21) (ls' := [.ref 0, .int p1, .int p2, .int p3]) (st' := [.int p2]) (E' := E) (I' := I) (J' := J) (S' := S) am_e168 rfl rfl rfl rfl ?_
      refine w_if1 am_e168 rfl rfl (fun c => ?_) (fun c => ?_)
      · replace h := h.1 (of_decide_eq_true c)
        refine w_st (i' := 30) (ls' := [.ref 0, .int p1, .int p2, .int p3]) (st' := [.int (nI 0)]) (E' := E) (I' := I) (J' := J) (S' := S) am_e168 rfl rfl rfl rfl ?_
        exact w_end am_e168 rfl rfl rfl h
      · replace h := h.2 (of_decide_eq_false c)
        refine w_st (i' := 23) (ls' := [.ref 0, .int p1, .int p2, .int p3]) (st' := [.int p2]) (E' := E) (I' := I) (J' := J) (S' := S) am_e168 rfl rfl rfl rfl ?_
        refine w_st (i' := 24) (ls' := [.ref 0, .int p1, .int p2, .int p3]) (st' := [.ref 0, .int p2]) (E' := E) (I' := I) (J' := J) (S' := S) am_e168 rfl rfl rfl rfl ?_
        refine w_st (i' := 25) (ls' := [.ref 0, .int p1, .int p2, .int p3]) (st' := [.ref 18, .int p2]) (E' := E) (I' := I) (J' := J) (S' := S) am_e168 rfl rfl rfl rfl ?_
        refine w_st (i' := 26) (ls' := [.ref 0, .int p1, .int p2, .int p3]) (st' := [.int ((I 18) 9), .int p2]) (E' := E) (I' := I) (J' := J) (S' := S) am_e168 rfl rfl rfl rfl ?_
        refine w_if2 am_e168 rfl rfl (fun c => ?_) (fun c => ?_)
        · replace h := h.1 (of_decide_eq_true c)
          refine w_st (i' := 30) (ls' := [.ref 0, .int p1, .int p2, .int p3]) (st' := [.int (nI 0)]) (E' := E) (I' := I) (J' := J) (S' := S) am_e168 rfl rfl rfl rfl ?_
          exact w_end am_e168 rfl rfl rfl h
        · replace h := h.2 (of_decide_eq_false c)
          refine w_st (i' := 28) (ls' := [.ref 0, .int p1, .int p2, .int p3]) (st' := [.int (nI 1)]) (E' := E) (I' := I) (J' := J) (S' := S) am_e168 rfl rfl rfl rfl ?_
          refine w_st (i' := 30) (ls' := [.ref 0, .int p1, .int p2, .int p3]) (st' := [.int (nI 1)]) (E' := E) (I' := I) (J' := J) (S' := S) am_e168 rfl rfl rfl rfl ?_
          exact w_end am_e168 rfl rfl rfl h
  · replace h := h.1 (Decidable.not_not.mp (of_decide_eq_false c))
    refine w_st (i' := 3) (ls' := [.ref 0, .int p1, .int p2, .int p3]) (st' := [.int p2]) (E' := E) (I' := I) (J' := J) (S' := S) am_e168 rfl rfl rfl rfl ?_
    refine w_if1 am_e168 rfl rfl (fun c => ?_) (fun c => ?_)
    · replace h := h.1 (of_decide_eq_true c)
      refine w_st (i' := 16) (ls' := [.ref 0, .int p1, .int p2, .int p3]) (st' := [.int (nI 0)]) (E' := E) (I' := I) (J' := J) (S' := S) am_e168 rfl rfl rfl rfl ?_
      exact w_end am_e168 rfl rfl rfl h
    · replace h := h.2 (of_decide_eq_false c)
      refine w_st (i' := 5) (ls' := [.ref 0, .int p1, .int p2, .int p3]) (st' := [.int p2]) (E' := E) (I' := I) (J' := J) (S' := S) am_e168 rfl rfl rfl rfl ?_
      refine w_st (i' := 6) (ls' := [.ref 0, .int p1, .int p2, .int p3]) (st' := [.ref 0, .int p2]) (E' := E) (I' := I) (J' := J) (S' := S) am_e168 rfl rfl rfl rfl ?_
      refine w_st (i' := 7) (ls' := [.ref 0, .int p1, .int p2, .int p3]) (st' := [.ref 18, .int p2]) (E' := E) (I' := I) (J' := J) (S' := S) am_e168 rfl rfl rfl rfl ?_
      refine w_st (i' := 8) (ls' := [.ref 0, .int p1, .int p2, .int p3]) (st' := [.int ((I 18) 9), .int p2]) (E' := E) (I' := I) (J' := J) (S' := S) am_e168 rfl rfl rfl rfl ?_
      refine w_if2 am_e168 rfl rfl (fun c => ?_) (fun c => ?_)
      · replace h := h.1 (of_decide_eq_true c)
        refine w_st (i' := 16) (ls' := [.ref 0, .int p1, .int p2, .int p3]) (st' := [.int (nI 0)]) (E' := E) (I' := I) (J' := J) (S' := S) am_e168 rfl rfl rfl rfl ?_
        exact w_end am_e168 rfl rfl rfl h
      · replace h := h.2 (of_decide_eq_false c)
        refine w_st (i' := 10) (ls' := [.ref 0, .int p1, .int p2, .int p3]) (st' := [.ref 0]) (E' := E) (I' := I) (J' := J) (S' := S) am_e168 rfl rfl rfl rfl ?_
        refine w_st (i' := 11) (ls' := [.ref 0, .int p1, .int p2, .int p3]) (st' := [.int p3, .ref 0]) (E' := E) (I' := I) (J' := J) (S' := S) am_e168 rfl rfl rfl rfl ?_
        refine w_cI am_e168 rfl rfl (as := [.ref 0, .int p3]) (rest := []) rfl rfl ?_
        show am_ww 127 0 [.ref 0, .int p3] [] E I J S _
        refine w_st (i' := 1) (ls' := [.ref 0, .int p3]) (st' := [.int p3]) (E' := E) (I' := I) (J' := J) (S' := S) am_e127 rfl rfl rfl rfl ?_
        refine w_if1 am_e127 rfl rfl (fun c => ?_) (fun c => ?_)
        · replace h := h.1 (of_decide_eq_true c)
          refine w_st (i' := 10) (ls' := [.ref 0, .int p3]) (st' := [.int (nI 0)]) (E' := E) (I' := I) (J' := J) (S' := S) am_e127 rfl rfl rfl rfl ?_
          refine w_end (E' := E) (I' := I) (J' := J) (S' := S) am_e127 rfl rfl rfl (q_mkI ?_)
          show am_ww 168 12 [.ref 0, .int p1, .int p2, .int p3] [.int (nI 0)] E I J S _
          refine w_st (i' := 15) (ls' := [.ref 0, .int p1, .int p2, .int p3]) (st' := []) (E' := E) (I' := I) (J' := J) (S' := S) am_e168 rfl rfl rfl rfl ?_
          refine w_st (i' := 16) (ls' := [.ref 0, .int p1, .int p2, .int p3]) (st' := [.int (nI 0)]) (E' := E) (I' := I) (J' := J) (S' := S) am_e168 rfl rfl rfl rfl ?_
          exact w_end am_e168 rfl rfl rfl h
        · replace h := h.2 (of_decide_eq_false c)
          refine w_st (i' := 3) (ls' := [.ref 0, .int p3]) (st' := [.int p3]) (E' := E) (I' := I) (J' := J) (S' := S) am_e127 rfl rfl rfl rfl ?_
          refine w_st (i' := 4) (ls' := [.ref 0, .int p3]) (st' := [.ref 0, .int p3]) (E' := E) (I' := I) (J' := J) (S' := S) am_e127 rfl rfl rfl rfl ?_
          refine w_st (i' := 5) (ls' := [.ref 0, .int p3]) (st' := [.ref 12, .int p3]) (E' := E) (I' := I) (J' := J) (S' := S) am_e127 rfl rfl rfl rfl ?_
          refine w_st (i' := 6) (ls' := [.ref 0, .int p3]) (st' := [.int ((I 12) 5), .int p3]) (E' := E) (I' := I) (J' := J) (S' := S) am_e127 rfl rfl rfl rfl ?_
          refine w_if2 am_e127 rfl rfl (fun c => ?_) (fun c => ?_)
          · replace h := h.1 (of_decide_eq_true c)
            refine w_st (i' := 10) (ls' := [.ref 0, .int p3]) (st' := [.int (nI 0)]) (E' := E) (I' := I) (J' := J) (S' := S) am_e127 rfl rfl rfl rfl ?_
            refine w_end (E' := E) (I' := I) (J' := J) (S' := S) am_e127 rfl rfl rfl (q_mkI ?_)
            show am_ww 168 12 [.ref 0, .int p1, .int p2, .int p3] [.int (nI 0)] E I J S _
            refine w_st (i' := 15) (ls' := [.ref 0, .int p1, .int p2, .int p3]) (st' := []) (E' := E) (I' := I) (J' := J) (S' := S) am_e168 rfl rfl rfl rfl ?_
            refine w_st (i' := 16) (ls' := [.ref 0, .int p1, .int p2, .int p3]) (st' := [.int (nI 0)]) (E' := E) (I' := I) (J' := J) (S' := S) am_e168 rfl rfl rfl rfl ?_
            exact w_end am_e168 rfl rfl rfl h
          · replace h := h.2 (of_decide_eq_false c)
            refine w_st (i' := 8) (ls' := [.ref 0, .int p3]) (st' := [.int (nI 1)]) (E' := E) (I' := I) (J' := J) (S' := S) am_e127 rfl rfl rfl rfl ?_
            refine w_st (i' := 10) (ls' := [.ref 0, .int p3]) (st' := [.int (nI 1)]) (E' := E) (I' := I) (J' := J) (S' := S) am_e127 rfl rfl rfl rfl ?_
            refine w_end (E' := E) (I' := I) (J' := J) (S' := S) am_e127 rfl rfl rfl (q_mkI ?_)
            show am_ww 168 12 [.ref 0, .int p1, .int p2, .int p3] [.int (nI 1)] E I J S _
            refine w_st (i' := 13) (ls' := [.ref 0, .int p1, .int p2, .int p3]) (st' := []) (E' := E) (I' := I) (J' := J) (S' := S) am_e168 rfl rfl rfl rfl ?_
            refine w_st (i' := 14) (ls' := [.ref 0, .int p1, .int p2, .int p3]) (st' := [.int (nI 1)]) (E' := E) (I' := I) (J' := J) (S' := S) am_e168 rfl rfl rfl rfl ?_
            refine w_st (i' := 16) (ls' := [.ref 0, .int p1, .int p2, .int p3]) (st' := [.int (nI 1)]) (E' := E) (I' := I) (J' := J) (S' := S) am_e168 rfl rfl rfl rfl ?_
            exact w_end am_e168 rfl rfl rfl h
-- 170 firstOtherStep
theorem g170_0  {E : am_Ev} {I : Nat → Nat → Int32} {J : Nat → Nat → Int64} {S : Nat → Nat → Option Nat} {Q : am_Qt}  (h : am_cl 17 [.ref 60, .ref 12] E I J S (q_V fun E1 I1 J1 S1 => am_cl 171 [.ref 61, .ref 69, .int ((I1 12) 5)] E1 I1 J1 S1 (q_I fun v2 E2 I2 J2 S2 => (v2 = 0 → (Q (.inl (some (.int (nI 0)))) E2 I2 J2 S2)) ∧ (¬ v2 = 0 → (am_ww 170 20 [.ref 0, .int (nI 1)] [] E2 I2 J2 S2 Q))))) : am_ww 170 0 [.ref 0, am_U] [] E I J S Q := by
  refine w_st (i' := 1) (ls' := [.ref 0, am_U]) (st' := [.ref 0]) (E' := E) (I' := I) (J' := J) (S' := S) am_e170 rfl rfl rfl rfl ?_
  refine w_st (i' := 2) (ls' := [.ref 0, am_U]) (st' := [.ref 60]) (E' := E) (I' := I) (J' := J) (S' := S) am_e170 rfl rfl rfl rfl ?_
  refine w_st (i' := 3) (ls' := [.ref 0, am_U]) (st' := [.ref 0, .ref 60]) (E' := E) (I' := I) (J' := J) (S' := S) am_e170 rfl rfl rfl rfl ?_
  refine w_st (i' := 4) (ls' := [.ref 0, am_U]) (st' := [.ref 12, .ref 60]) (E' := E) (I' := I) (J' := J) (S' := S) am_e170 rfl rfl rfl rfl ?_
  refine w_cV am_e170 rfl rfl (as := [.ref 60, .ref 12]) (rest := []) rfl rfl (am_ww.mono h ?_)
  rintro _ E1 I1 J1 S1 ⟨rfl, h⟩
  refine q_mkV ?_
  refine w_st (i' := 6) (ls' := [.ref 0, am_U]) (st' := [.ref 0]) (E' := E1) (I' := I1) (J' := J1) (S' := S1) am_e170 rfl rfl rfl rfl ?_
  refine w_st (i' := 7) (ls' := [.ref 0, am_U]) (st' := [.ref 60]) (E' := E1) (I' := I1) (J' := J1) (S' := S1) am_e170 rfl rfl rfl rfl ?_
  refine w_st (i' := 8) (ls' := [.ref 0, am_U]) (st' := [.ref 61]) (E' := E1) (I' := I1) (J' := J1) (S' := S1) am_e170 rfl rfl rfl rfl ?_
  refine w_st (i' := 9) (ls' := [.ref 0, am_U]) (st' := [.ref 0, .ref 61]) (E' := E1) (I' := I1) (J' := J1) (S' := S1) am_e170 rfl rfl rfl rfl ?_
  refine w_st (i' := 10) (ls' := [.ref 0, am_U]) (st' := [.ref 68, .ref 61]) (E' := E1) (I' := I1) (J' := J1) (S' := S1) am_e170 rfl rfl rfl rfl ?_
  refine w_st (i' := 11) (ls' := [.ref 0, am_U]) (st' := [.ref 69, .ref 61]) (E' := E1) (I' := I1) (J' := J1) (S' := S1) am_e170 rfl rfl rfl rfl ?_
  refine w_st (i' := 12) (ls' := [.ref 0, am_U]) (st' := [.ref 0, .ref 69, .ref 61]) (E' := E1) (I' := I1) (J' := J1) (S' := S1) am_e170 rfl rfl rfl rfl ?_
  refine w_st (i' := 13) (ls' := [.ref 0, am_U]) (st' := [.ref 12, .ref 69, .ref 61]) (E' := E1) (I' := I1) (J' := J1) (S' := S1) am_e170 rfl rfl rfl rfl ?_
  refine w_st (i' := 14) (ls' := [.ref 0, am_U]) (st' := [.int ((I1 12) 5), .ref 69, .ref 61]) (E' := E1) (I' := I1) (J' := J1) (S' := S1) am_e170 rfl rfl rfl rfl ?_
  refine w_cI am_e170 rfl rfl (as := [.ref 61, .ref 69, .int ((I1 12) 5)]) (rest := []) rfl rfl (am_ww.mono h ?_)
  rintro _ E2 I2 J2 S2 ⟨v2, rfl, h⟩
  refine q_mkI ?_
  refine w_if1 am_e170 rfl rfl (fun c => ?_) (fun c => ?_)
  · replace h := h.2 (of_decide_eq_true c)
    refine w_st (i' := 19) (ls' := [.ref 0, am_U]) (st' := [.int (nI 1)]) (E' := E2) (I' := I2) (J' := J2) (S' := S2) am_e170 rfl rfl rfl rfl ?_
    refine w_st (i' := 20) (ls' := [.ref 0, .int (nI 1)]) (st' := []) (E' := E2) (I' := I2) (J' := J2) (S' := S2) am_e170 rfl rfl rfl rfl ?_
    exact h
  · replace h := h.1 (Decidable.not_not.mp (of_decide_eq_false c))
    refine w_st (i' := 17) (ls' := [.ref 0, am_U]) (st' := [.int (nI 0)]) (E' := E2) (I' := I2) (J' := J2) (S' := S2) am_e170 rfl rfl rfl rfl ?_
    exact w_end am_e170 rfl rfl rfl h
theorem g170_20 {x1 : Int32} {E : am_Ev} {I : Nat → Nat → Int32} {J : Nat → Nat → Int64} {S : Nat → Nat → Option Nat} {Q : am_Qt}  (h : (((I 18) 10) < x1 → (Q (.inl (some (.int (-1)))) E I J S)) ∧ (¬ ((I 18) 10) < x1 → (am_cl 47 [.ref 60, .ref 12, .ref 18] E I J S (q_I fun v1 E1 I1 J1 S1 => am_cl 47 [.ref 68, .ref 12, .ref 18] E1 I1 J1 S1 (q_I fun v2 E2 I2 J2 S2 => (v2 = 0 → (Q (.inl (some (.int x1))) E2 I2 J2 S2)) ∧ (¬ v2 = 0 → (am_cl 171 [.ref 61, .ref 69, .int ((I2 12) 5)] E2 I2 J2 S2 (q_I fun v3 E3 I3 J3 S3 => (v3 = 0 → (Q (.inl (some (.int x1))) E3 I3 J3 S3)) ∧ (¬ v3 = 0 → (am_ww 170 20 [.ref 0, .int (x1 + nI 1)] [] E3 I3 J3 S3 Q)))))))))) : am_ww 170 20 [.ref 0, .int x1] [] E I J S Q := by
  refine w_st (i' := 21) (ls' := [.ref 0, .int x1]) (st' := [.int x1]) (E' := E) (I' := I) (J' := J) (S' := S) am_e170 rfl rfl rfl rfl ?_
  refine w_st (i' := 22) (ls' := [.ref 0, .int x1]) (st' := [.ref 0, .int x1]) (E' := E) (I' := I) (J' := J) (S' := S) am_e170 rfl rfl rfl rfl ?_
  refine w_st (i' := 23) (ls' := [.ref 0, .int x1]) (st' := [.ref 18, .int x1]) (E' := E) (I' := I) (J' := J) (S' := S) am_e170 rfl rfl rfl rfl ?_
  refine w_st (i' := 24) (ls' := [.ref 0, .int x1]) (st' := [.int ((I 18) 10), .int x1]) (E' := E) (I' := I) (J' := J) (S' := S) am_e170 rfl rfl rfl rfl ?_
  refine w_if2 am_e170 rfl rfl (fun c => ?_) (fun c => ?_)
  · replace h := h.1 (of_decide_eq_true c)
    refine w_st (i' := 57) (ls' := [.ref 0, .int x1]) (st' := [.int (-1)]) (E' := E) (I' := I) (J' := J) (S' := S) am_e170 rfl rfl rfl rfl ?_
    exact w_end am_e170 rfl rfl rfl h
  · replace h := h.2 (of_decide_eq_false c)
    refine w_st (i' := 26) (ls' := [.ref 0, .int x1]) (st' := [.ref 0]) (E' := E) (I' := I) (J' := J) (S' := S) am_e170 rfl rfl rfl rfl ?_
    refine w_st (i' := 27) (ls' := [.ref 0, .int x1]) (st' := [.ref 60]) (E' := E) (I' := I) (J' := J) (S' := S) am_e170 rfl rfl rfl rfl ?_
    refine w_st (i' := 28) (ls' := [.ref 0, .int x1]) (st' := [.ref 0, .ref 60]) (E' := E) (I' := I) (J' := J) (S' := S) am_e170 rfl rfl rfl rfl ?_
    refine w_st (i' := 29) (ls' := [.ref 0, .int x1]) (st' := [.ref 12, .ref 60]) (E' := E) (I' := I) (J' := J) (S' := S) am_e170 rfl rfl rfl rfl ?_
    refine w_st (i' := 30) (ls' := [.ref 0, .int x1]) (st' := [.ref 0, .ref 12, .ref 60]) (E' := E) (I' := I) (J' := J) (S' := S) am_e170 rfl rfl rfl rfl ?_
    refine w_st (i' := 31) (ls' := [.ref 0, .int x1]) (st' := [.ref 18, .ref 12, .ref 60]) (E' := E) (I' := I) (J' := J) (S' := S) am_e170 rfl rfl rfl rfl ?_
    refine w_cI am_e170 rfl rfl (as := [.ref 60, .ref 12, .ref 18]) (rest := []) rfl rfl (am_ww.mono h ?_)
    rintro _ E1 I1 J1 S1 ⟨v1, rfl, h⟩
    refine q_mkI ?_
    refine w_st (i' := 33) (ls' := [.ref 0, .int x1]) (st' := []) (E' := E1) (I' := I1) (J' := J1) (S' := S1) am_e170 rfl rfl rfl rfl ?_
    refine w_st (i' := 34) (ls' := [.ref 0, .int x1]) (st' := [.ref 0]) (E' := E1) (I' := I1) (J' := J1) (S' := S1) am_e170 rfl rfl rfl rfl ?_
    refine w_st (i' := 35) (ls' := [.ref 0, .int x1]) (st' := [.ref 68]) (E' := E1) (I' := I1) (J' := J1) (S' := S1) am_e170 rfl rfl rfl rfl ?_
    refine w_st (i' := 36) (ls' := [.ref 0, .int x1]) (st' := [.ref 0, .ref 68]) (E' := E1) (I' := I1) (J' := J1) (S' := S1) am_e170 rfl rfl rfl rfl ?_
    refine w_st (i' := 37) (ls' := [.ref 0, .int x1]) (st' := [.ref 12, .ref 68]) (E' := E1) (I' := I1) (J' := J1) (S' := S1) am_e170 rfl rfl rfl rfl ?_
    refine w_st (i' := 38) (ls' := [.ref 0, .int x1]) (st' := [.ref 0, .ref 12, .ref 68]) (E' := E1) (I' := I1) (J' := J1) (S' := S1) am_e170 rfl rfl rfl rfl ?_
    refine w_st (i' := 39) (ls' := [.ref 0, .int x1]) (st' := [.ref 18, .ref 12, .ref 68]) (E' := E1) (I' := I1) (J' := J1) (S' := S1) am_e170 rfl rfl rfl rfl ?_
    refine w_cI am_e170 rfl rfl (as := [.ref 68, .ref 12, .ref 18]) (rest := []) rfl rfl (am_ww.mono h ?_)
    rintro _ E2 I2 J2 S2 ⟨v2, rfl, h⟩
    refine q_mkI ?_
    refine w_if1 am_e170 rfl rfl (fun c => ?_) (fun c => ?_)
    · replace h := h.1 (of_decide_eq_true c)
      refine w_st (i' := 53) (ls' := [.ref 0, .int x1]) (st' := [.int x1]) (E' := E2) (I' := I2) (J' := J2) (S' := S2) am_e170 rfl rfl rfl rfl ?_
      exact w_ri am_e170 rfl rfl h
    · replace h := h.2 (of_decide_eq_false c)
      refine w_st (i' := 42) (ls' := [.ref 0, .int x1]) (st' := [.ref 0]) (E' := E2) (I' := I2) (J' := J2) (S' := S2) am_e170 rfl rfl rfl rfl ?_
      refine w_st (i' := 43) (ls' := [.ref 0, .int x1]) (st' := [.ref 60]) (E' := E2) (I' := I2) (J' := J2) (S' := S2) am_e170 rfl rfl rfl rfl ?_
      refine w_st (i' := 44) (ls' := [.ref 0, .int x1]) (st' := [.ref 61]) (E' := E2) (I' := I2) (J' := J2) (S' := S2) am_e170 rfl rfl rfl rfl ?_
      refine w_st (i' := 45) (ls' := [.ref 0, .int x1]) (st' := [.ref 0, .ref 61]) (E' := E2) (I' := I2) (J' := J2) (S' := S2) am_e170 rfl rfl rfl rfl ?_
      refine w_st (i' := 46) (ls' := [.ref 0, .int x1]) (st' := [.ref 68, .ref 61]) (E' := E2) (I' := I2) (J' := J2) (S' := S2) am_e170 rfl rfl rfl rfl ?_
      refine w_st (i' := 47) (ls' := [.ref 0, .int x1]) (st' := [.ref 69, .ref 61]) (E' := E2) (I' := I2) (J' := J2) (S' := S2) am_e170 rfl rfl rfl rfl ?_
      refine w_st (i' := 48) (ls' := [.ref 0, .int x1]) (st' := [.ref 0, .ref 69, .ref 61]) (E' := E2) (I' := I2) (J' := J2) (S' := S2) am_e170 rfl rfl rfl rfl ?_
      refine w_st (i' := 49) (ls' := [.ref 0, .int x1]) (st' := [.ref 12, .ref 69, .ref 61]) (E' := E2) (I' := I2) (J' := J2) (S' := S2) am_e170 rfl rfl rfl rfl ?_
      refine w_st (i' := 50) (ls' := [.ref 0, .int x1]) (st' := [.int ((I2 12) 5), .ref 69, .ref 61]) (E' := E2) (I' := I2) (J' := J2) (S' := S2) am_e170 rfl rfl rfl rfl ?_
      refine w_cI am_e170 rfl rfl (as := [.ref 61, .ref 69, .int ((I2 12) 5)]) (rest := []) rfl rfl (am_ww.mono h ?_)
      rintro _ E3 I3 J3 S3 ⟨v3, rfl, h⟩
      refine q_mkI ?_
      refine w_if1 am_e170 rfl rfl (fun c => ?_) (fun c => ?_)
      · replace h := h.2 (of_decide_eq_true c)
        refine w_st (i' := 55) (ls' := [.ref 0, .int (x1 + nI 1)]) (st' := []) (E' := E3) (I' := I3) (J' := J3) (S' := S3) am_e170 rfl rfl rfl rfl ?_
        refine w_st (i' := 20) (ls' := [.ref 0, .int (x1 + nI 1)]) (st' := []) (E' := E3) (I' := I3) (J' := J3) (S' := S3) am_e170 rfl rfl rfl rfl ?_
        exact h
      · replace h := h.1 (Decidable.not_not.mp (of_decide_eq_false c))
        refine w_st (i' := 53) (ls' := [.ref 0, .int x1]) (st' := [.int x1]) (E' := E3) (I' := I3) (J' := J3) (S' := S3) am_e170 rfl rfl rfl rfl ?_
        exact w_ri am_e170 rfl rfl h
-- 173 firstOtherDigest
theorem g173_0  {E : am_Ev} {I : Nat → Nat → Int32} {J : Nat → Nat → Int64} {S : Nat → Nat → Option Nat} {Q : am_Qt}  (h : ∀ w1 : Int32, w1 = (if (nI 1) < ((I 17) 2) then ((I 17) 2) else (nI 1)) → ((¬ w1 = 0) ∧ (am_ww 173 10 [.ref 0, .int (((I 18) 10) / w1), .int (nI 0)] [] E I J S Q))) : am_ww 173 0 [.ref 0, am_U, am_U] [] E I J S Q := by
  refine w_st (i' := 1) (ls' := [.ref 0, am_U, am_U]) (st' := [.ref 0]) (E' := E) (I' := I) (J' := J) (S' := S) am_e173 rfl rfl rfl rfl ?_
  refine w_st (i' := 2) (ls' := [.ref 0, am_U, am_U]) (st' := [.ref 18]) (E' := E) (I' := I) (J' := J) (S' := S) am_e173 rfl rfl rfl rfl ?_
  refine w_st (i' := 3) (ls' := [.ref 0, am_U, am_U]) (st' := [.int ((I 18) 10)]) (E' := E) (I' := I) (J' := J) (S' := S) am_e173 rfl rfl rfl rfl ?_
  refine w_st (i' := 4) (ls' := [.ref 0, am_U, am_U]) (st' := [.ref 0, .int ((I 18) 10)]) (E' := E) (I' := I) (J' := J) (S' := S) am_e173 rfl rfl rfl rfl ?_
  refine w_st (i' := 5) (ls' := [.ref 0, am_U, am_U]) (st' := [.ref 12, .int ((I 18) 10)]) (E' := E) (I' := I) (J' := J) (S' := S) am_e173 rfl rfl rfl rfl ?_
  refine w_cI am_e173 rfl rfl (as := [.ref 12]) (rest := [.int ((I 18) 10)]) rfl rfl ?_
  show am_ww 39 0 [.ref 12] [] E I J S _
  refine w_st (i' := 1) (ls' := [.ref 12]) (st' := [.int (nI 1)]) (E' := E) (I' := I) (J' := J) (S' := S) am_e39 rfl rfl rfl rfl ?_
  refine w_st (i' := 2) (ls' := [.ref 12]) (st' := [.ref 12, .int (nI 1)]) (E' := E) (I' := I) (J' := J) (S' := S) am_e39 rfl rfl rfl rfl ?_
  refine w_st (i' := 3) (ls' := [.ref 12]) (st' := [.ref 17, .int (nI 1)]) (E' := E) (I' := I) (J' := J) (S' := S) am_e39 rfl rfl rfl rfl ?_
  refine w_st (i' := 4) (ls' := [.ref 12]) (st' := [.int (nI 2), .ref 17, .int (nI 1)]) (E' := E) (I' := I) (J' := J) (S' := S) am_e39 rfl rfl rfl rfl ?_
  refine w_ia (k := 17) (n := 4) (jn := 2) am_e39 rfl rfl (by decide) (vp_in_nI (by decide) (by decide)) rfl ?_
  show am_ww 39 5 [.ref 12] [.int ((I 17) 2), .int (nI 1)] E I J S _
  refine w_st (i' := 6) (ls' := [.ref 12]) (st' := [.int (if (nI 1) < ((I 17) 2) then ((I 17) 2) else (nI 1))]) (E' := E) (I' := I) (J' := J) (S' := S) am_e39 rfl rfl rfl rfl ?_
  refine w_ri am_e39 rfl rfl (q_mkI ?_)
  show am_ww 173 6 [.ref 0, am_U, am_U] [.int (if (nI 1) < ((I 17) 2) then ((I 17) 2) else (nI 1)), .int ((I 18) 10)] E I J S _
  refine w_var (fun w1 => am_ww 173 6 [.ref 0, am_U, am_U] [.int w1, .int ((I 18) 10)] E I J S _) (if (nI 1) < ((I 17) 2) then ((I 17) 2) else (nI 1)) (fun w1 hw1 => ?_)
  replace h := h w1 hw1
  refine w_dv h.1 am_e173 rfl ?_
  replace h := h.2
  refine w_st (i' := 8) (ls' := [.ref 0, .int (((I 18) 10) / w1), am_U]) (st' := []) (E' := E) (I' := I) (J' := J) (S' := S) am_e173 rfl rfl rfl rfl ?_
  refine w_st (i' := 9) (ls' := [.ref 0, .int (((I 18) 10) / w1), am_U]) (st' := [.int (nI 0)]) (E' := E) (I' := I) (J' := J) (S' := S) am_e173 rfl rfl rfl rfl ?_
  refine w_st (i' := 10) (ls' := [.ref 0, .int (((I 18) 10) / w1), .int (nI 0)]) (st' := []) (E' := E) (I' := I) (J' := J) (S' := S) am_e173 rfl rfl rfl rfl ?_
  exact h
theorem g173_10 {x1 : Int32} {x2 : Int32} {E : am_Ev} {I : Nat → Nat → Int32} {J : Nat → Nat → Int64} {S : Nat → Nat → Option Nat} {Q : am_Qt}  (h : (x1 ≤ x2 → (Q (.inl (some (.int (-1)))) E I J S)) ∧ (¬ x1 ≤ x2 → (∀ w1 : Int32, w1 = (if (nI 1) < ((I 17) 2) then ((I 17) 2) else (nI 1)) → (am_cl 46 [.ref 68, .int ((x2 + (nI 1)) * w1), .ref 12, .ref 18] E I J S (q_V fun E2 I2 J2 S2 => (((I2 68) 3) = 0 → (am_cl 40 [.ref 69, .ref 12] E2 I2 J2 S2 (q_I fun v3 E3 I3 J3 S3 => vp_in x2 400 ∧ ((v3 = ((I3 32) x2.toNatClampNeg) → (am_ww 173 10 [.ref 0, .int x1, .int (x2 + nI 1)] [] E3 I3 J3 S3 Q)) ∧ (¬ v3 = ((I3 32) x2.toNatClampNeg) → (Q (.inl (some (.int x2))) E3 I3 J3 S3)))))) ∧ (¬ ((I2 68) 3) = 0 → (Q (.inl (some (.int (-1)))) E2 I2 J2 S2))))))) : am_ww 173 10 [.ref 0, .int x1, .int x2] [] E I J S Q := by
  refine w_st (i' := 11) (ls' := [.ref 0, .int x1, .int x2]) (st' := [.int x2]) (E' := E) (I' := I) (J' := J) (S' := S) am_e173 rfl rfl rfl rfl ?_
  refine w_st (i' := 12) (ls' := [.ref 0, .int x1, .int x2]) (st' := [.int x1, .int x2]) (E' := E) (I' := I) (J' := J) (S' := S) am_e173 rfl rfl rfl rfl ?_
  refine w_if2 am_e173 rfl rfl (fun c => ?_) (fun c => ?_)
  · replace h := h.1 (of_decide_eq_true c)
    refine w_st (i' := 50) (ls' := [.ref 0, .int x1, .int x2]) (st' := [.int (-1)]) (E' := E) (I' := I) (J' := J) (S' := S) am_e173 rfl rfl rfl rfl ?_
    exact w_end am_e173 rfl rfl rfl h
  · replace h := h.2 (of_decide_eq_false c)
    refine w_st (i' := 14) (ls' := [.ref 0, .int x1, .int x2]) (st' := [.ref 0]) (E' := E) (I' := I) (J' := J) (S' := S) am_e173 rfl rfl rfl rfl ?_
    refine w_st (i' := 15) (ls' := [.ref 0, .int x1, .int x2]) (st' := [.ref 68]) (E' := E) (I' := I) (J' := J) (S' := S) am_e173 rfl rfl rfl rfl ?_
    refine w_st (i' := 16) (ls' := [.ref 0, .int x1, .int x2]) (st' := [.int x2, .ref 68]) (E' := E) (I' := I) (J' := J) (S' := S) am_e173 rfl rfl rfl rfl ?_
    refine w_st (i' := 17) (ls' := [.ref 0, .int x1, .int x2]) (st' := [.int (nI 1), .int x2, .ref 68]) (E' := E) (I' := I) (J' := J) (S' := S) am_e173 rfl rfl rfl rfl ?_
    refine w_st (i' := 18) (ls' := [.ref 0, .int x1, .int x2]) (st' := [.int (x2 + (nI 1)), .ref 68]) (E' := E) (I' := I) (J' := J) (S' := S) am_e173 rfl rfl rfl rfl ?_
    refine w_st (i' := 19) (ls' := [.ref 0, .int x1, .int x2]) (st' := [.ref 0, .int (x2 + (nI 1)), .ref 68]) (E' := E) (I' := I) (J' := J) (S' := S) am_e173 rfl rfl rfl rfl ?_
    refine w_st (i' := 20) (ls' := [.ref 0, .int x1, .int x2]) (st' := [.ref 12, .int (x2 + (nI 1)), .ref 68]) (E' := E) (I' := I) (J' := J) (S' := S) am_e173 rfl rfl rfl rfl ?_
    refine w_cI am_e173 rfl rfl (as := [.ref 12]) (rest := [.int (x2 + (nI 1)), .ref 68]) rfl rfl ?_
    show am_ww 39 0 [.ref 12] [] E I J S _
    refine w_st (i' := 1) (ls' := [.ref 12]) (st' := [.int (nI 1)]) (E' := E) (I' := I) (J' := J) (S' := S) am_e39 rfl rfl rfl rfl ?_
    refine w_st (i' := 2) (ls' := [.ref 12]) (st' := [.ref 12, .int (nI 1)]) (E' := E) (I' := I) (J' := J) (S' := S) am_e39 rfl rfl rfl rfl ?_
    refine w_st (i' := 3) (ls' := [.ref 12]) (st' := [.ref 17, .int (nI 1)]) (E' := E) (I' := I) (J' := J) (S' := S) am_e39 rfl rfl rfl rfl ?_
    refine w_st (i' := 4) (ls' := [.ref 12]) (st' := [.int (nI 2), .ref 17, .int (nI 1)]) (E' := E) (I' := I) (J' := J) (S' := S) am_e39 rfl rfl rfl rfl ?_
    refine w_ia (k := 17) (n := 4) (jn := 2) am_e39 rfl rfl (by decide) (vp_in_nI (by decide) (by decide)) rfl ?_
    show am_ww 39 5 [.ref 12] [.int ((I 17) 2), .int (nI 1)] E I J S _
    refine w_st (i' := 6) (ls' := [.ref 12]) (st' := [.int (if (nI 1) < ((I 17) 2) then ((I 17) 2) else (nI 1))]) (E' := E) (I' := I) (J' := J) (S' := S) am_e39 rfl rfl rfl rfl ?_
    refine w_ri am_e39 rfl rfl (q_mkI ?_)
    show am_ww 173 21 [.ref 0, .int x1, .int x2] [.int (if (nI 1) < ((I 17) 2) then ((I 17) 2) else (nI 1)), .int (x2 + (nI 1)), .ref 68] E I J S _
    refine w_var (fun w1 => am_ww 173 21 [.ref 0, .int x1, .int x2] [.int w1, .int (x2 + (nI 1)), .ref 68] E I J S _) (if (nI 1) < ((I 17) 2) then ((I 17) 2) else (nI 1)) (fun w1 hw1 => ?_)
    replace h := h w1 hw1
    refine w_st (i' := 22) (ls' := [.ref 0, .int x1, .int x2]) (st' := [.int ((x2 + (nI 1)) * w1), .ref 68]) (E' := E) (I' := I) (J' := J) (S' := S) am_e173 rfl rfl rfl rfl ?_
    refine w_st (i' := 23) (ls' := [.ref 0, .int x1, .int x2]) (st' := [.ref 0, .int ((x2 + (nI 1)) * w1), .ref 68]) (E' := E) (I' := I) (J' := J) (S' := S) am_e173 rfl rfl rfl rfl ?_
    refine w_st (i' := 24) (ls' := [.ref 0, .int x1, .int x2]) (st' := [.ref 12, .int ((x2 + (nI 1)) * w1), .ref 68]) (E' := E) (I' := I) (J' := J) (S' := S) am_e173 rfl rfl rfl rfl ?_
    refine w_st (i' := 25) (ls' := [.ref 0, .int x1, .int x2]) (st' := [.ref 0, .ref 12, .int ((x2 + (nI 1)) * w1), .ref 68]) (E' := E) (I' := I) (J' := J) (S' := S) am_e173 rfl rfl rfl rfl ?_
    refine w_st (i' := 26) (ls' := [.ref 0, .int x1, .int x2]) (st' := [.ref 18, .ref 12, .int ((x2 + (nI 1)) * w1), .ref 68]) (E' := E) (I' := I) (J' := J) (S' := S) am_e173 rfl rfl rfl rfl ?_
    refine w_cV am_e173 rfl rfl (as := [.ref 68, .int ((x2 + (nI 1)) * w1), .ref 12, .ref 18]) (rest := []) rfl rfl (am_ww.mono h ?_)
    rintro _ E2 I2 J2 S2 ⟨rfl, h⟩
    refine q_mkV ?_
    refine w_st (i' := 28) (ls' := [.ref 0, .int x1, .int x2]) (st' := [.ref 0]) (E' := E2) (I' := I2) (J' := J2) (S' := S2) am_e173 rfl rfl rfl rfl ?_
    refine w_st (i' := 29) (ls' := [.ref 0, .int x1, .int x2]) (st' := [.ref 68]) (E' := E2) (I' := I2) (J' := J2) (S' := S2) am_e173 rfl rfl rfl rfl ?_
    refine w_st (i' := 30) (ls' := [.ref 0, .int x1, .int x2]) (st' := [.int ((I2 68) 3)]) (E' := E2) (I' := I2) (J' := J2) (S' := S2) am_e173 rfl rfl rfl rfl ?_
    refine w_if1 am_e173 rfl rfl (fun c => ?_) (fun c => ?_)
    · replace h := h.1 (of_decide_eq_true c)
      refine w_st (i' := 34) (ls' := [.ref 0, .int x1, .int x2]) (st' := [.ref 0]) (E' := E2) (I' := I2) (J' := J2) (S' := S2) am_e173 rfl rfl rfl rfl ?_
      refine w_st (i' := 35) (ls' := [.ref 0, .int x1, .int x2]) (st' := [.ref 68]) (E' := E2) (I' := I2) (J' := J2) (S' := S2) am_e173 rfl rfl rfl rfl ?_
      refine w_st (i' := 36) (ls' := [.ref 0, .int x1, .int x2]) (st' := [.ref 69]) (E' := E2) (I' := I2) (J' := J2) (S' := S2) am_e173 rfl rfl rfl rfl ?_
      refine w_st (i' := 37) (ls' := [.ref 0, .int x1, .int x2]) (st' := [.ref 0, .ref 69]) (E' := E2) (I' := I2) (J' := J2) (S' := S2) am_e173 rfl rfl rfl rfl ?_
      refine w_st (i' := 38) (ls' := [.ref 0, .int x1, .int x2]) (st' := [.ref 12, .ref 69]) (E' := E2) (I' := I2) (J' := J2) (S' := S2) am_e173 rfl rfl rfl rfl ?_
      refine w_cI am_e173 rfl rfl (as := [.ref 69, .ref 12]) (rest := []) rfl rfl (am_ww.mono h ?_)
      rintro _ E3 I3 J3 S3 ⟨v3, rfl, h⟩
      refine q_mkI ?_
      refine w_st (i' := 40) (ls' := [.ref 0, .int x1, .int x2]) (st' := [.ref 0, .int v3]) (E' := E3) (I' := I3) (J' := J3) (S' := S3) am_e173 rfl rfl rfl rfl ?_
      refine w_st (i' := 41) (ls' := [.ref 0, .int x1, .int x2]) (st' := [.ref 18, .int v3]) (E' := E3) (I' := I3) (J' := J3) (S' := S3) am_e173 rfl rfl rfl rfl ?_
      refine w_st (i' := 42) (ls' := [.ref 0, .int x1, .int x2]) (st' := [.ref 32, .int v3]) (E' := E3) (I' := I3) (J' := J3) (S' := S3) am_e173 rfl rfl rfl rfl ?_
      refine w_st (i' := 43) (ls' := [.ref 0, .int x1, .int x2]) (st' := [.int x2, .ref 32, .int v3]) (E' := E3) (I' := I3) (J' := J3) (S' := S3) am_e173 rfl rfl rfl rfl ?_
      have hf4 := h.1
      replace h := h.2
      refine w_ia (k := 32) (n := 400) (jn := x2.toNatClampNeg) am_e173 rfl rfl (by decide) hf4 rfl ?_
      refine w_if2 am_e173 rfl rfl (fun c => ?_) (fun c => ?_)
      · replace h := h.1 (of_decide_eq_true c)
        refine w_st (i' := 48) (ls' := [.ref 0, .int x1, .int (x2 + nI 1)]) (st' := []) (E' := E3) (I' := I3) (J' := J3) (S' := S3) am_e173 rfl rfl rfl rfl ?_
        refine w_st (i' := 10) (ls' := [.ref 0, .int x1, .int (x2 + nI 1)]) (st' := []) (E' := E3) (I' := I3) (J' := J3) (S' := S3) am_e173 rfl rfl rfl rfl ?_
        exact h
      · replace h := h.2 (of_decide_eq_false c)
        refine w_st (i' := 46) (ls' := [.ref 0, .int x1, .int x2]) (st' := [.int x2]) (E' := E3) (I' := I3) (J' := J3) (S' := S3) am_e173 rfl rfl rfl rfl ?_
        exact w_ri am_e173 rfl rfl h
    · replace h := h.2 (of_decide_eq_false c)
      refine w_st (i' := 32) (ls' := [.ref 0, .int x1, .int x2]) (st' := [.int (-1)]) (E' := E2) (I' := I2) (J' := J2) (S' := S2) am_e173 rfl rfl rfl rfl ?_
      exact w_end am_e173 rfl rfl rfl h
-- 179 runTrial
theorem g179_0 {p1 : Int32} {p2 : Int32} {p3 : Int32} {E : am_Ev} {I : Nat → Nat → Int32} {J : Nat → Nat → Int64} {S : Nat → Nat → Option Nat} {Q : am_Qt}  (h : am_cl 15 [.ref 76, .ref 12, .int p2] E I J S (q_V fun E1 I1 J1 S1 => am_ww 179 10 [.ref 0, .int p1, .int p2, .int p3, .int (nI 0), .int (nI 0)] [] E1 I1 J1 S1 Q)) : am_ww 179 0 [.ref 0, .int p1, .int p2, .int p3, am_U, am_U] [] E I J S Q := by
  refine w_st (i' := 1) (ls' := [.ref 0, .int p1, .int p2, .int p3, am_U, am_U]) (st' := [.ref 0]) (E' := E) (I' := I) (J' := J) (S' := S) am_e179 rfl rfl rfl rfl ?_
  refine w_st (i' := 2) (ls' := [.ref 0, .int p1, .int p2, .int p3, am_U, am_U]) (st' := [.ref 76]) (E' := E) (I' := I) (J' := J) (S' := S) am_e179 rfl rfl rfl rfl ?_
  refine w_st (i' := 3) (ls' := [.ref 0, .int p1, .int p2, .int p3, am_U, am_U]) (st' := [.ref 0, .ref 76]) (E' := E) (I' := I) (J' := J) (S' := S) am_e179 rfl rfl rfl rfl ?_
  refine w_st (i' := 4) (ls' := [.ref 0, .int p1, .int p2, .int p3, am_U, am_U]) (st' := [.ref 12, .ref 76]) (E' := E) (I' := I) (J' := J) (S' := S) am_e179 rfl rfl rfl rfl ?_
  refine w_st (i' := 5) (ls' := [.ref 0, .int p1, .int p2, .int p3, am_U, am_U]) (st' := [.int p2, .ref 12, .ref 76]) (E' := E) (I' := I) (J' := J) (S' := S) am_e179 rfl rfl rfl rfl ?_
  refine w_cV am_e179 rfl rfl (as := [.ref 76, .ref 12, .int p2]) (rest := []) rfl rfl (am_ww.mono h ?_)
  rintro _ E1 I1 J1 S1 ⟨rfl, h⟩
  refine q_mkV ?_
  refine w_st (i' := 7) (ls' := [.ref 0, .int p1, .int p2, .int p3, am_U, am_U]) (st' := [.int (nI 0)]) (E' := E1) (I' := I1) (J' := J1) (S' := S1) am_e179 rfl rfl rfl rfl ?_
  refine w_st (i' := 8) (ls' := [.ref 0, .int p1, .int p2, .int p3, .int (nI 0), am_U]) (st' := []) (E' := E1) (I' := I1) (J' := J1) (S' := S1) am_e179 rfl rfl rfl rfl ?_
  refine w_st (i' := 9) (ls' := [.ref 0, .int p1, .int p2, .int p3, .int (nI 0), am_U]) (st' := [.int (nI 0)]) (E' := E1) (I' := I1) (J' := J1) (S' := S1) am_e179 rfl rfl rfl rfl ?_
  refine w_st (i' := 10) (ls' := [.ref 0, .int p1, .int p2, .int p3, .int (nI 0), .int (nI 0)]) (st' := []) (E' := E1) (I' := I1) (J' := J1) (S' := S1) am_e179 rfl rfl rfl rfl ?_
  exact h
theorem g179_10 {x1 : Int32} {d2 : Value} {x3 : Int32} {x4 : Int32} {x5 : Int32} {E : am_Ev} {I : Nat → Nat → Int32} {J : Nat → Nat → Int64} {S : Nat → Nat → Option Nat} {Q : am_Qt} (hd2 : am_isL d2 = false) (h : (x1 ≤ x5 → (Q (.inl (some (.int x4))) E I J S)) ∧ (¬ x1 ≤ x5 → (am_cl 30 [.ref 76, .ref 12, .ref 18, .int x3] E I J S (q_I fun v1 E1 I1 J1 S1 => (v1 = 0 → (Q (.inl (some (.int x4))) E1 I1 J1 S1)) ∧ (¬ v1 = 0 → ((((I1 76) 4) = 0 → (am_ww 179 10 [.ref 0, .int x1, d2, .int x3, .int x4, .int (x5 + nI 1)] [] E1 I1 J1 S1 Q)) ∧ (¬ ((I1 76) 4) = 0 → (am_ww 179 10 [.ref 0, .int x1, d2, .int x3, .int (x4 + nI 1), .int (x5 + nI 1)] [] E1 I1 J1 S1 Q)))))))) : am_ww 179 10 [.ref 0, .int x1, d2, .int x3, .int x4, .int x5] [] E I J S Q := by
  refine w_st (i' := 11) (ls' := [.ref 0, .int x1, d2, .int x3, .int x4, .int x5]) (st' := [.int x5]) (E' := E) (I' := I) (J' := J) (S' := S) am_e179 rfl rfl rfl rfl ?_
  refine w_st (i' := 12) (ls' := [.ref 0, .int x1, d2, .int x3, .int x4, .int x5]) (st' := [.int x1, .int x5]) (E' := E) (I' := I) (J' := J) (S' := S) am_e179 rfl rfl rfl rfl ?_
  refine w_if2 am_e179 rfl rfl (fun c => ?_) (fun c => ?_)
  · replace h := h.1 (of_decide_eq_true c)
    refine w_st (i' := 31) (ls' := [.ref 0, .int x1, d2, .int x3, .int x4, .int x5]) (st' := [.int x4]) (E' := E) (I' := I) (J' := J) (S' := S) am_e179 rfl rfl rfl rfl ?_
    exact w_ri am_e179 rfl rfl h
  · replace h := h.2 (of_decide_eq_false c)
    refine w_st (i' := 14) (ls' := [.ref 0, .int x1, d2, .int x3, .int x4, .int x5]) (st' := [.ref 0]) (E' := E) (I' := I) (J' := J) (S' := S) am_e179 rfl rfl rfl rfl ?_
    refine w_st (i' := 15) (ls' := [.ref 0, .int x1, d2, .int x3, .int x4, .int x5]) (st' := [.ref 76]) (E' := E) (I' := I) (J' := J) (S' := S) am_e179 rfl rfl rfl rfl ?_
    refine w_st (i' := 16) (ls' := [.ref 0, .int x1, d2, .int x3, .int x4, .int x5]) (st' := [.ref 0, .ref 76]) (E' := E) (I' := I) (J' := J) (S' := S) am_e179 rfl rfl rfl rfl ?_
    refine w_st (i' := 17) (ls' := [.ref 0, .int x1, d2, .int x3, .int x4, .int x5]) (st' := [.ref 12, .ref 76]) (E' := E) (I' := I) (J' := J) (S' := S) am_e179 rfl rfl rfl rfl ?_
    refine w_st (i' := 18) (ls' := [.ref 0, .int x1, d2, .int x3, .int x4, .int x5]) (st' := [.ref 0, .ref 12, .ref 76]) (E' := E) (I' := I) (J' := J) (S' := S) am_e179 rfl rfl rfl rfl ?_
    refine w_st (i' := 19) (ls' := [.ref 0, .int x1, d2, .int x3, .int x4, .int x5]) (st' := [.ref 18, .ref 12, .ref 76]) (E' := E) (I' := I) (J' := J) (S' := S) am_e179 rfl rfl rfl rfl ?_
    refine w_st (i' := 20) (ls' := [.ref 0, .int x1, d2, .int x3, .int x4, .int x5]) (st' := [.int x3, .ref 18, .ref 12, .ref 76]) (E' := E) (I' := I) (J' := J) (S' := S) am_e179 rfl rfl rfl rfl ?_
    refine w_cI am_e179 rfl rfl (as := [.ref 76, .ref 12, .ref 18, .int x3]) (rest := []) rfl rfl (am_ww.mono h ?_)
    rintro _ E1 I1 J1 S1 ⟨v1, rfl, h⟩
    refine q_mkI ?_
    refine w_if1 am_e179 rfl rfl (fun c => ?_) (fun c => ?_)
    · replace h := h.2 (of_decide_eq_true c)
      refine w_st (i' := 24) (ls' := [.ref 0, .int x1, d2, .int x3, .int x4, .int x5]) (st' := [.ref 0]) (E' := E1) (I' := I1) (J' := J1) (S' := S1) am_e179 rfl rfl rfl rfl ?_
      refine w_st (i' := 25) (ls' := [.ref 0, .int x1, d2, .int x3, .int x4, .int x5]) (st' := [.ref 76]) (E' := E1) (I' := I1) (J' := J1) (S' := S1) am_e179 rfl rfl rfl rfl ?_
      refine w_st (i' := 26) (ls' := [.ref 0, .int x1, d2, .int x3, .int x4, .int x5]) (st' := [.int ((I1 76) 4)]) (E' := E1) (I' := I1) (J' := J1) (S' := S1) am_e179 rfl rfl rfl rfl ?_
      refine w_if1 am_e179 rfl rfl (fun c => ?_) (fun c => ?_)
      · replace h := h.1 (of_decide_eq_true c)
        refine w_st (i' := 29) (ls' := [.ref 0, .int x1, d2, .int x3, .int x4, .int (x5 + nI 1)]) (st' := []) (E' := E1) (I' := I1) (J' := J1) (S' := S1) am_e179 rfl rfl rfl rfl ?_
        refine w_st (i' := 10) (ls' := [.ref 0, .int x1, d2, .int x3, .int x4, .int (x5 + nI 1)]) (st' := []) (E' := E1) (I' := I1) (J' := J1) (S' := S1) am_e179 rfl rfl rfl rfl ?_
        exact h
      · replace h := h.2 (of_decide_eq_false c)
        refine w_st (i' := 28) (ls' := [.ref 0, .int x1, d2, .int x3, .int (x4 + nI 1), .int x5]) (st' := []) (E' := E1) (I' := I1) (J' := J1) (S' := S1) am_e179 rfl rfl rfl rfl ?_
        refine w_st (i' := 29) (ls' := [.ref 0, .int x1, d2, .int x3, .int (x4 + nI 1), .int (x5 + nI 1)]) (st' := []) (E' := E1) (I' := I1) (J' := J1) (S' := S1) am_e179 rfl rfl rfl rfl ?_
        refine w_st (i' := 10) (ls' := [.ref 0, .int x1, d2, .int x3, .int (x4 + nI 1), .int (x5 + nI 1)]) (st' := []) (E' := E1) (I' := I1) (J' := J1) (S' := S1) am_e179 rfl rfl rfl rfl ?_
        exact h
    · replace h := h.1 (Decidable.not_not.mp (of_decide_eq_false c))
      refine w_st (i' := 30) (ls' := [.ref 0, .int x1, d2, .int x3, .int x4, .int x5]) (st' := []) (E' := E1) (I' := I1) (J' := J1) (S' := S1) am_e179 rfl rfl rfl rfl ?_
      refine w_st (i' := 31) (ls' := [.ref 0, .int x1, d2, .int x3, .int x4, .int x5]) (st' := [.int x4]) (E' := E1) (I' := I1) (J' := J1) (S' := S1) am_e179 rfl rfl rfl rfl ?_
      exact w_ri am_e179 rfl rfl h
-- 180 firstLikeOutcome
theorem g180_0 {p1 : Int32} {E : am_Ev} {I : Nat → Nat → Int32} {J : Nat → Nat → Int64} {S : Nat → Nat → Option Nat} {Q : am_Qt}  (h : am_ww 180 2 [.ref 0, .int p1, .int (nI 0), am_U, am_U] [] E I J S Q) : am_ww 180 0 [.ref 0, .int p1, am_U, am_U, am_U] [] E I J S Q := by
  refine w_st (i' := 1) (ls' := [.ref 0, .int p1, am_U, am_U, am_U]) (st' := [.int (nI 0)]) (E' := E) (I' := I) (J' := J) (S' := S) am_e180 rfl rfl rfl rfl ?_
  refine w_st (i' := 2) (ls' := [.ref 0, .int p1, .int (nI 0), am_U, am_U]) (st' := []) (E' := E) (I' := I) (J' := J) (S' := S) am_e180 rfl rfl rfl rfl ?_
  exact h
theorem g180_2 {x1 : Int32} {x2 : Int32} {d3 : Value} {d4 : Value} {E : am_Ev} {I : Nat → Nat → Int32} {J : Nat → Nat → Int64} {S : Nat → Nat → Option Nat} {Q : am_Qt} (hd3 : am_isL d3 = false) (hd4 : am_isL d4 = false) (h : (x1 ≤ x2 → (Q (.inl (some (.int x1))) E I J S)) ∧ (¬ x1 ≤ x2 → (am_ww 180 9 [.ref 0, .int x1, .int x2, .int (nI 1), .int (nI 0)] [] E I J S Q))) : am_ww 180 2 [.ref 0, .int x1, .int x2, d3, d4] [] E I J S Q := by
  refine w_st (i' := 3) (ls' := [.ref 0, .int x1, .int x2, d3, d4]) (st' := [.int x2]) (E' := E) (I' := I) (J' := J) (S' := S) am_e180 rfl rfl rfl rfl ?_
  refine w_st (i' := 4) (ls' := [.ref 0, .int x1, .int x2, d3, d4]) (st' := [.int x1, .int x2]) (E' := E) (I' := I) (J' := J) (S' := S) am_e180 rfl rfl rfl rfl ?_
  refine w_if2 am_e180 rfl rfl (fun c => ?_) (fun c => ?_)
  · replace h := h.1 (of_decide_eq_true c)
    refine w_st (i' := 44) (ls' := [.ref 0, .int x1, .int x2, d3, d4]) (st' := [.int x1]) (E' := E) (I' := I) (J' := J) (S' := S) am_e180 rfl rfl rfl rfl ?_
    exact w_ri am_e180 rfl rfl h
  · replace h := h.2 (of_decide_eq_false c)
    refine w_st (i' := 6) (ls' := [.ref 0, .int x1, .int x2, d3, d4]) (st' := [.int (nI 1)]) (E' := E) (I' := I) (J' := J) (S' := S) am_e180 rfl rfl rfl rfl ?_
    refine w_st (i' := 7) (ls' := [.ref 0, .int x1, .int x2, .int (nI 1), d4]) (st' := []) (E' := E) (I' := I) (J' := J) (S' := S) am_e180 rfl rfl rfl rfl ?_
    refine w_st (i' := 8) (ls' := [.ref 0, .int x1, .int x2, .int (nI 1), d4]) (st' := [.int (nI 0)]) (E' := E) (I' := I) (J' := J) (S' := S) am_e180 rfl rfl rfl rfl ?_
    refine w_st (i' := 9) (ls' := [.ref 0, .int x1, .int x2, .int (nI 1), .int (nI 0)]) (st' := []) (E' := E) (I' := I) (J' := J) (S' := S) am_e180 rfl rfl rfl rfl ?_
    exact h
theorem g180_9 {x1 : Int32} {x2 : Int32} {x3 : Int32} {x4 : Int32} {E : am_Ev} {I : Nat → Nat → Int32} {J : Nat → Nat → Int64} {S : Nat → Nat → Option Nat} {Q : am_Qt}  (h : ((nI 16) ≤ x4 → ((x3 = 0 → (am_ww 180 2 [.ref 0, .int x1, .int (x2 + nI 1), .int x3, .int x4] [] E I J S Q)) ∧ (¬ x3 = 0 → (Q (.inl (some (.int x2))) E I J S)))) ∧ (¬ (nI 16) ≤ x4 → (((x3 = 0 → (True)) ∧ (¬ x3 = 0 → (vp_in ((x2 * (nI 16)) + x4) 112 ∧ (vp_in ((x1 * (nI 16)) + x4) 112 ∧ True)))) ∧ (∀ w3 : Int32, w3 = (if x3 = 0 then nI 0 else (if ((I 84) (((x2 * (nI 16)) + x4).toNatClampNeg)) = ((I 84) (((x1 * (nI 16)) + x4).toNatClampNeg)) then nI 1 else nI 0)) → (am_ww 180 9 [.ref 0, .int x1, .int x2, .int w3, .int (x4 + nI 1)] [] E I J S Q))))) : am_ww 180 9 [.ref 0, .int x1, .int x2, .int x3, .int x4] [] E I J S Q := by
  refine w_st (i' := 10) (ls' := [.ref 0, .int x1, .int x2, .int x3, .int x4]) (st' := [.int x4]) (E' := E) (I' := I) (J' := J) (S' := S) am_e180 rfl rfl rfl rfl ?_
  refine w_st (i' := 11) (ls' := [.ref 0, .int x1, .int x2, .int x3, .int x4]) (st' := [.int (nI 16), .int x4]) (E' := E) (I' := I) (J' := J) (S' := S) am_e180 rfl rfl rfl rfl ?_
  refine w_if2 am_e180 rfl rfl (fun c => ?_) (fun c => ?_)
  · replace h := h.1 (of_decide_eq_true c)
    refine w_st (i' := 38) (ls' := [.ref 0, .int x1, .int x2, .int x3, .int x4]) (st' := [.int x3]) (E' := E) (I' := I) (J' := J) (S' := S) am_e180 rfl rfl rfl rfl ?_
    refine w_if1 am_e180 rfl rfl (fun c => ?_) (fun c => ?_)
    · replace h := h.1 (of_decide_eq_true c)
      refine w_st (i' := 42) (ls' := [.ref 0, .int x1, .int (x2 + nI 1), .int x3, .int x4]) (st' := []) (E' := E) (I' := I) (J' := J) (S' := S) am_e180 rfl rfl rfl rfl ?_
      refine w_st (i' := 2) (ls' := [.ref 0, .int x1, .int (x2 + nI 1), .int x3, .int x4]) (st' := []) (E' := E) (I' := I) (J' := J) (S' := S) am_e180 rfl rfl rfl rfl ?_
      exact h
    · replace h := h.2 (of_decide_eq_false c)
      refine w_st (i' := 40) (ls' := [.ref 0, .int x1, .int x2, .int x3, .int x4]) (st' := [.int x2]) (E' := E) (I' := I) (J' := J) (S' := S) am_e180 rfl rfl rfl rfl ?_
      exact w_ri am_e180 rfl rfl h
  · replace h := h.2 (of_decide_eq_false c)
    refine w_st (i' := 13) (ls' := [.ref 0, .int x1, .int x2, .int x3, .int x4]) (st' := [.int x3]) (E' := E) (I' := I) (J' := J) (S' := S) am_e180 rfl rfl rfl rfl ?_
    refine w_mg (i := 34) (ls' := [.ref 0, .int x1, .int x2, .int x3, .int x4]) (st' := [.int (if x3 = 0 then nI 0 else (if ((I 84) (((x2 * (nI 16)) + x4).toNatClampNeg)) = ((I 84) (((x1 * (nI 16)) + x4).toNatClampNeg)) then nI 1 else nI 0))]) (fun hm => ?_) ?_
    · replace h := h.1
      refine w_if1 am_e180 rfl rfl (fun c => ?_) (fun c => ?_)
      · have m1 : x3 = 0 := (of_decide_eq_true c)
        replace h := h.1 m1
        refine w_st (i' := 34) (ls' := [.ref 0, .int x1, .int x2, .int x3, .int x4]) (st' := [.int (nI 0)]) (E' := E) (I' := I) (J' := J) (S' := S) am_e180 rfl rfl rfl rfl ?_
        first | exact hm | (simp only [if_pos m1] at hm; exact hm)
      · have m1 : ¬ (x3 = 0) := (of_decide_eq_false c)
        replace h := h.2 m1
        refine w_st (i' := 15) (ls' := [.ref 0, .int x1, .int x2, .int x3, .int x4]) (st' := [.ref 0]) (E' := E) (I' := I) (J' := J) (S' := S) am_e180 rfl rfl rfl rfl ?_
        refine w_st (i' := 16) (ls' := [.ref 0, .int x1, .int x2, .int x3, .int x4]) (st' := [.ref 84]) (E' := E) (I' := I) (J' := J) (S' := S) am_e180 rfl rfl rfl rfl ?_
        refine w_st (i' := 17) (ls' := [.ref 0, .int x1, .int x2, .int x3, .int x4]) (st' := [.int x2, .ref 84]) (E' := E) (I' := I) (J' := J) (S' := S) am_e180 rfl rfl rfl rfl ?_
        refine w_st (i' := 18) (ls' := [.ref 0, .int x1, .int x2, .int x3, .int x4]) (st' := [.int (nI 16), .int x2, .ref 84]) (E' := E) (I' := I) (J' := J) (S' := S) am_e180 rfl rfl rfl rfl ?_
        refine w_st (i' := 19) (ls' := [.ref 0, .int x1, .int x2, .int x3, .int x4]) (st' := [.int (x2 * (nI 16)), .ref 84]) (E' := E) (I' := I) (J' := J) (S' := S) am_e180 rfl rfl rfl rfl ?_
        refine w_st (i' := 20) (ls' := [.ref 0, .int x1, .int x2, .int x3, .int x4]) (st' := [.int x4, .int (x2 * (nI 16)), .ref 84]) (E' := E) (I' := I) (J' := J) (S' := S) am_e180 rfl rfl rfl rfl ?_
        refine w_st (i' := 21) (ls' := [.ref 0, .int x1, .int x2, .int x3, .int x4]) (st' := [.int ((x2 * (nI 16)) + x4), .ref 84]) (E' := E) (I' := I) (J' := J) (S' := S) am_e180 rfl rfl rfl rfl ?_
        refine w_ia (k := 84) (n := 112) (jn := ((x2 * (nI 16)) + x4).toNatClampNeg) am_e180 rfl rfl (by decide) h.1 rfl ?_
        replace h := h.2
        show am_ww 180 22 [.ref 0, .int x1, .int x2, .int x3, .int x4] [.int ((I 84) (((x2 * (nI 16)) + x4).toNatClampNeg))] E I J S _
        refine w_st (i' := 23) (ls' := [.ref 0, .int x1, .int x2, .int x3, .int x4]) (st' := [.ref 0, .int ((I 84) (((x2 * (nI 16)) + x4).toNatClampNeg))]) (E' := E) (I' := I) (J' := J) (S' := S) am_e180 rfl rfl rfl rfl ?_
        refine w_st (i' := 24) (ls' := [.ref 0, .int x1, .int x2, .int x3, .int x4]) (st' := [.ref 84, .int ((I 84) (((x2 * (nI 16)) + x4).toNatClampNeg))]) (E' := E) (I' := I) (J' := J) (S' := S) am_e180 rfl rfl rfl rfl ?_
        refine w_st (i' := 25) (ls' := [.ref 0, .int x1, .int x2, .int x3, .int x4]) (st' := [.int x1, .ref 84, .int ((I 84) (((x2 * (nI 16)) + x4).toNatClampNeg))]) (E' := E) (I' := I) (J' := J) (S' := S) am_e180 rfl rfl rfl rfl ?_
        refine w_st (i' := 26) (ls' := [.ref 0, .int x1, .int x2, .int x3, .int x4]) (st' := [.int (nI 16), .int x1, .ref 84, .int ((I 84) (((x2 * (nI 16)) + x4).toNatClampNeg))]) (E' := E) (I' := I) (J' := J) (S' := S) am_e180 rfl rfl rfl rfl ?_
        refine w_st (i' := 27) (ls' := [.ref 0, .int x1, .int x2, .int x3, .int x4]) (st' := [.int (x1 * (nI 16)), .ref 84, .int ((I 84) (((x2 * (nI 16)) + x4).toNatClampNeg))]) (E' := E) (I' := I) (J' := J) (S' := S) am_e180 rfl rfl rfl rfl ?_
        refine w_st (i' := 28) (ls' := [.ref 0, .int x1, .int x2, .int x3, .int x4]) (st' := [.int x4, .int (x1 * (nI 16)), .ref 84, .int ((I 84) (((x2 * (nI 16)) + x4).toNatClampNeg))]) (E' := E) (I' := I) (J' := J) (S' := S) am_e180 rfl rfl rfl rfl ?_
        refine w_st (i' := 29) (ls' := [.ref 0, .int x1, .int x2, .int x3, .int x4]) (st' := [.int ((x1 * (nI 16)) + x4), .ref 84, .int ((I 84) (((x2 * (nI 16)) + x4).toNatClampNeg))]) (E' := E) (I' := I) (J' := J) (S' := S) am_e180 rfl rfl rfl rfl ?_
        refine w_ia (k := 84) (n := 112) (jn := ((x1 * (nI 16)) + x4).toNatClampNeg) am_e180 rfl rfl (by decide) h.1 rfl ?_
        replace h := h.2
        show am_ww 180 30 [.ref 0, .int x1, .int x2, .int x3, .int x4] [.int ((I 84) (((x1 * (nI 16)) + x4).toNatClampNeg)), .int ((I 84) (((x2 * (nI 16)) + x4).toNatClampNeg))] E I J S _
        refine w_if2 am_e180 rfl rfl (fun c => ?_) (fun c => ?_)
        · have m2 : ¬ (((I 84) (((x2 * (nI 16)) + x4).toNatClampNeg)) = ((I 84) (((x1 * (nI 16)) + x4).toNatClampNeg))) := (of_decide_eq_true c)
          refine w_st (i' := 34) (ls' := [.ref 0, .int x1, .int x2, .int x3, .int x4]) (st' := [.int (nI 0)]) (E' := E) (I' := I) (J' := J) (S' := S) am_e180 rfl rfl rfl rfl ?_
          first | exact hm | (simp only [if_neg m1, if_neg m2] at hm; exact hm)
        · have m2 : ((I 84) (((x2 * (nI 16)) + x4).toNatClampNeg)) = ((I 84) (((x1 * (nI 16)) + x4).toNatClampNeg)) := (Decidable.not_not.mp (of_decide_eq_false c))
          refine w_st (i' := 32) (ls' := [.ref 0, .int x1, .int x2, .int x3, .int x4]) (st' := [.int (nI 1)]) (E' := E) (I' := I) (J' := J) (S' := S) am_e180 rfl rfl rfl rfl ?_
          refine w_st (i' := 34) (ls' := [.ref 0, .int x1, .int x2, .int x3, .int x4]) (st' := [.int (nI 1)]) (E' := E) (I' := I) (J' := J) (S' := S) am_e180 rfl rfl rfl rfl ?_
          first | exact hm | (simp only [if_neg m1, if_pos m2] at hm; exact hm)
    replace h := h.2
    refine w_var (fun w3 => am_ww 180 34 [.ref 0, .int x1, .int x2, .int x3, .int x4] [.int w3] E I J S _) (if x3 = 0 then nI 0 else (if ((I 84) (((x2 * (nI 16)) + x4).toNatClampNeg)) = ((I 84) (((x1 * (nI 16)) + x4).toNatClampNeg)) then nI 1 else nI 0)) (fun w3 hw3 => ?_)
    replace h := h w3 hw3
    refine w_st (i' := 35) (ls' := [.ref 0, .int x1, .int x2, .int w3, .int x4]) (st' := []) (E' := E) (I' := I) (J' := J) (S' := S) am_e180 rfl rfl rfl rfl ?_
    refine w_st (i' := 36) (ls' := [.ref 0, .int x1, .int x2, .int w3, .int (x4 + nI 1)]) (st' := []) (E' := E) (I' := I) (J' := J) (S' := S) am_e180 rfl rfl rfl rfl ?_
    refine w_st (i' := 9) (ls' := [.ref 0, .int x1, .int x2, .int w3, .int (x4 + nI 1)]) (st' := []) (E' := E) (I' := I) (J' := J) (S' := S) am_e180 rfl rfl rfl rfl ?_
    exact h
-- 18 feed
theorem g18_0 {p1 : Int32} {p2 : Int32} {p3 : Int32} {p4 : Int32} {p5 : Int32} {E : am_Ev} {I : Nat → Nat → Int32} {J : Nat → Nat → Int64} {S : Nat → Nat → Option Nat} {Q : am_Qt}  (h : ((((I 1) 1) + (nI 20)) ≤ (nI 700) → (am_cl 19 [.ref 1, .int p1] E I J S (q_V fun E1 I1 J1 S1 => am_cl 19 [.ref 1, .int p2] E1 I1 J1 S1 (q_V fun E2 I2 J2 S2 => am_cl 19 [.ref 1, .int p3] E2 I2 J2 S2 (q_V fun E3 I3 J3 S3 => am_cl 19 [.ref 1, .int p4] E3 I3 J3 S3 (q_V fun E4 I4 J4 S4 => am_cl 19 [.ref 1, .int p5] E4 I4 J4 S4 (q_V fun E5 I5 J5 S5 => Q (.inl (some (.int ((I5 1) 1)))) E5 I5 J5 S5))))))) ∧ (¬ (((I 1) 1) + (nI 20)) ≤ (nI 700) → (Q (.inl (some (.int (-1)))) E I J S))) : am_ww 18 0 [.ref 0, .int p1, .int p2, .int p3, .int p4, .int p5] [] E I J S Q := by
  refine w_st (i' := 1) (ls' := [.ref 0, .int p1, .int p2, .int p3, .int p4, .int p5]) (st' := [.ref 0]) (E' := E) (I' := I) (J' := J) (S' := S) am_e18 rfl rfl rfl rfl ?_
  refine w_st (i' := 2) (ls' := [.ref 0, .int p1, .int p2, .int p3, .int p4, .int p5]) (st' := [.ref 1]) (E' := E) (I' := I) (J' := J) (S' := S) am_e18 rfl rfl rfl rfl ?_
  refine w_st (i' := 3) (ls' := [.ref 0, .int p1, .int p2, .int p3, .int p4, .int p5]) (st' := [.int ((I 1) 1)]) (E' := E) (I' := I) (J' := J) (S' := S) am_e18 rfl rfl rfl rfl ?_
  refine w_st (i' := 4) (ls' := [.ref 0, .int p1, .int p2, .int p3, .int p4, .int p5]) (st' := [.int (nI 20), .int ((I 1) 1)]) (E' := E) (I' := I) (J' := J) (S' := S) am_e18 rfl rfl rfl rfl ?_
  refine w_st (i' := 5) (ls' := [.ref 0, .int p1, .int p2, .int p3, .int p4, .int p5]) (st' := [.int (((I 1) 1) + (nI 20))]) (E' := E) (I' := I) (J' := J) (S' := S) am_e18 rfl rfl rfl rfl ?_
  refine w_st (i' := 6) (ls' := [.ref 0, .int p1, .int p2, .int p3, .int p4, .int p5]) (st' := [.int (nI 700), .int (((I 1) 1) + (nI 20))]) (E' := E) (I' := I) (J' := J) (S' := S) am_e18 rfl rfl rfl rfl ?_
  refine w_if2 am_e18 rfl rfl (fun c => ?_) (fun c => ?_)
  · replace h := h.1 (of_decide_eq_true c)
    refine w_st (i' := 10) (ls' := [.ref 0, .int p1, .int p2, .int p3, .int p4, .int p5]) (st' := [.ref 0]) (E' := E) (I' := I) (J' := J) (S' := S) am_e18 rfl rfl rfl rfl ?_
    refine w_st (i' := 11) (ls' := [.ref 0, .int p1, .int p2, .int p3, .int p4, .int p5]) (st' := [.ref 1]) (E' := E) (I' := I) (J' := J) (S' := S) am_e18 rfl rfl rfl rfl ?_
    refine w_st (i' := 12) (ls' := [.ref 0, .int p1, .int p2, .int p3, .int p4, .int p5]) (st' := [.int p1, .ref 1]) (E' := E) (I' := I) (J' := J) (S' := S) am_e18 rfl rfl rfl rfl ?_
    refine w_cV am_e18 rfl rfl (as := [.ref 1, .int p1]) (rest := []) rfl rfl (am_ww.mono h ?_)
    rintro _ E1 I1 J1 S1 ⟨rfl, h⟩
    refine q_mkV ?_
    refine w_st (i' := 14) (ls' := [.ref 0, .int p1, .int p2, .int p3, .int p4, .int p5]) (st' := [.ref 0]) (E' := E1) (I' := I1) (J' := J1) (S' := S1) am_e18 rfl rfl rfl rfl ?_
    refine w_st (i' := 15) (ls' := [.ref 0, .int p1, .int p2, .int p3, .int p4, .int p5]) (st' := [.ref 1]) (E' := E1) (I' := I1) (J' := J1) (S' := S1) am_e18 rfl rfl rfl rfl ?_
    refine w_st (i' := 16) (ls' := [.ref 0, .int p1, .int p2, .int p3, .int p4, .int p5]) (st' := [.int p2, .ref 1]) (E' := E1) (I' := I1) (J' := J1) (S' := S1) am_e18 rfl rfl rfl rfl ?_
    refine w_cV am_e18 rfl rfl (as := [.ref 1, .int p2]) (rest := []) rfl rfl (am_ww.mono h ?_)
    rintro _ E2 I2 J2 S2 ⟨rfl, h⟩
    refine q_mkV ?_
    refine w_st (i' := 18) (ls' := [.ref 0, .int p1, .int p2, .int p3, .int p4, .int p5]) (st' := [.ref 0]) (E' := E2) (I' := I2) (J' := J2) (S' := S2) am_e18 rfl rfl rfl rfl ?_
    refine w_st (i' := 19) (ls' := [.ref 0, .int p1, .int p2, .int p3, .int p4, .int p5]) (st' := [.ref 1]) (E' := E2) (I' := I2) (J' := J2) (S' := S2) am_e18 rfl rfl rfl rfl ?_
    refine w_st (i' := 20) (ls' := [.ref 0, .int p1, .int p2, .int p3, .int p4, .int p5]) (st' := [.int p3, .ref 1]) (E' := E2) (I' := I2) (J' := J2) (S' := S2) am_e18 rfl rfl rfl rfl ?_
    refine w_cV am_e18 rfl rfl (as := [.ref 1, .int p3]) (rest := []) rfl rfl (am_ww.mono h ?_)
    rintro _ E3 I3 J3 S3 ⟨rfl, h⟩
    refine q_mkV ?_
    refine w_st (i' := 22) (ls' := [.ref 0, .int p1, .int p2, .int p3, .int p4, .int p5]) (st' := [.ref 0]) (E' := E3) (I' := I3) (J' := J3) (S' := S3) am_e18 rfl rfl rfl rfl ?_
    refine w_st (i' := 23) (ls' := [.ref 0, .int p1, .int p2, .int p3, .int p4, .int p5]) (st' := [.ref 1]) (E' := E3) (I' := I3) (J' := J3) (S' := S3) am_e18 rfl rfl rfl rfl ?_
    refine w_st (i' := 24) (ls' := [.ref 0, .int p1, .int p2, .int p3, .int p4, .int p5]) (st' := [.int p4, .ref 1]) (E' := E3) (I' := I3) (J' := J3) (S' := S3) am_e18 rfl rfl rfl rfl ?_
    refine w_cV am_e18 rfl rfl (as := [.ref 1, .int p4]) (rest := []) rfl rfl (am_ww.mono h ?_)
    rintro _ E4 I4 J4 S4 ⟨rfl, h⟩
    refine q_mkV ?_
    refine w_st (i' := 26) (ls' := [.ref 0, .int p1, .int p2, .int p3, .int p4, .int p5]) (st' := [.ref 0]) (E' := E4) (I' := I4) (J' := J4) (S' := S4) am_e18 rfl rfl rfl rfl ?_
    refine w_st (i' := 27) (ls' := [.ref 0, .int p1, .int p2, .int p3, .int p4, .int p5]) (st' := [.ref 1]) (E' := E4) (I' := I4) (J' := J4) (S' := S4) am_e18 rfl rfl rfl rfl ?_
    refine w_st (i' := 28) (ls' := [.ref 0, .int p1, .int p2, .int p3, .int p4, .int p5]) (st' := [.int p5, .ref 1]) (E' := E4) (I' := I4) (J' := J4) (S' := S4) am_e18 rfl rfl rfl rfl ?_
    refine w_cV am_e18 rfl rfl (as := [.ref 1, .int p5]) (rest := []) rfl rfl (am_ww.mono h ?_)
    rintro _ E5 I5 J5 S5 ⟨rfl, h⟩
    refine q_mkV ?_
    refine w_st (i' := 30) (ls' := [.ref 0, .int p1, .int p2, .int p3, .int p4, .int p5]) (st' := [.ref 0]) (E' := E5) (I' := I5) (J' := J5) (S' := S5) am_e18 rfl rfl rfl rfl ?_
    refine w_st (i' := 31) (ls' := [.ref 0, .int p1, .int p2, .int p3, .int p4, .int p5]) (st' := [.ref 1]) (E' := E5) (I' := I5) (J' := J5) (S' := S5) am_e18 rfl rfl rfl rfl ?_
    refine w_st (i' := 32) (ls' := [.ref 0, .int p1, .int p2, .int p3, .int p4, .int p5]) (st' := [.int ((I5 1) 1)]) (E' := E5) (I' := I5) (J' := J5) (S' := S5) am_e18 rfl rfl rfl rfl ?_
    exact w_ri am_e18 rfl rfl h
  · replace h := h.2 (of_decide_eq_false c)
    refine w_st (i' := 8) (ls' := [.ref 0, .int p1, .int p2, .int p3, .int p4, .int p5]) (st' := [.int (-1)]) (E' := E) (I' := I) (J' := J) (S' := S) am_e18 rfl rfl rfl rfl ?_
    exact w_end am_e18 rfl rfl rfl h
-- 20 fault
theorem g20_0  {E : am_Ev} {I : Nat → Nat → Int32} {J : Nat → Nat → Int64} {S : Nat → Nat → Option Nat} {Q : am_Qt}  (h : Q (.inl (some (.int ((I 0) 12)))) E I J S) : am_ww 20 0 [.ref 0] [] E I J S Q := by
  refine w_st (i' := 1) (ls' := [.ref 0]) (st' := [.ref 0]) (E' := E) (I' := I) (J' := J) (S' := S) am_e20 rfl rfl rfl rfl ?_
  refine w_st (i' := 2) (ls' := [.ref 0]) (st' := [.int ((I 0) 12)]) (E' := E) (I' := I) (J' := J) (S' := S) am_e20 rfl rfl rfl rfl ?_
  exact w_ri am_e20 rfl rfl h
-- 21 steps
theorem g21_0 {p1 : Int32} {E : am_Ev} {I : Nat → Nat → Int32} {J : Nat → Nat → Int64} {S : Nat → Nat → Option Nat} {Q : am_Qt}  (h : (p1 < (nI 1) → (am_ww 21 24 [.ref 0, .int p1, am_U, am_U, am_U] [] E I J S Q)) ∧ (¬ p1 < (nI 1) → (((nI 50) < p1 → (am_ww 21 24 [.ref 0, .int p1, am_U, am_U, am_U] [] E I J S Q)) ∧ (¬ (nI 50) < p1 → (((nI 400) < (((I 18) 10) + p1) → (am_ww 21 24 [.ref 0, .int p1, am_U, am_U, am_U] [] E I J S Q)) ∧ (¬ (nI 400) < (((I 18) 10) + p1) → (am_cl 22 [.ref 20, .ref 12, .ref 28] E I J S (q_I fun v1 E1 I1 J1 S1 => ∀ w3 : Int32, w3 = (if v1 = 0 then nI 1 else nI 0) → ((w3 = 0 → (am_cl 27 [.ref 34, .int (-1), .int ((I1 18) 10), .int ((I1 19) 2), .int ((I1 19) 1)] E1 I1 J1 S1 (q_V fun E4 I4 J4 S4 => am_ww 21 59 [.ref 0, .int p1, .int w3, .int ((I1 18) 10), .int (nI 0)] [] E4 I4 J4 S4 Q))) ∧ (¬ w3 = 0 → (Q (.inl (some (.int (-1)))) E1 (u_I I1 18 (upd (I1 18) 13 (((I1 18) 13) + (nI 1)))) J1 S1))))))))))) : am_ww 21 0 [.ref 0, .int p1, am_U, am_U, am_U] [] E I J S Q := by
  refine w_st (i' := 1) (ls' := [.ref 0, .int p1, am_U, am_U, am_U]) (st' := [.int p1]) (E' := E) (I' := I) (J' := J) (S' := S) am_e21 rfl rfl rfl rfl ?_
  refine w_st (i' := 2) (ls' := [.ref 0, .int p1, am_U, am_U, am_U]) (st' := [.int (nI 1), .int p1]) (E' := E) (I' := I) (J' := J) (S' := S) am_e21 rfl rfl rfl rfl ?_
  refine w_if2 am_e21 rfl rfl (fun c => ?_) (fun c => ?_)
  · replace h := h.1 (of_decide_eq_true c)
    exact h
  · replace h := h.2 (of_decide_eq_false c)
    refine w_st (i' := 4) (ls' := [.ref 0, .int p1, am_U, am_U, am_U]) (st' := [.int p1]) (E' := E) (I' := I) (J' := J) (S' := S) am_e21 rfl rfl rfl rfl ?_
    refine w_st (i' := 5) (ls' := [.ref 0, .int p1, am_U, am_U, am_U]) (st' := [.int (nI 50), .int p1]) (E' := E) (I' := I) (J' := J) (S' := S) am_e21 rfl rfl rfl rfl ?_
    refine w_if2 am_e21 rfl rfl (fun c => ?_) (fun c => ?_)
    · replace h := h.1 (of_decide_eq_true c)
      exact h
    · replace h := h.2 (of_decide_eq_false c)
      refine w_st (i' := 7) (ls' := [.ref 0, .int p1, am_U, am_U, am_U]) (st' := [.ref 0]) (E' := E) (I' := I) (J' := J) (S' := S) am_e21 rfl rfl rfl rfl ?_
      refine w_st (i' := 8) (ls' := [.ref 0, .int p1, am_U, am_U, am_U]) (st' := [.ref 18]) (E' := E) (I' := I) (J' := J) (S' := S) am_e21 rfl rfl rfl rfl ?_
      refine w_st (i' := 9) (ls' := [.ref 0, .int p1, am_U, am_U, am_U]) (st' := [.int ((I 18) 10)]) (E' := E) (I' := I) (J' := J) (S' := S) am_e21 rfl rfl rfl rfl ?_
      refine w_st (i' := 10) (ls' := [.ref 0, .int p1, am_U, am_U, am_U]) (st' := [.int p1, .int ((I 18) 10)]) (E' := E) (I' := I) (J' := J) (S' := S) am_e21 rfl rfl rfl rfl ?_
      refine w_st (i' := 11) (ls' := [.ref 0, .int p1, am_U, am_U, am_U]) (st' := [.int (((I 18) 10) + p1)]) (E' := E) (I' := I) (J' := J) (S' := S) am_e21 rfl rfl rfl rfl ?_
      refine w_st (i' := 12) (ls' := [.ref 0, .int p1, am_U, am_U, am_U]) (st' := [.int (nI 400), .int (((I 18) 10) + p1)]) (E' := E) (I' := I) (J' := J) (S' := S) am_e21 rfl rfl rfl rfl ?_
      refine w_if2 am_e21 rfl rfl (fun c => ?_) (fun c => ?_)
      · replace h := h.1 (of_decide_eq_true c)
        exact h
      · replace h := h.2 (of_decide_eq_false c)
        refine w_st (i' := 14) (ls' := [.ref 0, .int p1, am_U, am_U, am_U]) (st' := [.ref 0]) (E' := E) (I' := I) (J' := J) (S' := S) am_e21 rfl rfl rfl rfl ?_
        refine w_st (i' := 15) (ls' := [.ref 0, .int p1, am_U, am_U, am_U]) (st' := [.ref 18]) (E' := E) (I' := I) (J' := J) (S' := S) am_e21 rfl rfl rfl rfl ?_
        refine w_st (i' := 16) (ls' := [.ref 0, .int p1, am_U, am_U, am_U]) (st' := [.ref 19]) (E' := E) (I' := I) (J' := J) (S' := S) am_e21 rfl rfl rfl rfl ?_
        refine w_st (i' := 17) (ls' := [.ref 0, .int p1, am_U, am_U, am_U]) (st' := [.ref 20]) (E' := E) (I' := I) (J' := J) (S' := S) am_e21 rfl rfl rfl rfl ?_
        refine w_st (i' := 18) (ls' := [.ref 0, .int p1, am_U, am_U, am_U]) (st' := [.ref 0, .ref 20]) (E' := E) (I' := I) (J' := J) (S' := S) am_e21 rfl rfl rfl rfl ?_
        refine w_st (i' := 19) (ls' := [.ref 0, .int p1, am_U, am_U, am_U]) (st' := [.ref 12, .ref 20]) (E' := E) (I' := I) (J' := J) (S' := S) am_e21 rfl rfl rfl rfl ?_
        refine w_st (i' := 20) (ls' := [.ref 0, .int p1, am_U, am_U, am_U]) (st' := [.ref 0, .ref 12, .ref 20]) (E' := E) (I' := I) (J' := J) (S' := S) am_e21 rfl rfl rfl rfl ?_
        refine w_st (i' := 21) (ls' := [.ref 0, .int p1, am_U, am_U, am_U]) (st' := [.ref 18, .ref 12, .ref 20]) (E' := E) (I' := I) (J' := J) (S' := S) am_e21 rfl rfl rfl rfl ?_
        refine w_st (i' := 22) (ls' := [.ref 0, .int p1, am_U, am_U, am_U]) (st' := [.ref 28, .ref 12, .ref 20]) (E' := E) (I' := I) (J' := J) (S' := S) am_e21 rfl rfl rfl rfl ?_
        refine w_cI am_e21 rfl rfl (as := [.ref 20, .ref 12, .ref 28]) (rest := []) rfl rfl (am_ww.mono h ?_)
        rintro _ E1 I1 J1 S1 ⟨v1, rfl, h⟩
        refine q_mkI ?_
        refine w_mg (i := 27) (ls' := [.ref 0, .int p1, am_U, am_U, am_U]) (st' := [.int (if v1 = 0 then nI 1 else nI 0)]) (fun hm => ?_) ?_
        · clear h
          refine w_if1 am_e21 rfl rfl (fun c => ?_) (fun c => ?_)
          · have m2 : ¬ (v1 = 0) := (of_decide_eq_true c)
            refine w_st (i' := 27) (ls' := [.ref 0, .int p1, am_U, am_U, am_U]) (st' := [.int (nI 0)]) (E' := E1) (I' := I1) (J' := J1) (S' := S1) am_e21 rfl rfl rfl rfl ?_
            first | exact hm | (simp only [if_neg m2] at hm; exact hm)
          · have m2 : v1 = 0 := (Decidable.not_not.mp (of_decide_eq_false c))
            refine w_st (i' := 25) (ls' := [.ref 0, .int p1, am_U, am_U, am_U]) (st' := [.int (nI 1)]) (E' := E1) (I' := I1) (J' := J1) (S' := S1) am_e21 rfl rfl rfl rfl ?_
            refine w_st (i' := 27) (ls' := [.ref 0, .int p1, am_U, am_U, am_U]) (st' := [.int (nI 1)]) (E' := E1) (I' := I1) (J' := J1) (S' := S1) am_e21 rfl rfl rfl rfl ?_
            first | exact hm | (simp only [if_pos m2] at hm; exact hm)
        refine w_var (fun w3 => am_ww 21 27 [.ref 0, .int p1, am_U, am_U, am_U] [.int w3] E1 I1 J1 S1 _) (if v1 = 0 then nI 1 else nI 0) (fun w3 hw3 => ?_)
        replace h := h w3 hw3
        refine w_st (i' := 28) (ls' := [.ref 0, .int p1, .int w3, am_U, am_U]) (st' := []) (E' := E1) (I' := I1) (J' := J1) (S' := S1) am_e21 rfl rfl rfl rfl ?_
        refine w_st (i' := 29) (ls' := [.ref 0, .int p1, .int w3, am_U, am_U]) (st' := [.int w3]) (E' := E1) (I' := I1) (J' := J1) (S' := S1) am_e21 rfl rfl rfl rfl ?_
        refine w_if1 am_e21 rfl rfl (fun c => ?_) (fun c => ?_)
        · replace h := h.1 (of_decide_eq_true c)
          refine w_st (i' := 40) (ls' := [.ref 0, .int p1, .int w3, am_U, am_U]) (st' := [.ref 0]) (E' := E1) (I' := I1) (J' := J1) (S' := S1) am_e21 rfl rfl rfl rfl ?_
          refine w_st (i' := 41) (ls' := [.ref 0, .int p1, .int w3, am_U, am_U]) (st' := [.ref 18]) (E' := E1) (I' := I1) (J' := J1) (S' := S1) am_e21 rfl rfl rfl rfl ?_
          refine w_st (i' := 42) (ls' := [.ref 0, .int p1, .int w3, am_U, am_U]) (st' := [.int ((I1 18) 10)]) (E' := E1) (I' := I1) (J' := J1) (S' := S1) am_e21 rfl rfl rfl rfl ?_
          refine w_st (i' := 43) (ls' := [.ref 0, .int p1, .int w3, .int ((I1 18) 10), am_U]) (st' := []) (E' := E1) (I' := I1) (J' := J1) (S' := S1) am_e21 rfl rfl rfl rfl ?_
          refine w_st (i' := 44) (ls' := [.ref 0, .int p1, .int w3, .int ((I1 18) 10), am_U]) (st' := [.ref 0]) (E' := E1) (I' := I1) (J' := J1) (S' := S1) am_e21 rfl rfl rfl rfl ?_
          refine w_st (i' := 45) (ls' := [.ref 0, .int p1, .int w3, .int ((I1 18) 10), am_U]) (st' := [.ref 18]) (E' := E1) (I' := I1) (J' := J1) (S' := S1) am_e21 rfl rfl rfl rfl ?_
          refine w_st (i' := 46) (ls' := [.ref 0, .int p1, .int w3, .int ((I1 18) 10), am_U]) (st' := [.ref 34]) (E' := E1) (I' := I1) (J' := J1) (S' := S1) am_e21 rfl rfl rfl rfl ?_
          refine w_st (i' := 47) (ls' := [.ref 0, .int p1, .int w3, .int ((I1 18) 10), am_U]) (st' := [.int (-1), .ref 34]) (E' := E1) (I' := I1) (J' := J1) (S' := S1) am_e21 rfl rfl rfl rfl ?_
          refine w_st (i' := 48) (ls' := [.ref 0, .int p1, .int w3, .int ((I1 18) 10), am_U]) (st' := [.int ((I1 18) 10), .int (-1), .ref 34]) (E' := E1) (I' := I1) (J' := J1) (S' := S1) am_e21 rfl rfl rfl rfl ?_
          refine w_st (i' := 49) (ls' := [.ref 0, .int p1, .int w3, .int ((I1 18) 10), am_U]) (st' := [.ref 0, .int ((I1 18) 10), .int (-1), .ref 34]) (E' := E1) (I' := I1) (J' := J1) (S' := S1) am_e21 rfl rfl rfl rfl ?_
          refine w_st (i' := 50) (ls' := [.ref 0, .int p1, .int w3, .int ((I1 18) 10), am_U]) (st' := [.ref 18, .int ((I1 18) 10), .int (-1), .ref 34]) (E' := E1) (I' := I1) (J' := J1) (S' := S1) am_e21 rfl rfl rfl rfl ?_
          refine w_st (i' := 51) (ls' := [.ref 0, .int p1, .int w3, .int ((I1 18) 10), am_U]) (st' := [.ref 19, .int ((I1 18) 10), .int (-1), .ref 34]) (E' := E1) (I' := I1) (J' := J1) (S' := S1) am_e21 rfl rfl rfl rfl ?_
          refine w_st (i' := 52) (ls' := [.ref 0, .int p1, .int w3, .int ((I1 18) 10), am_U]) (st' := [.int ((I1 19) 2), .int ((I1 18) 10), .int (-1), .ref 34]) (E' := E1) (I' := I1) (J' := J1) (S' := S1) am_e21 rfl rfl rfl rfl ?_
          refine w_st (i' := 53) (ls' := [.ref 0, .int p1, .int w3, .int ((I1 18) 10), am_U]) (st' := [.ref 0, .int ((I1 19) 2), .int ((I1 18) 10), .int (-1), .ref 34]) (E' := E1) (I' := I1) (J' := J1) (S' := S1) am_e21 rfl rfl rfl rfl ?_
          refine w_st (i' := 54) (ls' := [.ref 0, .int p1, .int w3, .int ((I1 18) 10), am_U]) (st' := [.ref 18, .int ((I1 19) 2), .int ((I1 18) 10), .int (-1), .ref 34]) (E' := E1) (I' := I1) (J' := J1) (S' := S1) am_e21 rfl rfl rfl rfl ?_
          refine w_st (i' := 55) (ls' := [.ref 0, .int p1, .int w3, .int ((I1 18) 10), am_U]) (st' := [.ref 19, .int ((I1 19) 2), .int ((I1 18) 10), .int (-1), .ref 34]) (E' := E1) (I' := I1) (J' := J1) (S' := S1) am_e21 rfl rfl rfl rfl ?_
          refine w_st (i' := 56) (ls' := [.ref 0, .int p1, .int w3, .int ((I1 18) 10), am_U]) (st' := [.int ((I1 19) 1), .int ((I1 19) 2), .int ((I1 18) 10), .int (-1), .ref 34]) (E' := E1) (I' := I1) (J' := J1) (S' := S1) am_e21 rfl rfl rfl rfl ?_
          refine w_cV am_e21 rfl rfl (as := [.ref 34, .int (-1), .int ((I1 18) 10), .int ((I1 19) 2), .int ((I1 19) 1)]) (rest := []) rfl rfl (am_ww.mono h ?_)
          rintro _ E4 I4 J4 S4 ⟨rfl, h⟩
          refine q_mkV ?_
          refine w_st (i' := 58) (ls' := [.ref 0, .int p1, .int w3, .int ((I1 18) 10), am_U]) (st' := [.int (nI 0)]) (E' := E4) (I' := I4) (J' := J4) (S' := S4) am_e21 rfl rfl rfl rfl ?_
          refine w_st (i' := 59) (ls' := [.ref 0, .int p1, .int w3, .int ((I1 18) 10), .int (nI 0)]) (st' := []) (E' := E4) (I' := I4) (J' := J4) (S' := S4) am_e21 rfl rfl rfl rfl ?_
          exact h
        · replace h := h.2 (of_decide_eq_false c)
          refine w_st (i' := 31) (ls' := [.ref 0, .int p1, .int w3, am_U, am_U]) (st' := [.ref 0]) (E' := E1) (I' := I1) (J' := J1) (S' := S1) am_e21 rfl rfl rfl rfl ?_
          refine w_st (i' := 32) (ls' := [.ref 0, .int p1, .int w3, am_U, am_U]) (st' := [.ref 18]) (E' := E1) (I' := I1) (J' := J1) (S' := S1) am_e21 rfl rfl rfl rfl ?_
          refine w_st (i' := 33) (ls' := [.ref 0, .int p1, .int w3, am_U, am_U]) (st' := [.ref 18, .ref 18]) (E' := E1) (I' := I1) (J' := J1) (S' := S1) am_e21 rfl rfl rfl rfl ?_
          refine w_st (i' := 34) (ls' := [.ref 0, .int p1, .int w3, am_U, am_U]) (st' := [.int ((I1 18) 13), .ref 18]) (E' := E1) (I' := I1) (J' := J1) (S' := S1) am_e21 rfl rfl rfl rfl ?_
          refine w_st (i' := 35) (ls' := [.ref 0, .int p1, .int w3, am_U, am_U]) (st' := [.int (nI 1), .int ((I1 18) 13), .ref 18]) (E' := E1) (I' := I1) (J' := J1) (S' := S1) am_e21 rfl rfl rfl rfl ?_
          refine w_st (i' := 36) (ls' := [.ref 0, .int p1, .int w3, am_U, am_U]) (st' := [.int (((I1 18) 13) + (nI 1)), .ref 18]) (E' := E1) (I' := I1) (J' := J1) (S' := S1) am_e21 rfl rfl rfl rfl ?_
          refine w_st (i' := 37) (ls' := [.ref 0, .int p1, .int w3, am_U, am_U]) (st' := []) (E' := E1) (I' := (u_I I1 18 (upd (I1 18) 13 (((I1 18) 13) + (nI 1))))) (J' := J1) (S' := S1) am_e21 rfl rfl rfl rfl ?_
          refine w_st (i' := 38) (ls' := [.ref 0, .int p1, .int w3, am_U, am_U]) (st' := [.int (-1)]) (E' := E1) (I' := (u_I I1 18 (upd (I1 18) 13 (((I1 18) 13) + (nI 1))))) (J' := J1) (S' := S1) am_e21 rfl rfl rfl rfl ?_
          exact w_end am_e21 rfl rfl rfl h
theorem g21_24 {x1 : Int32} {d2 : Value} {d3 : Value} {d4 : Value} {E : am_Ev} {I : Nat → Nat → Int32} {J : Nat → Nat → Int64} {S : Nat → Nat → Option Nat} {Q : am_Qt} (hd2 : am_isL d2 = false) (hd3 : am_isL d3 = false) (hd4 : am_isL d4 = false) (h : Q (.inl (some (.int (-1)))) E (u_I I 18 (upd (I 18) 13 (((I 18) 13) + (nI 1)))) J S) : am_ww 21 24 [.ref 0, .int x1, d2, d3, d4] [] E I J S Q := by
  refine w_st (i' := 25) (ls' := [.ref 0, .int x1, d2, d3, d4]) (st' := [.int (nI 1)]) (E' := E) (I' := I) (J' := J) (S' := S) am_e21 rfl rfl rfl rfl ?_
  refine w_st (i' := 27) (ls' := [.ref 0, .int x1, d2, d3, d4]) (st' := [.int (nI 1)]) (E' := E) (I' := I) (J' := J) (S' := S) am_e21 rfl rfl rfl rfl ?_
  refine w_st (i' := 28) (ls' := [.ref 0, .int x1, .int (nI 1), d3, d4]) (st' := []) (E' := E) (I' := I) (J' := J) (S' := S) am_e21 rfl rfl rfl rfl ?_
  refine w_st (i' := 29) (ls' := [.ref 0, .int x1, .int (nI 1), d3, d4]) (st' := [.int (nI 1)]) (E' := E) (I' := I) (J' := J) (S' := S) am_e21 rfl rfl rfl rfl ?_
  refine w_st (i' := 30) (ls' := [.ref 0, .int x1, .int (nI 1), d3, d4]) (st' := []) (E' := E) (I' := I) (J' := J) (S' := S) am_e21 rfl rfl rfl rfl ?_
  refine w_st (i' := 31) (ls' := [.ref 0, .int x1, .int (nI 1), d3, d4]) (st' := [.ref 0]) (E' := E) (I' := I) (J' := J) (S' := S) am_e21 rfl rfl rfl rfl ?_
  refine w_st (i' := 32) (ls' := [.ref 0, .int x1, .int (nI 1), d3, d4]) (st' := [.ref 18]) (E' := E) (I' := I) (J' := J) (S' := S) am_e21 rfl rfl rfl rfl ?_
  refine w_st (i' := 33) (ls' := [.ref 0, .int x1, .int (nI 1), d3, d4]) (st' := [.ref 18, .ref 18]) (E' := E) (I' := I) (J' := J) (S' := S) am_e21 rfl rfl rfl rfl ?_
  refine w_st (i' := 34) (ls' := [.ref 0, .int x1, .int (nI 1), d3, d4]) (st' := [.int ((I 18) 13), .ref 18]) (E' := E) (I' := I) (J' := J) (S' := S) am_e21 rfl rfl rfl rfl ?_
  refine w_st (i' := 35) (ls' := [.ref 0, .int x1, .int (nI 1), d3, d4]) (st' := [.int (nI 1), .int ((I 18) 13), .ref 18]) (E' := E) (I' := I) (J' := J) (S' := S) am_e21 rfl rfl rfl rfl ?_
  refine w_st (i' := 36) (ls' := [.ref 0, .int x1, .int (nI 1), d3, d4]) (st' := [.int (((I 18) 13) + (nI 1)), .ref 18]) (E' := E) (I' := I) (J' := J) (S' := S) am_e21 rfl rfl rfl rfl ?_
  refine w_st (i' := 37) (ls' := [.ref 0, .int x1, .int (nI 1), d3, d4]) (st' := []) (E' := E) (I' := (u_I I 18 (upd (I 18) 13 (((I 18) 13) + (nI 1))))) (J' := J) (S' := S) am_e21 rfl rfl rfl rfl ?_
  refine w_st (i' := 38) (ls' := [.ref 0, .int x1, .int (nI 1), d3, d4]) (st' := [.int (-1)]) (E' := E) (I' := (u_I I 18 (upd (I 18) 13 (((I 18) 13) + (nI 1))))) (J' := J) (S' := S) am_e21 rfl rfl rfl rfl ?_
  exact w_end am_e21 rfl rfl rfl h
theorem g21_59 {x1 : Int32} {d2 : Value} {x3 : Int32} {x4 : Int32} {E : am_Ev} {I : Nat → Nat → Int32} {J : Nat → Nat → Int64} {S : Nat → Nat → Option Nat} {Q : am_Qt} (hd2 : am_isL d2 = false) (h : (x1 ≤ x4 → (am_cl 41 [.ref 0] E I J S (q_V fun E1 I1 J1 S1 => Q (.inl (some (.int (((I1 18) 10) - x3)))) E1 I1 J1 S1))) ∧ (¬ x1 ≤ x4 → (am_cl 29 [.ref 18, .ref 12] E I J S (q_I fun v2 E2 I2 J2 S2 => (v2 = 0 → (am_cl 41 [.ref 0] E2 I2 J2 S2 (q_V fun E3 I3 J3 S3 => Q (.inl (some (.int (((I3 18) 10) - x3)))) E3 I3 J3 S3))) ∧ (¬ v2 = 0 → (am_ww 21 59 [.ref 0, .int x1, d2, .int x3, .int (x4 + nI 1)] [] E2 I2 J2 S2 Q)))))) : am_ww 21 59 [.ref 0, .int x1, d2, .int x3, .int x4] [] E I J S Q := by
  refine w_st (i' := 60) (ls' := [.ref 0, .int x1, d2, .int x3, .int x4]) (st' := [.int x4]) (E' := E) (I' := I) (J' := J) (S' := S) am_e21 rfl rfl rfl rfl ?_
  refine w_st (i' := 61) (ls' := [.ref 0, .int x1, d2, .int x3, .int x4]) (st' := [.int x1, .int x4]) (E' := E) (I' := I) (J' := J) (S' := S) am_e21 rfl rfl rfl rfl ?_
  refine w_if2 am_e21 rfl rfl (fun c => ?_) (fun c => ?_)
  · replace h := h.1 (of_decide_eq_true c)
    refine w_st (i' := 72) (ls' := [.ref 0, .int x1, d2, .int x3, .int x4]) (st' := [.ref 0]) (E' := E) (I' := I) (J' := J) (S' := S) am_e21 rfl rfl rfl rfl ?_
    refine w_cV am_e21 rfl rfl (as := [.ref 0]) (rest := []) rfl rfl (am_ww.mono h ?_)
    rintro _ E1 I1 J1 S1 ⟨rfl, h⟩
    refine q_mkV ?_
    refine w_st (i' := 74) (ls' := [.ref 0, .int x1, d2, .int x3, .int x4]) (st' := [.ref 0]) (E' := E1) (I' := I1) (J' := J1) (S' := S1) am_e21 rfl rfl rfl rfl ?_
    refine w_st (i' := 75) (ls' := [.ref 0, .int x1, d2, .int x3, .int x4]) (st' := [.ref 18]) (E' := E1) (I' := I1) (J' := J1) (S' := S1) am_e21 rfl rfl rfl rfl ?_
    refine w_st (i' := 76) (ls' := [.ref 0, .int x1, d2, .int x3, .int x4]) (st' := [.int ((I1 18) 10)]) (E' := E1) (I' := I1) (J' := J1) (S' := S1) am_e21 rfl rfl rfl rfl ?_
    refine w_st (i' := 77) (ls' := [.ref 0, .int x1, d2, .int x3, .int x4]) (st' := [.int x3, .int ((I1 18) 10)]) (E' := E1) (I' := I1) (J' := J1) (S' := S1) am_e21 rfl rfl rfl rfl ?_
    refine w_st (i' := 78) (ls' := [.ref 0, .int x1, d2, .int x3, .int x4]) (st' := [.int (((I1 18) 10) - x3)]) (E' := E1) (I' := I1) (J' := J1) (S' := S1) am_e21 rfl rfl rfl rfl ?_
    exact w_ri am_e21 rfl rfl h
  · replace h := h.2 (of_decide_eq_false c)
    refine w_st (i' := 63) (ls' := [.ref 0, .int x1, d2, .int x3, .int x4]) (st' := [.ref 0]) (E' := E) (I' := I) (J' := J) (S' := S) am_e21 rfl rfl rfl rfl ?_
    refine w_st (i' := 64) (ls' := [.ref 0, .int x1, d2, .int x3, .int x4]) (st' := [.ref 18]) (E' := E) (I' := I) (J' := J) (S' := S) am_e21 rfl rfl rfl rfl ?_
    refine w_st (i' := 65) (ls' := [.ref 0, .int x1, d2, .int x3, .int x4]) (st' := [.ref 0, .ref 18]) (E' := E) (I' := I) (J' := J) (S' := S) am_e21 rfl rfl rfl rfl ?_
    refine w_st (i' := 66) (ls' := [.ref 0, .int x1, d2, .int x3, .int x4]) (st' := [.ref 12, .ref 18]) (E' := E) (I' := I) (J' := J) (S' := S) am_e21 rfl rfl rfl rfl ?_
    refine w_cI am_e21 rfl rfl (as := [.ref 18, .ref 12]) (rest := []) rfl rfl (am_ww.mono h ?_)
    rintro _ E2 I2 J2 S2 ⟨v2, rfl, h⟩
    refine q_mkI ?_
    refine w_if1 am_e21 rfl rfl (fun c => ?_) (fun c => ?_)
    · replace h := h.2 (of_decide_eq_true c)
      refine w_st (i' := 70) (ls' := [.ref 0, .int x1, d2, .int x3, .int (x4 + nI 1)]) (st' := []) (E' := E2) (I' := I2) (J' := J2) (S' := S2) am_e21 rfl rfl rfl rfl ?_
      refine w_st (i' := 59) (ls' := [.ref 0, .int x1, d2, .int x3, .int (x4 + nI 1)]) (st' := []) (E' := E2) (I' := I2) (J' := J2) (S' := S2) am_e21 rfl rfl rfl rfl ?_
      exact h
    · replace h := h.1 (Decidable.not_not.mp (of_decide_eq_false c))
      refine w_st (i' := 71) (ls' := [.ref 0, .int x1, d2, .int x3, .int x4]) (st' := []) (E' := E2) (I' := I2) (J' := J2) (S' := S2) am_e21 rfl rfl rfl rfl ?_
      refine w_st (i' := 72) (ls' := [.ref 0, .int x1, d2, .int x3, .int x4]) (st' := [.ref 0]) (E' := E2) (I' := I2) (J' := J2) (S' := S2) am_e21 rfl rfl rfl rfl ?_
      refine w_cV am_e21 rfl rfl (as := [.ref 0]) (rest := []) rfl rfl (am_ww.mono h ?_)
      rintro _ E3 I3 J3 S3 ⟨rfl, h⟩
      refine q_mkV ?_
      refine w_st (i' := 74) (ls' := [.ref 0, .int x1, d2, .int x3, .int x4]) (st' := [.ref 0]) (E' := E3) (I' := I3) (J' := J3) (S' := S3) am_e21 rfl rfl rfl rfl ?_
      refine w_st (i' := 75) (ls' := [.ref 0, .int x1, d2, .int x3, .int x4]) (st' := [.ref 18]) (E' := E3) (I' := I3) (J' := J3) (S' := S3) am_e21 rfl rfl rfl rfl ?_
      refine w_st (i' := 76) (ls' := [.ref 0, .int x1, d2, .int x3, .int x4]) (st' := [.int ((I3 18) 10)]) (E' := E3) (I' := I3) (J' := J3) (S' := S3) am_e21 rfl rfl rfl rfl ?_
      refine w_st (i' := 77) (ls' := [.ref 0, .int x1, d2, .int x3, .int x4]) (st' := [.int x3, .int ((I3 18) 10)]) (E' := E3) (I' := I3) (J' := J3) (S' := S3) am_e21 rfl rfl rfl rfl ?_
      refine w_st (i' := 78) (ls' := [.ref 0, .int x1, d2, .int x3, .int x4]) (st' := [.int (((I3 18) 10) - x3)]) (E' := E3) (I' := I3) (J' := J3) (S' := S3) am_e21 rfl rfl rfl rfl ?_
      exact w_ri am_e21 rfl rfl h
-- 42 give
theorem g42_0 {p1 : Int32} {p2 : Int32} {E : am_Ev} {I : Nat → Nat → Int32} {J : Nat → Nat → Int64} {S : Nat → Nat → Option Nat} {Q : am_Qt}  (h : (p1 < 0 → (Q (.inl (some (.int (-1)))) E (u_I I 18 (upd (I 18) 13 (((I 18) 13) + (nI 1)))) J S)) ∧ (¬ p1 < 0 → (((nI 3) ≤ p1 → (Q (.inl (some (.int (-1)))) E (u_I I 18 (upd (I 18) 13 (((I 18) 13) + (nI 1)))) J S)) ∧ (¬ (nI 3) ≤ p1 → (vp_in p1 3 ∧ ((((I 28) p1.toNatClampNeg) < (nI 30) → (am_cl 27 [.ref 34, .int p1, .int ((I 18) 10), .int ((I 19) 2), .int ((I 19) 1)] E I J S (q_V fun E2 I2 J2 S2 => vp_in ((p1 * (nI 30)) + ((I2 28) p1.toNatClampNeg)) 90 ∧ (Q (.inl (some (.int ((upd (I2 28) p1.toNatClampNeg (((I2 28) p1.toNatClampNeg) + (nI 1))) p1.toNatClampNeg)))) E2 (u_I (u_I I2 27 (upd (I2 27) (((p1 * (nI 30)) + ((I2 28) p1.toNatClampNeg)).toNatClampNeg) p2)) 28 (upd (I2 28) p1.toNatClampNeg (((I2 28) p1.toNatClampNeg) + (nI 1)))) J2 S2)))) ∧ (¬ ((I 28) p1.toNatClampNeg) < (nI 30) → (Q (.inl (some (.int (-1)))) E (u_I I 18 (upd (I 18) 13 (((I 18) 13) + (nI 1)))) J S)))))))) : am_ww 42 0 [.ref 0, .int p1, .int p2] [] E I J S Q := by
  refine w_st (i' := 1) (ls' := [.ref 0, .int p1, .int p2]) (st' := [.int p1]) (E' := E) (I' := I) (J' := J) (S' := S) am_e42 rfl rfl rfl rfl ?_
  refine w_cI am_e42 rfl rfl (as := [.int p1]) (rest := []) rfl rfl ?_
  show am_ww 43 0 [.int p1] [] E I J S _
  refine w_st (i' := 1) (ls' := [.int p1]) (st' := [.int p1]) (E' := E) (I' := I) (J' := J) (S' := S) am_e43 rfl rfl rfl rfl ?_
  refine w_if1 am_e43 rfl rfl (fun c => ?_) (fun c => ?_)
  · replace h := h.1 (of_decide_eq_true c)
    refine w_st (i' := 8) (ls' := [.int p1]) (st' := [.int (nI 0)]) (E' := E) (I' := I) (J' := J) (S' := S) am_e43 rfl rfl rfl rfl ?_
    refine w_end (E' := E) (I' := I) (J' := J) (S' := S) am_e43 rfl rfl rfl (q_mkI ?_)
    show am_ww 42 2 [.ref 0, .int p1, .int p2] [.int (nI 0)] E I J S _
    refine w_st (i' := 10) (ls' := [.ref 0, .int p1, .int p2]) (st' := []) (E' := E) (I' := I) (J' := J) (S' := S) am_e42 rfl rfl rfl rfl ?_
    refine w_st (i' := 11) (ls' := [.ref 0, .int p1, .int p2]) (st' := [.ref 0]) (E' := E) (I' := I) (J' := J) (S' := S) am_e42 rfl rfl rfl rfl ?_
    refine w_st (i' := 12) (ls' := [.ref 0, .int p1, .int p2]) (st' := [.ref 18]) (E' := E) (I' := I) (J' := J) (S' := S) am_e42 rfl rfl rfl rfl ?_
    refine w_st (i' := 13) (ls' := [.ref 0, .int p1, .int p2]) (st' := [.ref 18, .ref 18]) (E' := E) (I' := I) (J' := J) (S' := S) am_e42 rfl rfl rfl rfl ?_
    refine w_st (i' := 14) (ls' := [.ref 0, .int p1, .int p2]) (st' := [.int ((I 18) 13), .ref 18]) (E' := E) (I' := I) (J' := J) (S' := S) am_e42 rfl rfl rfl rfl ?_
    refine w_st (i' := 15) (ls' := [.ref 0, .int p1, .int p2]) (st' := [.int (nI 1), .int ((I 18) 13), .ref 18]) (E' := E) (I' := I) (J' := J) (S' := S) am_e42 rfl rfl rfl rfl ?_
    refine w_st (i' := 16) (ls' := [.ref 0, .int p1, .int p2]) (st' := [.int (((I 18) 13) + (nI 1)), .ref 18]) (E' := E) (I' := I) (J' := J) (S' := S) am_e42 rfl rfl rfl rfl ?_
    refine w_st (i' := 17) (ls' := [.ref 0, .int p1, .int p2]) (st' := []) (E' := E) (I' := (u_I I 18 (upd (I 18) 13 (((I 18) 13) + (nI 1))))) (J' := J) (S' := S) am_e42 rfl rfl rfl rfl ?_
    refine w_st (i' := 18) (ls' := [.ref 0, .int p1, .int p2]) (st' := [.int (-1)]) (E' := E) (I' := (u_I I 18 (upd (I 18) 13 (((I 18) 13) + (nI 1))))) (J' := J) (S' := S) am_e42 rfl rfl rfl rfl ?_
    exact w_end am_e42 rfl rfl rfl h
  · replace h := h.2 (of_decide_eq_false c)
    refine w_st (i' := 3) (ls' := [.int p1]) (st' := [.int p1]) (E' := E) (I' := I) (J' := J) (S' := S) am_e43 rfl rfl rfl rfl ?_
    refine w_st (i' := 4) (ls' := [.int p1]) (st' := [.int (nI 3), .int p1]) (E' := E) (I' := I) (J' := J) (S' := S) am_e43 rfl rfl rfl rfl ?_
    refine w_if2 am_e43 rfl rfl (fun c => ?_) (fun c => ?_)
    · replace h := h.1 (of_decide_eq_true c)
      refine w_st (i' := 8) (ls' := [.int p1]) (st' := [.int (nI 0)]) (E' := E) (I' := I) (J' := J) (S' := S) am_e43 rfl rfl rfl rfl ?_
      refine w_end (E' := E) (I' := I) (J' := J) (S' := S) am_e43 rfl rfl rfl (q_mkI ?_)
      show am_ww 42 2 [.ref 0, .int p1, .int p2] [.int (nI 0)] E I J S _
      refine w_st (i' := 10) (ls' := [.ref 0, .int p1, .int p2]) (st' := []) (E' := E) (I' := I) (J' := J) (S' := S) am_e42 rfl rfl rfl rfl ?_
      refine w_st (i' := 11) (ls' := [.ref 0, .int p1, .int p2]) (st' := [.ref 0]) (E' := E) (I' := I) (J' := J) (S' := S) am_e42 rfl rfl rfl rfl ?_
      refine w_st (i' := 12) (ls' := [.ref 0, .int p1, .int p2]) (st' := [.ref 18]) (E' := E) (I' := I) (J' := J) (S' := S) am_e42 rfl rfl rfl rfl ?_
      refine w_st (i' := 13) (ls' := [.ref 0, .int p1, .int p2]) (st' := [.ref 18, .ref 18]) (E' := E) (I' := I) (J' := J) (S' := S) am_e42 rfl rfl rfl rfl ?_
      refine w_st (i' := 14) (ls' := [.ref 0, .int p1, .int p2]) (st' := [.int ((I 18) 13), .ref 18]) (E' := E) (I' := I) (J' := J) (S' := S) am_e42 rfl rfl rfl rfl ?_
      refine w_st (i' := 15) (ls' := [.ref 0, .int p1, .int p2]) (st' := [.int (nI 1), .int ((I 18) 13), .ref 18]) (E' := E) (I' := I) (J' := J) (S' := S) am_e42 rfl rfl rfl rfl ?_
      refine w_st (i' := 16) (ls' := [.ref 0, .int p1, .int p2]) (st' := [.int (((I 18) 13) + (nI 1)), .ref 18]) (E' := E) (I' := I) (J' := J) (S' := S) am_e42 rfl rfl rfl rfl ?_
      refine w_st (i' := 17) (ls' := [.ref 0, .int p1, .int p2]) (st' := []) (E' := E) (I' := (u_I I 18 (upd (I 18) 13 (((I 18) 13) + (nI 1))))) (J' := J) (S' := S) am_e42 rfl rfl rfl rfl ?_
      refine w_st (i' := 18) (ls' := [.ref 0, .int p1, .int p2]) (st' := [.int (-1)]) (E' := E) (I' := (u_I I 18 (upd (I 18) 13 (((I 18) 13) + (nI 1))))) (J' := J) (S' := S) am_e42 rfl rfl rfl rfl ?_
      exact w_end am_e42 rfl rfl rfl h
    · replace h := h.2 (of_decide_eq_false c)
      refine w_st (i' := 6) (ls' := [.int p1]) (st' := [.int (nI 1)]) (E' := E) (I' := I) (J' := J) (S' := S) am_e43 rfl rfl rfl rfl ?_
      refine w_st (i' := 8) (ls' := [.int p1]) (st' := [.int (nI 1)]) (E' := E) (I' := I) (J' := J) (S' := S) am_e43 rfl rfl rfl rfl ?_
      refine w_end (E' := E) (I' := I) (J' := J) (S' := S) am_e43 rfl rfl rfl (q_mkI ?_)
      show am_ww 42 2 [.ref 0, .int p1, .int p2] [.int (nI 1)] E I J S _
      refine w_st (i' := 3) (ls' := [.ref 0, .int p1, .int p2]) (st' := []) (E' := E) (I' := I) (J' := J) (S' := S) am_e42 rfl rfl rfl rfl ?_
      refine w_st (i' := 4) (ls' := [.ref 0, .int p1, .int p2]) (st' := [.ref 0]) (E' := E) (I' := I) (J' := J) (S' := S) am_e42 rfl rfl rfl rfl ?_
      refine w_st (i' := 5) (ls' := [.ref 0, .int p1, .int p2]) (st' := [.ref 18]) (E' := E) (I' := I) (J' := J) (S' := S) am_e42 rfl rfl rfl rfl ?_
      refine w_st (i' := 6) (ls' := [.ref 0, .int p1, .int p2]) (st' := [.ref 28]) (E' := E) (I' := I) (J' := J) (S' := S) am_e42 rfl rfl rfl rfl ?_
      refine w_st (i' := 7) (ls' := [.ref 0, .int p1, .int p2]) (st' := [.int p1, .ref 28]) (E' := E) (I' := I) (J' := J) (S' := S) am_e42 rfl rfl rfl rfl ?_
      have hf1 := h.1
      replace h := h.2
      refine w_ia (k := 28) (n := 3) (jn := p1.toNatClampNeg) am_e42 rfl rfl (by decide) hf1 rfl ?_
      refine w_st (i' := 9) (ls' := [.ref 0, .int p1, .int p2]) (st' := [.int (nI 30), .int ((I 28) p1.toNatClampNeg)]) (E' := E) (I' := I) (J' := J) (S' := S) am_e42 rfl rfl rfl rfl ?_
      refine w_if2 am_e42 rfl rfl (fun c => ?_) (fun c => ?_)
      · replace h := h.1 (of_decide_eq_true c)
        refine w_st (i' := 20) (ls' := [.ref 0, .int p1, .int p2]) (st' := [.ref 0]) (E' := E) (I' := I) (J' := J) (S' := S) am_e42 rfl rfl rfl rfl ?_
        refine w_st (i' := 21) (ls' := [.ref 0, .int p1, .int p2]) (st' := [.ref 18]) (E' := E) (I' := I) (J' := J) (S' := S) am_e42 rfl rfl rfl rfl ?_
        refine w_st (i' := 22) (ls' := [.ref 0, .int p1, .int p2]) (st' := [.ref 34]) (E' := E) (I' := I) (J' := J) (S' := S) am_e42 rfl rfl rfl rfl ?_
        refine w_st (i' := 23) (ls' := [.ref 0, .int p1, .int p2]) (st' := [.int p1, .ref 34]) (E' := E) (I' := I) (J' := J) (S' := S) am_e42 rfl rfl rfl rfl ?_
        refine w_st (i' := 24) (ls' := [.ref 0, .int p1, .int p2]) (st' := [.ref 0, .int p1, .ref 34]) (E' := E) (I' := I) (J' := J) (S' := S) am_e42 rfl rfl rfl rfl ?_
        refine w_st (i' := 25) (ls' := [.ref 0, .int p1, .int p2]) (st' := [.ref 18, .int p1, .ref 34]) (E' := E) (I' := I) (J' := J) (S' := S) am_e42 rfl rfl rfl rfl ?_
        refine w_st (i' := 26) (ls' := [.ref 0, .int p1, .int p2]) (st' := [.int ((I 18) 10), .int p1, .ref 34]) (E' := E) (I' := I) (J' := J) (S' := S) am_e42 rfl rfl rfl rfl ?_
        refine w_st (i' := 27) (ls' := [.ref 0, .int p1, .int p2]) (st' := [.ref 0, .int ((I 18) 10), .int p1, .ref 34]) (E' := E) (I' := I) (J' := J) (S' := S) am_e42 rfl rfl rfl rfl ?_
        refine w_st (i' := 28) (ls' := [.ref 0, .int p1, .int p2]) (st' := [.ref 18, .int ((I 18) 10), .int p1, .ref 34]) (E' := E) (I' := I) (J' := J) (S' := S) am_e42 rfl rfl rfl rfl ?_
        refine w_st (i' := 29) (ls' := [.ref 0, .int p1, .int p2]) (st' := [.ref 19, .int ((I 18) 10), .int p1, .ref 34]) (E' := E) (I' := I) (J' := J) (S' := S) am_e42 rfl rfl rfl rfl ?_
        refine w_st (i' := 30) (ls' := [.ref 0, .int p1, .int p2]) (st' := [.int ((I 19) 2), .int ((I 18) 10), .int p1, .ref 34]) (E' := E) (I' := I) (J' := J) (S' := S) am_e42 rfl rfl rfl rfl ?_
        refine w_st (i' := 31) (ls' := [.ref 0, .int p1, .int p2]) (st' := [.ref 0, .int ((I 19) 2), .int ((I 18) 10), .int p1, .ref 34]) (E' := E) (I' := I) (J' := J) (S' := S) am_e42 rfl rfl rfl rfl ?_
        refine w_st (i' := 32) (ls' := [.ref 0, .int p1, .int p2]) (st' := [.ref 18, .int ((I 19) 2), .int ((I 18) 10), .int p1, .ref 34]) (E' := E) (I' := I) (J' := J) (S' := S) am_e42 rfl rfl rfl rfl ?_
        refine w_st (i' := 33) (ls' := [.ref 0, .int p1, .int p2]) (st' := [.ref 19, .int ((I 19) 2), .int ((I 18) 10), .int p1, .ref 34]) (E' := E) (I' := I) (J' := J) (S' := S) am_e42 rfl rfl rfl rfl ?_
        refine w_st (i' := 34) (ls' := [.ref 0, .int p1, .int p2]) (st' := [.int ((I 19) 1), .int ((I 19) 2), .int ((I 18) 10), .int p1, .ref 34]) (E' := E) (I' := I) (J' := J) (S' := S) am_e42 rfl rfl rfl rfl ?_
        refine w_cV am_e42 rfl rfl (as := [.ref 34, .int p1, .int ((I 18) 10), .int ((I 19) 2), .int ((I 19) 1)]) (rest := []) rfl rfl (am_ww.mono h ?_)
        rintro _ E2 I2 J2 S2 ⟨rfl, h⟩
        refine q_mkV ?_
        refine w_st (i' := 36) (ls' := [.ref 0, .int p1, .int p2]) (st' := [.ref 0]) (E' := E2) (I' := I2) (J' := J2) (S' := S2) am_e42 rfl rfl rfl rfl ?_
        refine w_st (i' := 37) (ls' := [.ref 0, .int p1, .int p2]) (st' := [.ref 18]) (E' := E2) (I' := I2) (J' := J2) (S' := S2) am_e42 rfl rfl rfl rfl ?_
        refine w_st (i' := 38) (ls' := [.ref 0, .int p1, .int p2]) (st' := [.ref 27]) (E' := E2) (I' := I2) (J' := J2) (S' := S2) am_e42 rfl rfl rfl rfl ?_
        refine w_st (i' := 39) (ls' := [.ref 0, .int p1, .int p2]) (st' := [.int p1, .ref 27]) (E' := E2) (I' := I2) (J' := J2) (S' := S2) am_e42 rfl rfl rfl rfl ?_
        refine w_st (i' := 40) (ls' := [.ref 0, .int p1, .int p2]) (st' := [.int (nI 30), .int p1, .ref 27]) (E' := E2) (I' := I2) (J' := J2) (S' := S2) am_e42 rfl rfl rfl rfl ?_
        refine w_st (i' := 41) (ls' := [.ref 0, .int p1, .int p2]) (st' := [.int (p1 * (nI 30)), .ref 27]) (E' := E2) (I' := I2) (J' := J2) (S' := S2) am_e42 rfl rfl rfl rfl ?_
        refine w_st (i' := 42) (ls' := [.ref 0, .int p1, .int p2]) (st' := [.ref 0, .int (p1 * (nI 30)), .ref 27]) (E' := E2) (I' := I2) (J' := J2) (S' := S2) am_e42 rfl rfl rfl rfl ?_
        refine w_st (i' := 43) (ls' := [.ref 0, .int p1, .int p2]) (st' := [.ref 18, .int (p1 * (nI 30)), .ref 27]) (E' := E2) (I' := I2) (J' := J2) (S' := S2) am_e42 rfl rfl rfl rfl ?_
        refine w_st (i' := 44) (ls' := [.ref 0, .int p1, .int p2]) (st' := [.ref 28, .int (p1 * (nI 30)), .ref 27]) (E' := E2) (I' := I2) (J' := J2) (S' := S2) am_e42 rfl rfl rfl rfl ?_
        refine w_st (i' := 45) (ls' := [.ref 0, .int p1, .int p2]) (st' := [.int p1, .ref 28, .int (p1 * (nI 30)), .ref 27]) (E' := E2) (I' := I2) (J' := J2) (S' := S2) am_e42 rfl rfl rfl rfl ?_
        refine w_ia (k := 28) (n := 3) (jn := p1.toNatClampNeg) am_e42 rfl rfl (by decide) hf1 rfl ?_
        refine w_st (i' := 47) (ls' := [.ref 0, .int p1, .int p2]) (st' := [.int ((p1 * (nI 30)) + ((I2 28) p1.toNatClampNeg)), .ref 27]) (E' := E2) (I' := I2) (J' := J2) (S' := S2) am_e42 rfl rfl rfl rfl ?_
        refine w_st (i' := 48) (ls' := [.ref 0, .int p1, .int p2]) (st' := [.int p2, .int ((p1 * (nI 30)) + ((I2 28) p1.toNatClampNeg)), .ref 27]) (E' := E2) (I' := I2) (J' := J2) (S' := S2) am_e42 rfl rfl rfl rfl ?_
        have hf3 := h.1
        replace h := h.2
        refine w_is (k := 27) (n := 90) (jn := ((p1 * (nI 30)) + ((I2 28) p1.toNatClampNeg)).toNatClampNeg) am_e42 rfl rfl (by decide) hf3 rfl ?_
        show am_ww 42 49 [.ref 0, .int p1, .int p2] [] E2 (u_I I2 27 (upd (I2 27) (((p1 * (nI 30)) + ((I2 28) p1.toNatClampNeg)).toNatClampNeg) p2)) J2 S2 _
        refine w_st (i' := 50) (ls' := [.ref 0, .int p1, .int p2]) (st' := [.ref 0]) (E' := E2) (I' := (u_I I2 27 (upd (I2 27) (((p1 * (nI 30)) + ((I2 28) p1.toNatClampNeg)).toNatClampNeg) p2))) (J' := J2) (S' := S2) am_e42 rfl rfl rfl rfl ?_
        refine w_st (i' := 51) (ls' := [.ref 0, .int p1, .int p2]) (st' := [.ref 18]) (E' := E2) (I' := (u_I I2 27 (upd (I2 27) (((p1 * (nI 30)) + ((I2 28) p1.toNatClampNeg)).toNatClampNeg) p2))) (J' := J2) (S' := S2) am_e42 rfl rfl rfl rfl ?_
        refine w_st (i' := 52) (ls' := [.ref 0, .int p1, .int p2]) (st' := [.ref 28]) (E' := E2) (I' := (u_I I2 27 (upd (I2 27) (((p1 * (nI 30)) + ((I2 28) p1.toNatClampNeg)).toNatClampNeg) p2))) (J' := J2) (S' := S2) am_e42 rfl rfl rfl rfl ?_
        refine w_st (i' := 53) (ls' := [.ref 0, .int p1, .int p2]) (st' := [.int p1, .ref 28]) (E' := E2) (I' := (u_I I2 27 (upd (I2 27) (((p1 * (nI 30)) + ((I2 28) p1.toNatClampNeg)).toNatClampNeg) p2))) (J' := J2) (S' := S2) am_e42 rfl rfl rfl rfl ?_
        refine w_st (i' := 54) (ls' := [.ref 0, .int p1, .int p2]) (st' := [.int p1, .ref 28, .int p1, .ref 28]) (E' := E2) (I' := (u_I I2 27 (upd (I2 27) (((p1 * (nI 30)) + ((I2 28) p1.toNatClampNeg)).toNatClampNeg) p2))) (J' := J2) (S' := S2) am_e42 rfl rfl rfl rfl ?_
        refine w_ia (k := 28) (n := 3) (jn := p1.toNatClampNeg) am_e42 rfl rfl (by decide) hf1 rfl ?_
        show am_ww 42 55 [.ref 0, .int p1, .int p2] [.int ((I2 28) p1.toNatClampNeg), .int p1, .ref 28] E2 (u_I I2 27 (upd (I2 27) (((p1 * (nI 30)) + ((I2 28) p1.toNatClampNeg)).toNatClampNeg) p2)) J2 S2 _
        refine w_st (i' := 56) (ls' := [.ref 0, .int p1, .int p2]) (st' := [.int (nI 1), .int ((I2 28) p1.toNatClampNeg), .int p1, .ref 28]) (E' := E2) (I' := (u_I I2 27 (upd (I2 27) (((p1 * (nI 30)) + ((I2 28) p1.toNatClampNeg)).toNatClampNeg) p2))) (J' := J2) (S' := S2) am_e42 rfl rfl rfl rfl ?_
        refine w_st (i' := 57) (ls' := [.ref 0, .int p1, .int p2]) (st' := [.int (((I2 28) p1.toNatClampNeg) + (nI 1)), .int p1, .ref 28]) (E' := E2) (I' := (u_I I2 27 (upd (I2 27) (((p1 * (nI 30)) + ((I2 28) p1.toNatClampNeg)).toNatClampNeg) p2))) (J' := J2) (S' := S2) am_e42 rfl rfl rfl rfl ?_
        refine w_is (k := 28) (n := 3) (jn := p1.toNatClampNeg) am_e42 rfl rfl (by decide) hf1 rfl ?_
        show am_ww 42 58 [.ref 0, .int p1, .int p2] [] E2 (u_I (u_I I2 27 (upd (I2 27) (((p1 * (nI 30)) + ((I2 28) p1.toNatClampNeg)).toNatClampNeg) p2)) 28 (upd (I2 28) p1.toNatClampNeg (((I2 28) p1.toNatClampNeg) + (nI 1)))) J2 S2 _
        refine w_st (i' := 59) (ls' := [.ref 0, .int p1, .int p2]) (st' := [.ref 0]) (E' := E2) (I' := (u_I (u_I I2 27 (upd (I2 27) (((p1 * (nI 30)) + ((I2 28) p1.toNatClampNeg)).toNatClampNeg) p2)) 28 (upd (I2 28) p1.toNatClampNeg (((I2 28) p1.toNatClampNeg) + (nI 1))))) (J' := J2) (S' := S2) am_e42 rfl rfl rfl rfl ?_
        refine w_st (i' := 60) (ls' := [.ref 0, .int p1, .int p2]) (st' := [.ref 18]) (E' := E2) (I' := (u_I (u_I I2 27 (upd (I2 27) (((p1 * (nI 30)) + ((I2 28) p1.toNatClampNeg)).toNatClampNeg) p2)) 28 (upd (I2 28) p1.toNatClampNeg (((I2 28) p1.toNatClampNeg) + (nI 1))))) (J' := J2) (S' := S2) am_e42 rfl rfl rfl rfl ?_
        refine w_st (i' := 61) (ls' := [.ref 0, .int p1, .int p2]) (st' := [.ref 28]) (E' := E2) (I' := (u_I (u_I I2 27 (upd (I2 27) (((p1 * (nI 30)) + ((I2 28) p1.toNatClampNeg)).toNatClampNeg) p2)) 28 (upd (I2 28) p1.toNatClampNeg (((I2 28) p1.toNatClampNeg) + (nI 1))))) (J' := J2) (S' := S2) am_e42 rfl rfl rfl rfl ?_
        refine w_st (i' := 62) (ls' := [.ref 0, .int p1, .int p2]) (st' := [.int p1, .ref 28]) (E' := E2) (I' := (u_I (u_I I2 27 (upd (I2 27) (((p1 * (nI 30)) + ((I2 28) p1.toNatClampNeg)).toNatClampNeg) p2)) 28 (upd (I2 28) p1.toNatClampNeg (((I2 28) p1.toNatClampNeg) + (nI 1))))) (J' := J2) (S' := S2) am_e42 rfl rfl rfl rfl ?_
        refine w_ia (k := 28) (n := 3) (jn := p1.toNatClampNeg) am_e42 rfl rfl (by decide) hf1 rfl ?_
        show am_ww 42 63 [.ref 0, .int p1, .int p2] [.int ((upd (I2 28) p1.toNatClampNeg (((I2 28) p1.toNatClampNeg) + (nI 1))) p1.toNatClampNeg)] E2 (u_I (u_I I2 27 (upd (I2 27) (((p1 * (nI 30)) + ((I2 28) p1.toNatClampNeg)).toNatClampNeg) p2)) 28 (upd (I2 28) p1.toNatClampNeg (((I2 28) p1.toNatClampNeg) + (nI 1)))) J2 S2 _
        exact w_ri am_e42 rfl rfl h
      · replace h := h.2 (of_decide_eq_false c)
        refine w_st (i' := 11) (ls' := [.ref 0, .int p1, .int p2]) (st' := [.ref 0]) (E' := E) (I' := I) (J' := J) (S' := S) am_e42 rfl rfl rfl rfl ?_
        refine w_st (i' := 12) (ls' := [.ref 0, .int p1, .int p2]) (st' := [.ref 18]) (E' := E) (I' := I) (J' := J) (S' := S) am_e42 rfl rfl rfl rfl ?_
        refine w_st (i' := 13) (ls' := [.ref 0, .int p1, .int p2]) (st' := [.ref 18, .ref 18]) (E' := E) (I' := I) (J' := J) (S' := S) am_e42 rfl rfl rfl rfl ?_
        refine w_st (i' := 14) (ls' := [.ref 0, .int p1, .int p2]) (st' := [.int ((I 18) 13), .ref 18]) (E' := E) (I' := I) (J' := J) (S' := S) am_e42 rfl rfl rfl rfl ?_
        refine w_st (i' := 15) (ls' := [.ref 0, .int p1, .int p2]) (st' := [.int (nI 1), .int ((I 18) 13), .ref 18]) (E' := E) (I' := I) (J' := J) (S' := S) am_e42 rfl rfl rfl rfl ?_
        refine w_st (i' := 16) (ls' := [.ref 0, .int p1, .int p2]) (st' := [.int (((I 18) 13) + (nI 1)), .ref 18]) (E' := E) (I' := I) (J' := J) (S' := S) am_e42 rfl rfl rfl rfl ?_
        refine w_st (i' := 17) (ls' := [.ref 0, .int p1, .int p2]) (st' := []) (E' := E) (I' := (u_I I 18 (upd (I 18) 13 (((I 18) 13) + (nI 1))))) (J' := J) (S' := S) am_e42 rfl rfl rfl rfl ?_
        refine w_st (i' := 18) (ls' := [.ref 0, .int p1, .int p2]) (st' := [.int (-1)]) (E' := E) (I' := (u_I I 18 (upd (I 18) 13 (((I 18) 13) + (nI 1))))) (J' := J) (S' := S) am_e42 rfl rfl rfl rfl ?_
        exact w_end am_e42 rfl rfl rfl h
-- 44 undo
theorem g44_0  {E : am_Ev} {I : Nat → Nat → Int32} {J : Nat → Nat → Int64} {S : Nat → Nat → Option Nat} {Q : am_Qt}  (h : (((I 34) 4) = 0 → (Q (.inl (some (.int (-1)))) E I J S)) ∧ (¬ ((I 34) 4) = 0 → (vp_in (((I 34) 4) - (nI 1)) 40 ∧ (∀ w2 : Int32, w2 = ((I 35) ((((I 34) 4) - (nI 1)).toNatClampNeg)) → ((w2 < 0 → (am_cl 45 [.ref 0, .int ((I 36) ((((I 34) 4) - (nI 1)).toNatClampNeg))] E (u_I I 34 (upd (I 34) 4 (((I 34) 4) - (nI 1)))) J S (q_V fun E3 I3 J3 S3 => vp_in ((I3 34) 4) 40 ∧ (am_ww 44 59 [.ref 0, .ref 34, .int w2] [] E3 (u_I I3 19 (upd (upd (I3 19) 2 ((I3 37) (((I3 34) 4).toNatClampNeg))) 1 ((I3 38) (((I3 34) 4).toNatClampNeg)))) J3 S3 Q)))) ∧ (¬ w2 < 0 → (((nI 3) ≤ w2 → (am_cl 45 [.ref 0, .int ((I 36) ((((I 34) 4) - (nI 1)).toNatClampNeg))] E (u_I I 34 (upd (I 34) 4 (((I 34) 4) - (nI 1)))) J S (q_V fun E5 I5 J5 S5 => vp_in ((I5 34) 4) 40 ∧ (am_ww 44 59 [.ref 0, .ref 34, .int w2] [] E5 (u_I I5 19 (upd (upd (I5 19) 2 ((I5 37) (((I5 34) 4).toNatClampNeg))) 1 ((I5 38) (((I5 34) 4).toNatClampNeg)))) J5 S5 Q)))) ∧ (¬ (nI 3) ≤ w2 → (vp_in w2 3 ∧ (am_ww 44 59 [.ref 0, .ref 34, .int w2] [] E (u_I (u_I I 34 (upd (I 34) 4 (((I 34) 4) - (nI 1)))) 28 (upd (I 28) w2.toNatClampNeg (((I 28) w2.toNatClampNeg) - (nI 1)))) J S Q)))))))))) : am_ww 44 0 [.ref 0, am_U, am_U] [] E I J S Q := by
  refine w_st (i' := 1) (ls' := [.ref 0, am_U, am_U]) (st' := [.ref 0]) (E' := E) (I' := I) (J' := J) (S' := S) am_e44 rfl rfl rfl rfl ?_
  refine w_st (i' := 2) (ls' := [.ref 0, am_U, am_U]) (st' := [.ref 18]) (E' := E) (I' := I) (J' := J) (S' := S) am_e44 rfl rfl rfl rfl ?_
  refine w_st (i' := 3) (ls' := [.ref 0, am_U, am_U]) (st' := [.ref 34]) (E' := E) (I' := I) (J' := J) (S' := S) am_e44 rfl rfl rfl rfl ?_
  refine w_st (i' := 4) (ls' := [.ref 0, .ref 34, am_U]) (st' := []) (E' := E) (I' := I) (J' := J) (S' := S) am_e44 rfl rfl rfl rfl ?_
  refine w_st (i' := 5) (ls' := [.ref 0, .ref 34, am_U]) (st' := [.ref 34]) (E' := E) (I' := I) (J' := J) (S' := S) am_e44 rfl rfl rfl rfl ?_
  refine w_st (i' := 6) (ls' := [.ref 0, .ref 34, am_U]) (st' := [.int ((I 34) 4)]) (E' := E) (I' := I) (J' := J) (S' := S) am_e44 rfl rfl rfl rfl ?_
  refine w_if1 am_e44 rfl rfl (fun c => ?_) (fun c => ?_)
  · replace h := h.2 (of_decide_eq_true c)
    refine w_st (i' := 10) (ls' := [.ref 0, .ref 34, am_U]) (st' := [.ref 34]) (E' := E) (I' := I) (J' := J) (S' := S) am_e44 rfl rfl rfl rfl ?_
    refine w_st (i' := 11) (ls' := [.ref 0, .ref 34, am_U]) (st' := [.ref 34, .ref 34]) (E' := E) (I' := I) (J' := J) (S' := S) am_e44 rfl rfl rfl rfl ?_
    refine w_st (i' := 12) (ls' := [.ref 0, .ref 34, am_U]) (st' := [.int ((I 34) 4), .ref 34]) (E' := E) (I' := I) (J' := J) (S' := S) am_e44 rfl rfl rfl rfl ?_
    refine w_st (i' := 13) (ls' := [.ref 0, .ref 34, am_U]) (st' := [.int (nI 1), .int ((I 34) 4), .ref 34]) (E' := E) (I' := I) (J' := J) (S' := S) am_e44 rfl rfl rfl rfl ?_
    refine w_st (i' := 14) (ls' := [.ref 0, .ref 34, am_U]) (st' := [.int (((I 34) 4) - (nI 1)), .ref 34]) (E' := E) (I' := I) (J' := J) (S' := S) am_e44 rfl rfl rfl rfl ?_
    refine w_st (i' := 15) (ls' := [.ref 0, .ref 34, am_U]) (st' := []) (E' := E) (I' := (u_I I 34 (upd (I 34) 4 (((I 34) 4) - (nI 1))))) (J' := J) (S' := S) am_e44 rfl rfl rfl rfl ?_
    refine w_st (i' := 16) (ls' := [.ref 0, .ref 34, am_U]) (st' := [.ref 34]) (E' := E) (I' := (u_I I 34 (upd (I 34) 4 (((I 34) 4) - (nI 1))))) (J' := J) (S' := S) am_e44 rfl rfl rfl rfl ?_
    refine w_st (i' := 17) (ls' := [.ref 0, .ref 34, am_U]) (st' := [.ref 35]) (E' := E) (I' := (u_I I 34 (upd (I 34) 4 (((I 34) 4) - (nI 1))))) (J' := J) (S' := S) am_e44 rfl rfl rfl rfl ?_
    refine w_st (i' := 18) (ls' := [.ref 0, .ref 34, am_U]) (st' := [.ref 34, .ref 35]) (E' := E) (I' := (u_I I 34 (upd (I 34) 4 (((I 34) 4) - (nI 1))))) (J' := J) (S' := S) am_e44 rfl rfl rfl rfl ?_
    refine w_st (i' := 19) (ls' := [.ref 0, .ref 34, am_U]) (st' := [.int (((I 34) 4) - (nI 1)), .ref 35]) (E' := E) (I' := (u_I I 34 (upd (I 34) 4 (((I 34) 4) - (nI 1))))) (J' := J) (S' := S) am_e44 rfl rfl rfl rfl ?_
    have hf1 := h.1
    replace h := h.2
    refine w_ia (k := 35) (n := 40) (jn := (((I 34) 4) - (nI 1)).toNatClampNeg) am_e44 rfl rfl (by decide) hf1 rfl ?_
    show am_ww 44 20 [.ref 0, .ref 34, am_U] [.int ((I 35) ((((I 34) 4) - (nI 1)).toNatClampNeg))] E (u_I I 34 (upd (I 34) 4 (((I 34) 4) - (nI 1)))) J S _
    refine w_st (i' := 21) (ls' := [.ref 0, .ref 34, .int ((I 35) ((((I 34) 4) - (nI 1)).toNatClampNeg))]) (st' := []) (E' := E) (I' := (u_I I 34 (upd (I 34) 4 (((I 34) 4) - (nI 1))))) (J' := J) (S' := S) am_e44 rfl rfl rfl rfl ?_
    refine w_var (fun w2 => am_ww 44 21 [.ref 0, .ref 34, .int w2] [] E (u_I I 34 (upd (I 34) 4 (((I 34) 4) - (nI 1)))) J S _) ((I 35) ((((I 34) 4) - (nI 1)).toNatClampNeg)) (fun w2 hw2 => ?_)
    replace h := h w2 hw2
    refine w_st (i' := 22) (ls' := [.ref 0, .ref 34, .int w2]) (st' := [.int w2]) (E' := E) (I' := (u_I I 34 (upd (I 34) 4 (((I 34) 4) - (nI 1))))) (J' := J) (S' := S) am_e44 rfl rfl rfl rfl ?_
    refine w_cI am_e44 rfl rfl (as := [.int w2]) (rest := []) rfl rfl ?_
    show am_ww 43 0 [.int w2] [] E (u_I I 34 (upd (I 34) 4 (((I 34) 4) - (nI 1)))) J S _
    refine w_st (i' := 1) (ls' := [.int w2]) (st' := [.int w2]) (E' := E) (I' := (u_I I 34 (upd (I 34) 4 (((I 34) 4) - (nI 1))))) (J' := J) (S' := S) am_e43 rfl rfl rfl rfl ?_
    refine w_if1 am_e43 rfl rfl (fun c => ?_) (fun c => ?_)
    · replace h := h.1 (of_decide_eq_true c)
      refine w_st (i' := 8) (ls' := [.int w2]) (st' := [.int (nI 0)]) (E' := E) (I' := (u_I I 34 (upd (I 34) 4 (((I 34) 4) - (nI 1))))) (J' := J) (S' := S) am_e43 rfl rfl rfl rfl ?_
      refine w_end (E' := E) (I' := (u_I I 34 (upd (I 34) 4 (((I 34) 4) - (nI 1))))) (J' := J) (S' := S) am_e43 rfl rfl rfl (q_mkI ?_)
      show am_ww 44 23 [.ref 0, .ref 34, .int w2] [.int (nI 0)] E (u_I I 34 (upd (I 34) 4 (((I 34) 4) - (nI 1)))) J S _
      refine w_st (i' := 34) (ls' := [.ref 0, .ref 34, .int w2]) (st' := []) (E' := E) (I' := (u_I I 34 (upd (I 34) 4 (((I 34) 4) - (nI 1))))) (J' := J) (S' := S) am_e44 rfl rfl rfl rfl ?_
      refine w_st (i' := 35) (ls' := [.ref 0, .ref 34, .int w2]) (st' := [.ref 0]) (E' := E) (I' := (u_I I 34 (upd (I 34) 4 (((I 34) 4) - (nI 1))))) (J' := J) (S' := S) am_e44 rfl rfl rfl rfl ?_
      refine w_st (i' := 36) (ls' := [.ref 0, .ref 34, .int w2]) (st' := [.ref 34, .ref 0]) (E' := E) (I' := (u_I I 34 (upd (I 34) 4 (((I 34) 4) - (nI 1))))) (J' := J) (S' := S) am_e44 rfl rfl rfl rfl ?_
      refine w_st (i' := 37) (ls' := [.ref 0, .ref 34, .int w2]) (st' := [.ref 36, .ref 0]) (E' := E) (I' := (u_I I 34 (upd (I 34) 4 (((I 34) 4) - (nI 1))))) (J' := J) (S' := S) am_e44 rfl rfl rfl rfl ?_
      refine w_st (i' := 38) (ls' := [.ref 0, .ref 34, .int w2]) (st' := [.ref 34, .ref 36, .ref 0]) (E' := E) (I' := (u_I I 34 (upd (I 34) 4 (((I 34) 4) - (nI 1))))) (J' := J) (S' := S) am_e44 rfl rfl rfl rfl ?_
      refine w_st (i' := 39) (ls' := [.ref 0, .ref 34, .int w2]) (st' := [.int (((I 34) 4) - (nI 1)), .ref 36, .ref 0]) (E' := E) (I' := (u_I I 34 (upd (I 34) 4 (((I 34) 4) - (nI 1))))) (J' := J) (S' := S) am_e44 rfl rfl rfl rfl ?_
      refine w_ia (k := 36) (n := 40) (jn := (((I 34) 4) - (nI 1)).toNatClampNeg) am_e44 rfl rfl (by decide) hf1 rfl ?_
      show am_ww 44 40 [.ref 0, .ref 34, .int w2] [.int ((I 36) ((((I 34) 4) - (nI 1)).toNatClampNeg)), .ref 0] E (u_I I 34 (upd (I 34) 4 (((I 34) 4) - (nI 1)))) J S _
      refine w_cV am_e44 rfl rfl (as := [.ref 0, .int ((I 36) ((((I 34) 4) - (nI 1)).toNatClampNeg))]) (rest := []) rfl rfl (am_ww.mono h ?_)
      rintro _ E3 I3 J3 S3 ⟨rfl, h⟩
      refine q_mkV ?_
      refine w_st (i' := 42) (ls' := [.ref 0, .ref 34, .int w2]) (st' := [.ref 0]) (E' := E3) (I' := I3) (J' := J3) (S' := S3) am_e44 rfl rfl rfl rfl ?_
      refine w_st (i' := 43) (ls' := [.ref 0, .ref 34, .int w2]) (st' := [.ref 18]) (E' := E3) (I' := I3) (J' := J3) (S' := S3) am_e44 rfl rfl rfl rfl ?_
      refine w_st (i' := 44) (ls' := [.ref 0, .ref 34, .int w2]) (st' := [.ref 19]) (E' := E3) (I' := I3) (J' := J3) (S' := S3) am_e44 rfl rfl rfl rfl ?_
      refine w_st (i' := 45) (ls' := [.ref 0, .ref 34, .int w2]) (st' := [.ref 34, .ref 19]) (E' := E3) (I' := I3) (J' := J3) (S' := S3) am_e44 rfl rfl rfl rfl ?_
      refine w_st (i' := 46) (ls' := [.ref 0, .ref 34, .int w2]) (st' := [.ref 37, .ref 19]) (E' := E3) (I' := I3) (J' := J3) (S' := S3) am_e44 rfl rfl rfl rfl ?_
      refine w_st (i' := 47) (ls' := [.ref 0, .ref 34, .int w2]) (st' := [.ref 34, .ref 37, .ref 19]) (E' := E3) (I' := I3) (J' := J3) (S' := S3) am_e44 rfl rfl rfl rfl ?_
      refine w_st (i' := 48) (ls' := [.ref 0, .ref 34, .int w2]) (st' := [.int ((I3 34) 4), .ref 37, .ref 19]) (E' := E3) (I' := I3) (J' := J3) (S' := S3) am_e44 rfl rfl rfl rfl ?_
      have hf4 := h.1
      replace h := h.2
      refine w_ia (k := 37) (n := 40) (jn := ((I3 34) 4).toNatClampNeg) am_e44 rfl rfl (by decide) hf4 rfl ?_
      refine w_st (i' := 50) (ls' := [.ref 0, .ref 34, .int w2]) (st' := []) (E' := E3) (I' := (u_I I3 19 (upd (I3 19) 2 ((I3 37) (((I3 34) 4).toNatClampNeg))))) (J' := J3) (S' := S3) am_e44 rfl rfl rfl rfl ?_
      refine w_st (i' := 51) (ls' := [.ref 0, .ref 34, .int w2]) (st' := [.ref 0]) (E' := E3) (I' := (u_I I3 19 (upd (I3 19) 2 ((I3 37) (((I3 34) 4).toNatClampNeg))))) (J' := J3) (S' := S3) am_e44 rfl rfl rfl rfl ?_
      refine w_st (i' := 52) (ls' := [.ref 0, .ref 34, .int w2]) (st' := [.ref 18]) (E' := E3) (I' := (u_I I3 19 (upd (I3 19) 2 ((I3 37) (((I3 34) 4).toNatClampNeg))))) (J' := J3) (S' := S3) am_e44 rfl rfl rfl rfl ?_
      refine w_st (i' := 53) (ls' := [.ref 0, .ref 34, .int w2]) (st' := [.ref 19]) (E' := E3) (I' := (u_I I3 19 (upd (I3 19) 2 ((I3 37) (((I3 34) 4).toNatClampNeg))))) (J' := J3) (S' := S3) am_e44 rfl rfl rfl rfl ?_
      refine w_st (i' := 54) (ls' := [.ref 0, .ref 34, .int w2]) (st' := [.ref 34, .ref 19]) (E' := E3) (I' := (u_I I3 19 (upd (I3 19) 2 ((I3 37) (((I3 34) 4).toNatClampNeg))))) (J' := J3) (S' := S3) am_e44 rfl rfl rfl rfl ?_
      refine w_st (i' := 55) (ls' := [.ref 0, .ref 34, .int w2]) (st' := [.ref 38, .ref 19]) (E' := E3) (I' := (u_I I3 19 (upd (I3 19) 2 ((I3 37) (((I3 34) 4).toNatClampNeg))))) (J' := J3) (S' := S3) am_e44 rfl rfl rfl rfl ?_
      refine w_st (i' := 56) (ls' := [.ref 0, .ref 34, .int w2]) (st' := [.ref 34, .ref 38, .ref 19]) (E' := E3) (I' := (u_I I3 19 (upd (I3 19) 2 ((I3 37) (((I3 34) 4).toNatClampNeg))))) (J' := J3) (S' := S3) am_e44 rfl rfl rfl rfl ?_
      refine w_st (i' := 57) (ls' := [.ref 0, .ref 34, .int w2]) (st' := [.int ((I3 34) 4), .ref 38, .ref 19]) (E' := E3) (I' := (u_I I3 19 (upd (I3 19) 2 ((I3 37) (((I3 34) 4).toNatClampNeg))))) (J' := J3) (S' := S3) am_e44 rfl rfl rfl rfl ?_
      refine w_ia (k := 38) (n := 40) (jn := ((I3 34) 4).toNatClampNeg) am_e44 rfl rfl (by decide) hf4 rfl ?_
      show am_ww 44 58 [.ref 0, .ref 34, .int w2] [.int ((I3 38) (((I3 34) 4).toNatClampNeg)), .ref 19] E3 (u_I I3 19 (upd (I3 19) 2 ((I3 37) (((I3 34) 4).toNatClampNeg)))) J3 S3 _
      refine w_st (i' := 59) (ls' := [.ref 0, .ref 34, .int w2]) (st' := []) (E' := E3) (I' := (u_I (u_I I3 19 (upd (I3 19) 2 ((I3 37) (((I3 34) 4).toNatClampNeg)))) 19 (upd (upd (I3 19) 2 ((I3 37) (((I3 34) 4).toNatClampNeg))) 1 ((I3 38) (((I3 34) 4).toNatClampNeg))))) (J' := J3) (S' := S3) am_e44 rfl rfl rfl rfl ?_
      refine w_eI (uI_0 ..) ?_
      show am_ww 44 59 [.ref 0, .ref 34, .int w2] [] E3 (u_I I3 19 (upd (upd (I3 19) 2 ((I3 37) (((I3 34) 4).toNatClampNeg))) 1 ((I3 38) (((I3 34) 4).toNatClampNeg)))) J3 S3 _
      exact h
    · replace h := h.2 (of_decide_eq_false c)
      refine w_st (i' := 3) (ls' := [.int w2]) (st' := [.int w2]) (E' := E) (I' := (u_I I 34 (upd (I 34) 4 (((I 34) 4) - (nI 1))))) (J' := J) (S' := S) am_e43 rfl rfl rfl rfl ?_
      refine w_st (i' := 4) (ls' := [.int w2]) (st' := [.int (nI 3), .int w2]) (E' := E) (I' := (u_I I 34 (upd (I 34) 4 (((I 34) 4) - (nI 1))))) (J' := J) (S' := S) am_e43 rfl rfl rfl rfl ?_
      refine w_if2 am_e43 rfl rfl (fun c => ?_) (fun c => ?_)
      · replace h := h.1 (of_decide_eq_true c)
        refine w_st (i' := 8) (ls' := [.int w2]) (st' := [.int (nI 0)]) (E' := E) (I' := (u_I I 34 (upd (I 34) 4 (((I 34) 4) - (nI 1))))) (J' := J) (S' := S) am_e43 rfl rfl rfl rfl ?_
        refine w_end (E' := E) (I' := (u_I I 34 (upd (I 34) 4 (((I 34) 4) - (nI 1))))) (J' := J) (S' := S) am_e43 rfl rfl rfl (q_mkI ?_)
        show am_ww 44 23 [.ref 0, .ref 34, .int w2] [.int (nI 0)] E (u_I I 34 (upd (I 34) 4 (((I 34) 4) - (nI 1)))) J S _
        refine w_st (i' := 34) (ls' := [.ref 0, .ref 34, .int w2]) (st' := []) (E' := E) (I' := (u_I I 34 (upd (I 34) 4 (((I 34) 4) - (nI 1))))) (J' := J) (S' := S) am_e44 rfl rfl rfl rfl ?_
        refine w_st (i' := 35) (ls' := [.ref 0, .ref 34, .int w2]) (st' := [.ref 0]) (E' := E) (I' := (u_I I 34 (upd (I 34) 4 (((I 34) 4) - (nI 1))))) (J' := J) (S' := S) am_e44 rfl rfl rfl rfl ?_
        refine w_st (i' := 36) (ls' := [.ref 0, .ref 34, .int w2]) (st' := [.ref 34, .ref 0]) (E' := E) (I' := (u_I I 34 (upd (I 34) 4 (((I 34) 4) - (nI 1))))) (J' := J) (S' := S) am_e44 rfl rfl rfl rfl ?_
        refine w_st (i' := 37) (ls' := [.ref 0, .ref 34, .int w2]) (st' := [.ref 36, .ref 0]) (E' := E) (I' := (u_I I 34 (upd (I 34) 4 (((I 34) 4) - (nI 1))))) (J' := J) (S' := S) am_e44 rfl rfl rfl rfl ?_
        refine w_st (i' := 38) (ls' := [.ref 0, .ref 34, .int w2]) (st' := [.ref 34, .ref 36, .ref 0]) (E' := E) (I' := (u_I I 34 (upd (I 34) 4 (((I 34) 4) - (nI 1))))) (J' := J) (S' := S) am_e44 rfl rfl rfl rfl ?_
        refine w_st (i' := 39) (ls' := [.ref 0, .ref 34, .int w2]) (st' := [.int (((I 34) 4) - (nI 1)), .ref 36, .ref 0]) (E' := E) (I' := (u_I I 34 (upd (I 34) 4 (((I 34) 4) - (nI 1))))) (J' := J) (S' := S) am_e44 rfl rfl rfl rfl ?_
        refine w_ia (k := 36) (n := 40) (jn := (((I 34) 4) - (nI 1)).toNatClampNeg) am_e44 rfl rfl (by decide) hf1 rfl ?_
        show am_ww 44 40 [.ref 0, .ref 34, .int w2] [.int ((I 36) ((((I 34) 4) - (nI 1)).toNatClampNeg)), .ref 0] E (u_I I 34 (upd (I 34) 4 (((I 34) 4) - (nI 1)))) J S _
        refine w_cV am_e44 rfl rfl (as := [.ref 0, .int ((I 36) ((((I 34) 4) - (nI 1)).toNatClampNeg))]) (rest := []) rfl rfl (am_ww.mono h ?_)
        rintro _ E5 I5 J5 S5 ⟨rfl, h⟩
        refine q_mkV ?_
        refine w_st (i' := 42) (ls' := [.ref 0, .ref 34, .int w2]) (st' := [.ref 0]) (E' := E5) (I' := I5) (J' := J5) (S' := S5) am_e44 rfl rfl rfl rfl ?_
        refine w_st (i' := 43) (ls' := [.ref 0, .ref 34, .int w2]) (st' := [.ref 18]) (E' := E5) (I' := I5) (J' := J5) (S' := S5) am_e44 rfl rfl rfl rfl ?_
        refine w_st (i' := 44) (ls' := [.ref 0, .ref 34, .int w2]) (st' := [.ref 19]) (E' := E5) (I' := I5) (J' := J5) (S' := S5) am_e44 rfl rfl rfl rfl ?_
        refine w_st (i' := 45) (ls' := [.ref 0, .ref 34, .int w2]) (st' := [.ref 34, .ref 19]) (E' := E5) (I' := I5) (J' := J5) (S' := S5) am_e44 rfl rfl rfl rfl ?_
        refine w_st (i' := 46) (ls' := [.ref 0, .ref 34, .int w2]) (st' := [.ref 37, .ref 19]) (E' := E5) (I' := I5) (J' := J5) (S' := S5) am_e44 rfl rfl rfl rfl ?_
        refine w_st (i' := 47) (ls' := [.ref 0, .ref 34, .int w2]) (st' := [.ref 34, .ref 37, .ref 19]) (E' := E5) (I' := I5) (J' := J5) (S' := S5) am_e44 rfl rfl rfl rfl ?_
        refine w_st (i' := 48) (ls' := [.ref 0, .ref 34, .int w2]) (st' := [.int ((I5 34) 4), .ref 37, .ref 19]) (E' := E5) (I' := I5) (J' := J5) (S' := S5) am_e44 rfl rfl rfl rfl ?_
        have hf6 := h.1
        replace h := h.2
        refine w_ia (k := 37) (n := 40) (jn := ((I5 34) 4).toNatClampNeg) am_e44 rfl rfl (by decide) hf6 rfl ?_
        refine w_st (i' := 50) (ls' := [.ref 0, .ref 34, .int w2]) (st' := []) (E' := E5) (I' := (u_I I5 19 (upd (I5 19) 2 ((I5 37) (((I5 34) 4).toNatClampNeg))))) (J' := J5) (S' := S5) am_e44 rfl rfl rfl rfl ?_
        refine w_st (i' := 51) (ls' := [.ref 0, .ref 34, .int w2]) (st' := [.ref 0]) (E' := E5) (I' := (u_I I5 19 (upd (I5 19) 2 ((I5 37) (((I5 34) 4).toNatClampNeg))))) (J' := J5) (S' := S5) am_e44 rfl rfl rfl rfl ?_
        refine w_st (i' := 52) (ls' := [.ref 0, .ref 34, .int w2]) (st' := [.ref 18]) (E' := E5) (I' := (u_I I5 19 (upd (I5 19) 2 ((I5 37) (((I5 34) 4).toNatClampNeg))))) (J' := J5) (S' := S5) am_e44 rfl rfl rfl rfl ?_
        refine w_st (i' := 53) (ls' := [.ref 0, .ref 34, .int w2]) (st' := [.ref 19]) (E' := E5) (I' := (u_I I5 19 (upd (I5 19) 2 ((I5 37) (((I5 34) 4).toNatClampNeg))))) (J' := J5) (S' := S5) am_e44 rfl rfl rfl rfl ?_
        refine w_st (i' := 54) (ls' := [.ref 0, .ref 34, .int w2]) (st' := [.ref 34, .ref 19]) (E' := E5) (I' := (u_I I5 19 (upd (I5 19) 2 ((I5 37) (((I5 34) 4).toNatClampNeg))))) (J' := J5) (S' := S5) am_e44 rfl rfl rfl rfl ?_
        refine w_st (i' := 55) (ls' := [.ref 0, .ref 34, .int w2]) (st' := [.ref 38, .ref 19]) (E' := E5) (I' := (u_I I5 19 (upd (I5 19) 2 ((I5 37) (((I5 34) 4).toNatClampNeg))))) (J' := J5) (S' := S5) am_e44 rfl rfl rfl rfl ?_
        refine w_st (i' := 56) (ls' := [.ref 0, .ref 34, .int w2]) (st' := [.ref 34, .ref 38, .ref 19]) (E' := E5) (I' := (u_I I5 19 (upd (I5 19) 2 ((I5 37) (((I5 34) 4).toNatClampNeg))))) (J' := J5) (S' := S5) am_e44 rfl rfl rfl rfl ?_
        refine w_st (i' := 57) (ls' := [.ref 0, .ref 34, .int w2]) (st' := [.int ((I5 34) 4), .ref 38, .ref 19]) (E' := E5) (I' := (u_I I5 19 (upd (I5 19) 2 ((I5 37) (((I5 34) 4).toNatClampNeg))))) (J' := J5) (S' := S5) am_e44 rfl rfl rfl rfl ?_
        refine w_ia (k := 38) (n := 40) (jn := ((I5 34) 4).toNatClampNeg) am_e44 rfl rfl (by decide) hf6 rfl ?_
        show am_ww 44 58 [.ref 0, .ref 34, .int w2] [.int ((I5 38) (((I5 34) 4).toNatClampNeg)), .ref 19] E5 (u_I I5 19 (upd (I5 19) 2 ((I5 37) (((I5 34) 4).toNatClampNeg)))) J5 S5 _
        refine w_st (i' := 59) (ls' := [.ref 0, .ref 34, .int w2]) (st' := []) (E' := E5) (I' := (u_I (u_I I5 19 (upd (I5 19) 2 ((I5 37) (((I5 34) 4).toNatClampNeg)))) 19 (upd (upd (I5 19) 2 ((I5 37) (((I5 34) 4).toNatClampNeg))) 1 ((I5 38) (((I5 34) 4).toNatClampNeg))))) (J' := J5) (S' := S5) am_e44 rfl rfl rfl rfl ?_
        refine w_eI (uI_0 ..) ?_
        show am_ww 44 59 [.ref 0, .ref 34, .int w2] [] E5 (u_I I5 19 (upd (upd (I5 19) 2 ((I5 37) (((I5 34) 4).toNatClampNeg))) 1 ((I5 38) (((I5 34) 4).toNatClampNeg)))) J5 S5 _
        exact h
      · replace h := h.2 (of_decide_eq_false c)
        refine w_st (i' := 6) (ls' := [.int w2]) (st' := [.int (nI 1)]) (E' := E) (I' := (u_I I 34 (upd (I 34) 4 (((I 34) 4) - (nI 1))))) (J' := J) (S' := S) am_e43 rfl rfl rfl rfl ?_
        refine w_st (i' := 8) (ls' := [.int w2]) (st' := [.int (nI 1)]) (E' := E) (I' := (u_I I 34 (upd (I 34) 4 (((I 34) 4) - (nI 1))))) (J' := J) (S' := S) am_e43 rfl rfl rfl rfl ?_
        refine w_end (E' := E) (I' := (u_I I 34 (upd (I 34) 4 (((I 34) 4) - (nI 1))))) (J' := J) (S' := S) am_e43 rfl rfl rfl (q_mkI ?_)
        show am_ww 44 23 [.ref 0, .ref 34, .int w2] [.int (nI 1)] E (u_I I 34 (upd (I 34) 4 (((I 34) 4) - (nI 1)))) J S _
        refine w_st (i' := 24) (ls' := [.ref 0, .ref 34, .int w2]) (st' := []) (E' := E) (I' := (u_I I 34 (upd (I 34) 4 (((I 34) 4) - (nI 1))))) (J' := J) (S' := S) am_e44 rfl rfl rfl rfl ?_
        refine w_st (i' := 25) (ls' := [.ref 0, .ref 34, .int w2]) (st' := [.ref 0]) (E' := E) (I' := (u_I I 34 (upd (I 34) 4 (((I 34) 4) - (nI 1))))) (J' := J) (S' := S) am_e44 rfl rfl rfl rfl ?_
        refine w_st (i' := 26) (ls' := [.ref 0, .ref 34, .int w2]) (st' := [.ref 18]) (E' := E) (I' := (u_I I 34 (upd (I 34) 4 (((I 34) 4) - (nI 1))))) (J' := J) (S' := S) am_e44 rfl rfl rfl rfl ?_
        refine w_st (i' := 27) (ls' := [.ref 0, .ref 34, .int w2]) (st' := [.ref 28]) (E' := E) (I' := (u_I I 34 (upd (I 34) 4 (((I 34) 4) - (nI 1))))) (J' := J) (S' := S) am_e44 rfl rfl rfl rfl ?_
        refine w_st (i' := 28) (ls' := [.ref 0, .ref 34, .int w2]) (st' := [.int w2, .ref 28]) (E' := E) (I' := (u_I I 34 (upd (I 34) 4 (((I 34) 4) - (nI 1))))) (J' := J) (S' := S) am_e44 rfl rfl rfl rfl ?_
        refine w_st (i' := 29) (ls' := [.ref 0, .ref 34, .int w2]) (st' := [.int w2, .ref 28, .int w2, .ref 28]) (E' := E) (I' := (u_I I 34 (upd (I 34) 4 (((I 34) 4) - (nI 1))))) (J' := J) (S' := S) am_e44 rfl rfl rfl rfl ?_
        have hf7 := h.1
        replace h := h.2
        refine w_ia (k := 28) (n := 3) (jn := w2.toNatClampNeg) am_e44 rfl rfl (by decide) hf7 rfl ?_
        show am_ww 44 30 [.ref 0, .ref 34, .int w2] [.int ((I 28) w2.toNatClampNeg), .int w2, .ref 28] E (u_I I 34 (upd (I 34) 4 (((I 34) 4) - (nI 1)))) J S _
        refine w_st (i' := 31) (ls' := [.ref 0, .ref 34, .int w2]) (st' := [.int (nI 1), .int ((I 28) w2.toNatClampNeg), .int w2, .ref 28]) (E' := E) (I' := (u_I I 34 (upd (I 34) 4 (((I 34) 4) - (nI 1))))) (J' := J) (S' := S) am_e44 rfl rfl rfl rfl ?_
        refine w_st (i' := 32) (ls' := [.ref 0, .ref 34, .int w2]) (st' := [.int (((I 28) w2.toNatClampNeg) - (nI 1)), .int w2, .ref 28]) (E' := E) (I' := (u_I I 34 (upd (I 34) 4 (((I 34) 4) - (nI 1))))) (J' := J) (S' := S) am_e44 rfl rfl rfl rfl ?_
        refine w_is (k := 28) (n := 3) (jn := w2.toNatClampNeg) am_e44 rfl rfl (by decide) hf7 rfl ?_
        show am_ww 44 33 [.ref 0, .ref 34, .int w2] [] E (u_I (u_I I 34 (upd (I 34) 4 (((I 34) 4) - (nI 1)))) 28 (upd (I 28) w2.toNatClampNeg (((I 28) w2.toNatClampNeg) - (nI 1)))) J S _
        refine w_st (i' := 59) (ls' := [.ref 0, .ref 34, .int w2]) (st' := []) (E' := E) (I' := (u_I (u_I I 34 (upd (I 34) 4 (((I 34) 4) - (nI 1)))) 28 (upd (I 28) w2.toNatClampNeg (((I 28) w2.toNatClampNeg) - (nI 1))))) (J' := J) (S' := S) am_e44 rfl rfl rfl rfl ?_
        exact h
  · replace h := h.1 (Decidable.not_not.mp (of_decide_eq_false c))
    refine w_st (i' := 8) (ls' := [.ref 0, .ref 34, am_U]) (st' := [.int (-1)]) (E' := E) (I' := I) (J' := J) (S' := S) am_e44 rfl rfl rfl rfl ?_
    exact w_end am_e44 rfl rfl rfl h
theorem g44_59 {d2 : Value} {E : am_Ev} {I : Nat → Nat → Int32} {J : Nat → Nat → Int64} {S : Nat → Nat → Option Nat} {Q : am_Qt} (hd2 : am_isL d2 = false) (h : am_cl 41 [.ref 0] E (u_I I 18 (upd (I 18) 11 (if ((I 18) 10) < ((I 18) 11) then ((I 18) 10) else ((I 18) 11)))) J S (q_V fun E1 I1 J1 S1 => Q (.inl (some (.int ((I1 34) 4)))) E1 I1 J1 S1)) : am_ww 44 59 [.ref 0, .ref 34, d2] [] E I J S Q := by
  refine w_st (i' := 60) (ls' := [.ref 0, .ref 34, d2]) (st' := [.ref 0]) (E' := E) (I' := I) (J' := J) (S' := S) am_e44 rfl rfl rfl rfl ?_
  refine w_st (i' := 61) (ls' := [.ref 0, .ref 34, d2]) (st' := [.ref 18]) (E' := E) (I' := I) (J' := J) (S' := S) am_e44 rfl rfl rfl rfl ?_
  refine w_st (i' := 62) (ls' := [.ref 0, .ref 34, d2]) (st' := [.ref 0, .ref 18]) (E' := E) (I' := I) (J' := J) (S' := S) am_e44 rfl rfl rfl rfl ?_
  refine w_st (i' := 63) (ls' := [.ref 0, .ref 34, d2]) (st' := [.ref 18, .ref 18]) (E' := E) (I' := I) (J' := J) (S' := S) am_e44 rfl rfl rfl rfl ?_
  refine w_st (i' := 64) (ls' := [.ref 0, .ref 34, d2]) (st' := [.int ((I 18) 11), .ref 18]) (E' := E) (I' := I) (J' := J) (S' := S) am_e44 rfl rfl rfl rfl ?_
  refine w_st (i' := 65) (ls' := [.ref 0, .ref 34, d2]) (st' := [.ref 0, .int ((I 18) 11), .ref 18]) (E' := E) (I' := I) (J' := J) (S' := S) am_e44 rfl rfl rfl rfl ?_
  refine w_st (i' := 66) (ls' := [.ref 0, .ref 34, d2]) (st' := [.ref 18, .int ((I 18) 11), .ref 18]) (E' := E) (I' := I) (J' := J) (S' := S) am_e44 rfl rfl rfl rfl ?_
  refine w_st (i' := 67) (ls' := [.ref 0, .ref 34, d2]) (st' := [.int ((I 18) 10), .int ((I 18) 11), .ref 18]) (E' := E) (I' := I) (J' := J) (S' := S) am_e44 rfl rfl rfl rfl ?_
  refine w_st (i' := 68) (ls' := [.ref 0, .ref 34, d2]) (st' := [.int (if ((I 18) 10) < ((I 18) 11) then ((I 18) 10) else ((I 18) 11)), .ref 18]) (E' := E) (I' := I) (J' := J) (S' := S) am_e44 rfl rfl rfl rfl ?_
  refine w_st (i' := 69) (ls' := [.ref 0, .ref 34, d2]) (st' := []) (E' := E) (I' := (u_I I 18 (upd (I 18) 11 (if ((I 18) 10) < ((I 18) 11) then ((I 18) 10) else ((I 18) 11))))) (J' := J) (S' := S) am_e44 rfl rfl rfl rfl ?_
  refine w_st (i' := 70) (ls' := [.ref 0, .ref 34, d2]) (st' := [.ref 0]) (E' := E) (I' := (u_I I 18 (upd (I 18) 11 (if ((I 18) 10) < ((I 18) 11) then ((I 18) 10) else ((I 18) 11))))) (J' := J) (S' := S) am_e44 rfl rfl rfl rfl ?_
  refine w_cV am_e44 rfl rfl (as := [.ref 0]) (rest := []) rfl rfl (am_ww.mono h ?_)
  rintro _ E1 I1 J1 S1 ⟨rfl, h⟩
  refine q_mkV ?_
  refine w_st (i' := 72) (ls' := [.ref 0, .ref 34, d2]) (st' := [.ref 34]) (E' := E1) (I' := I1) (J' := J1) (S' := S1) am_e44 rfl rfl rfl rfl ?_
  refine w_st (i' := 73) (ls' := [.ref 0, .ref 34, d2]) (st' := [.int ((I1 34) 4)]) (E' := E1) (I' := I1) (J' := J1) (S' := S1) am_e44 rfl rfl rfl rfl ?_
  exact w_ri am_e44 rfl rfl h
-- 51 mark
theorem g51_0  {E : am_Ev} {I : Nat → Nat → Int32} {J : Nat → Nat → Int64} {S : Nat → Nat → Option Nat} {Q : am_Qt}  (h : am_cl 52 [.ref 0, .int ((I 18) 11)] E I J S (q_R fun a E1 I1 J1 S1 => a = 61 ∧ (am_cl 40 [.ref 61, .ref 12] E1 I1 J1 S1 (q_I fun v2 E2 I2 J2 S2 => Q (.inl (some (.int v2))) E2 I2 J2 S2)))) : am_ww 51 0 [.ref 0] [] E I J S Q := by
  refine w_st (i' := 1) (ls' := [.ref 0]) (st' := [.ref 0]) (E' := E) (I' := I) (J' := J) (S' := S) am_e51 rfl rfl rfl rfl ?_
  refine w_st (i' := 2) (ls' := [.ref 0]) (st' := [.ref 0, .ref 0]) (E' := E) (I' := I) (J' := J) (S' := S) am_e51 rfl rfl rfl rfl ?_
  refine w_st (i' := 3) (ls' := [.ref 0]) (st' := [.ref 18, .ref 0]) (E' := E) (I' := I) (J' := J) (S' := S) am_e51 rfl rfl rfl rfl ?_
  refine w_st (i' := 4) (ls' := [.ref 0]) (st' := [.int ((I 18) 11), .ref 0]) (E' := E) (I' := I) (J' := J) (S' := S) am_e51 rfl rfl rfl rfl ?_
  refine w_cR am_e51 rfl rfl (as := [.ref 0, .int ((I 18) 11)]) (rest := []) rfl rfl (am_ww.mono h ?_)
  rintro _ E1 I1 J1 S1 ⟨_, rfl, rfl, h⟩
  refine q_mkR ?_
  refine w_st (i' := 6) (ls' := [.ref 0]) (st' := [.ref 0, .ref 61]) (E' := E1) (I' := I1) (J' := J1) (S' := S1) am_e51 rfl rfl rfl rfl ?_
  refine w_st (i' := 7) (ls' := [.ref 0]) (st' := [.ref 12, .ref 61]) (E' := E1) (I' := I1) (J' := J1) (S' := S1) am_e51 rfl rfl rfl rfl ?_
  refine w_cI am_e51 rfl rfl (as := [.ref 61, .ref 12]) (rest := []) rfl rfl (am_ww.mono h ?_)
  rintro _ E2 I2 J2 S2 ⟨v2, rfl, h⟩
  refine q_mkI ?_
  exact w_ri am_e51 rfl rfl h
-- 53 image
theorem g53_0  {E : am_Ev} {I : Nat → Nat → Int32} {J : Nat → Nat → Int64} {S : Nat → Nat → Option Nat} {Q : am_Qt}  (h : am_cl 54 [.ref 39, .ref 18] E I J S (q_V fun E1 I1 J1 S1 => Q (.inl none) E1 (u_I I1 0 (upd (I1 0) 13 (nI 1))) J1 S1)) : am_ww 53 0 [.ref 0] [] E I J S Q := by
  refine w_st (i' := 1) (ls' := [.ref 0]) (st' := [.ref 0]) (E' := E) (I' := I) (J' := J) (S' := S) am_e53 rfl rfl rfl rfl ?_
  refine w_st (i' := 2) (ls' := [.ref 0]) (st' := [.ref 39]) (E' := E) (I' := I) (J' := J) (S' := S) am_e53 rfl rfl rfl rfl ?_
  refine w_st (i' := 3) (ls' := [.ref 0]) (st' := [.ref 0, .ref 39]) (E' := E) (I' := I) (J' := J) (S' := S) am_e53 rfl rfl rfl rfl ?_
  refine w_st (i' := 4) (ls' := [.ref 0]) (st' := [.ref 18, .ref 39]) (E' := E) (I' := I) (J' := J) (S' := S) am_e53 rfl rfl rfl rfl ?_
  refine w_cV am_e53 rfl rfl (as := [.ref 39, .ref 18]) (rest := []) rfl rfl (am_ww.mono h ?_)
  rintro _ E1 I1 J1 S1 ⟨rfl, h⟩
  refine q_mkV ?_
  refine w_st (i' := 6) (ls' := [.ref 0]) (st' := [.ref 0]) (E' := E1) (I' := I1) (J' := J1) (S' := S1) am_e53 rfl rfl rfl rfl ?_
  refine w_st (i' := 7) (ls' := [.ref 0]) (st' := [.int (nI 1), .ref 0]) (E' := E1) (I' := I1) (J' := J1) (S' := S1) am_e53 rfl rfl rfl rfl ?_
  refine w_st (i' := 8) (ls' := [.ref 0]) (st' := []) (E' := E1) (I' := (u_I I1 0 (upd (I1 0) 13 (nI 1)))) (J' := J1) (S' := S1) am_e53 rfl rfl rfl rfl ?_
  exact w_end am_e53 rfl rfl rfl h
-- 57 restore
theorem g57_0  {E : am_Ev} {I : Nat → Nat → Int32} {J : Nat → Nat → Int64} {S : Nat → Nat → Option Nat} {Q : am_Qt}  (h : (((I 0) 13) = 0 → (Q (.inl (some (.int (nI 0)))) E I J S)) ∧ (¬ ((I 0) 13) = 0 → (am_cl 54 [.ref 18, .ref 39] E I J S (q_V fun E1 I1 J1 S1 => am_cl 41 [.ref 0] E1 I1 J1 S1 (q_V fun E2 I2 J2 S2 => Q (.inl (some (.int (nI 1)))) E2 I2 J2 S2))))) : am_ww 57 0 [.ref 0] [] E I J S Q := by
  refine w_st (i' := 1) (ls' := [.ref 0]) (st' := [.ref 0]) (E' := E) (I' := I) (J' := J) (S' := S) am_e57 rfl rfl rfl rfl ?_
  refine w_st (i' := 2) (ls' := [.ref 0]) (st' := [.int ((I 0) 13)]) (E' := E) (I' := I) (J' := J) (S' := S) am_e57 rfl rfl rfl rfl ?_
  refine w_if1 am_e57 rfl rfl (fun c => ?_) (fun c => ?_)
  · replace h := h.2 (of_decide_eq_true c)
    refine w_st (i' := 6) (ls' := [.ref 0]) (st' := [.ref 0]) (E' := E) (I' := I) (J' := J) (S' := S) am_e57 rfl rfl rfl rfl ?_
    refine w_st (i' := 7) (ls' := [.ref 0]) (st' := [.ref 18]) (E' := E) (I' := I) (J' := J) (S' := S) am_e57 rfl rfl rfl rfl ?_
    refine w_st (i' := 8) (ls' := [.ref 0]) (st' := [.ref 0, .ref 18]) (E' := E) (I' := I) (J' := J) (S' := S) am_e57 rfl rfl rfl rfl ?_
    refine w_st (i' := 9) (ls' := [.ref 0]) (st' := [.ref 39, .ref 18]) (E' := E) (I' := I) (J' := J) (S' := S) am_e57 rfl rfl rfl rfl ?_
    refine w_cV am_e57 rfl rfl (as := [.ref 18, .ref 39]) (rest := []) rfl rfl (am_ww.mono h ?_)
    rintro _ E1 I1 J1 S1 ⟨rfl, h⟩
    refine q_mkV ?_
    refine w_st (i' := 11) (ls' := [.ref 0]) (st' := [.ref 0]) (E' := E1) (I' := I1) (J' := J1) (S' := S1) am_e57 rfl rfl rfl rfl ?_
    refine w_cV am_e57 rfl rfl (as := [.ref 0]) (rest := []) rfl rfl (am_ww.mono h ?_)
    rintro _ E2 I2 J2 S2 ⟨rfl, h⟩
    refine q_mkV ?_
    refine w_st (i' := 13) (ls' := [.ref 0]) (st' := [.int (nI 1)]) (E' := E2) (I' := I2) (J' := J2) (S' := S2) am_e57 rfl rfl rfl rfl ?_
    exact w_end am_e57 rfl rfl rfl h
  · replace h := h.1 (Decidable.not_not.mp (of_decide_eq_false c))
    refine w_st (i' := 4) (ls' := [.ref 0]) (st' := [.int (nI 0)]) (E' := E) (I' := I) (J' := J) (S' := S) am_e57 rfl rfl rfl rfl ?_
    exact w_end am_e57 rfl rfl rfl h
