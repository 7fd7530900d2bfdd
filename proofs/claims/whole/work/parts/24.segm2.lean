/-! rows of methods, by program -/
-- 231 set
theorem g231_0 {p1 : Int32} {E : am_Ev} {I : Nat → Nat → Int32} {J : Nat → Nat → Int64} {S : Nat → Nat → Option Nat} {Q : am_Qt}  (h : (p1 < (nI 0) → (Q (.inl (some (.int (nI 0)))) E (u_I I 99 (upd (upd (I 99) 3 (nI 0)) 3 (nI 1))) J S)) ∧ (¬ p1 < (nI 0) → (((nI 3) < p1 → (Q (.inl (some (.int (nI 0)))) E (u_I I 99 (upd (upd (I 99) 3 (nI 0)) 3 (nI 1))) J S)) ∧ (¬ (nI 3) < p1 → (vp_in p1 10 ∧ (Q (.inl (some (.int ((I 103) p1.toNatClampNeg)))) E (u_I I 99 (upd (I 99) 3 (nI 0))) J S)))))) : am_ww 231 0 [.ref 99, .int p1] [] E I J S Q := by
  refine w_st (i' := 1) (ls' := [.ref 99, .int p1]) (st' := [.ref 99]) (E' := E) (I' := I) (J' := J) (S' := S) am_e231 rfl rfl rfl rfl ?_
  refine w_st (i' := 2) (ls' := [.ref 99, .int p1]) (st' := [.int (nI 0), .ref 99]) (E' := E) (I' := I) (J' := J) (S' := S) am_e231 rfl rfl rfl rfl ?_
  refine w_st (i' := 3) (ls' := [.ref 99, .int p1]) (st' := []) (E' := E) (I' := (u_I I 99 (upd (I 99) 3 (nI 0)))) (J' := J) (S' := S) am_e231 rfl rfl rfl rfl ?_
  refine w_st (i' := 4) (ls' := [.ref 99, .int p1]) (st' := [.int p1]) (E' := E) (I' := (u_I I 99 (upd (I 99) 3 (nI 0)))) (J' := J) (S' := S) am_e231 rfl rfl rfl rfl ?_
  refine w_st (i' := 5) (ls' := [.ref 99, .int p1]) (st' := [.int (nI 0), .int p1]) (E' := E) (I' := (u_I I 99 (upd (I 99) 3 (nI 0)))) (J' := J) (S' := S) am_e231 rfl rfl rfl rfl ?_
  refine w_st (i' := 6) (ls' := [.ref 99, .int p1]) (st' := [.int (nI 3), .int (nI 0), .int p1]) (E' := E) (I' := (u_I I 99 (upd (I 99) 3 (nI 0)))) (J' := J) (S' := S) am_e231 rfl rfl rfl rfl ?_
  refine w_cI am_e231 rfl rfl (as := [.int p1, .int (nI 0), .int (nI 3)]) (rest := []) rfl rfl ?_
  show am_ww 232 0 [.int p1, .int (nI 0), .int (nI 3)] [] E (u_I I 99 (upd (I 99) 3 (nI 0))) J S _
  refine w_st (i' := 1) (ls' := [.int p1, .int (nI 0), .int (nI 3)]) (st' := [.int p1]) (E' := E) (I' := (u_I I 99 (upd (I 99) 3 (nI 0)))) (J' := J) (S' := S) am_e232 rfl rfl rfl rfl ?_
  refine w_st (i' := 2) (ls' := [.int p1, .int (nI 0), .int (nI 3)]) (st' := [.int (nI 0), .int p1]) (E' := E) (I' := (u_I I 99 (upd (I 99) 3 (nI 0)))) (J' := J) (S' := S) am_e232 rfl rfl rfl rfl ?_
  refine w_if2 am_e232 rfl rfl (fun c => ?_) (fun c => ?_)
  · replace h := h.1 (of_decide_eq_true c)
    refine w_st (i' := 9) (ls' := [.int p1, .int (nI 0), .int (nI 3)]) (st' := [.int (nI 0)]) (E' := E) (I' := (u_I I 99 (upd (I 99) 3 (nI 0)))) (J' := J) (S' := S) am_e232 rfl rfl rfl rfl ?_
    refine w_end (E' := E) (I' := (u_I I 99 (upd (I 99) 3 (nI 0)))) (J' := J) (S' := S) am_e232 rfl rfl rfl (q_mkI ?_)
    show am_ww 231 7 [.ref 99, .int p1] [.int (nI 0)] E (u_I I 99 (upd (I 99) 3 (nI 0))) J S _
    refine w_st (i' := 13) (ls' := [.ref 99, .int p1]) (st' := []) (E' := E) (I' := (u_I I 99 (upd (I 99) 3 (nI 0)))) (J' := J) (S' := S) am_e231 rfl rfl rfl rfl ?_
    refine w_st (i' := 14) (ls' := [.ref 99, .int p1]) (st' := [.ref 99]) (E' := E) (I' := (u_I I 99 (upd (I 99) 3 (nI 0)))) (J' := J) (S' := S) am_e231 rfl rfl rfl rfl ?_
    refine w_st (i' := 15) (ls' := [.ref 99, .int p1]) (st' := [.int (nI 1), .ref 99]) (E' := E) (I' := (u_I I 99 (upd (I 99) 3 (nI 0)))) (J' := J) (S' := S) am_e231 rfl rfl rfl rfl ?_
    refine w_cI am_e231 rfl rfl (as := [.ref 99, .int (nI 1)]) (rest := []) rfl rfl ?_
    show am_ww 189 0 [.ref 99, .int (nI 1)] [] E (u_I I 99 (upd (I 99) 3 (nI 0))) J S _
    refine w_st (i' := 1) (ls' := [.ref 99, .int (nI 1)]) (st' := [.ref 99]) (E' := E) (I' := (u_I I 99 (upd (I 99) 3 (nI 0)))) (J' := J) (S' := S) am_e189 rfl rfl rfl rfl ?_
    refine w_st (i' := 2) (ls' := [.ref 99, .int (nI 1)]) (st' := [.int (nI 1), .ref 99]) (E' := E) (I' := (u_I I 99 (upd (I 99) 3 (nI 0)))) (J' := J) (S' := S) am_e189 rfl rfl rfl rfl ?_
    refine w_st (i' := 3) (ls' := [.ref 99, .int (nI 1)]) (st' := []) (E' := E) (I' := (u_I (u_I I 99 (upd (I 99) 3 (nI 0))) 99 (upd (upd (I 99) 3 (nI 0)) 3 (nI 1)))) (J' := J) (S' := S) am_e189 rfl rfl rfl rfl ?_
    refine w_eI (uI_0 ..) ?_
    show am_ww 189 3 [.ref 99, .int (nI 1)] [] E (u_I I 99 (upd (upd (I 99) 3 (nI 0)) 3 (nI 1))) J S _
    refine w_st (i' := 4) (ls' := [.ref 99, .int (nI 1)]) (st' := [.int (nI 0)]) (E' := E) (I' := (u_I I 99 (upd (upd (I 99) 3 (nI 0)) 3 (nI 1)))) (J' := J) (S' := S) am_e189 rfl rfl rfl rfl ?_
    refine w_end (E' := E) (I' := (u_I I 99 (upd (upd (I 99) 3 (nI 0)) 3 (nI 1)))) (J' := J) (S' := S) am_e189 rfl rfl rfl (q_mkI ?_)
    show am_ww 231 16 [.ref 99, .int p1] [.int (nI 0)] E (u_I I 99 (upd (upd (I 99) 3 (nI 0)) 3 (nI 1))) J S _
    exact w_end am_e231 rfl rfl rfl h
  · replace h := h.2 (of_decide_eq_false c)
    refine w_st (i' := 4) (ls' := [.int p1, .int (nI 0), .int (nI 3)]) (st' := [.int p1]) (E' := E) (I' := (u_I I 99 (upd (I 99) 3 (nI 0)))) (J' := J) (S' := S) am_e232 rfl rfl rfl rfl ?_
    refine w_st (i' := 5) (ls' := [.int p1, .int (nI 0), .int (nI 3)]) (st' := [.int (nI 3), .int p1]) (E' := E) (I' := (u_I I 99 (upd (I 99) 3 (nI 0)))) (J' := J) (S' := S) am_e232 rfl rfl rfl rfl ?_
    refine w_if2 am_e232 rfl rfl (fun c => ?_) (fun c => ?_)
    · replace h := h.1 (of_decide_eq_true c)
      refine w_st (i' := 9) (ls' := [.int p1, .int (nI 0), .int (nI 3)]) (st' := [.int (nI 0)]) (E' := E) (I' := (u_I I 99 (upd (I 99) 3 (nI 0)))) (J' := J) (S' := S) am_e232 rfl rfl rfl rfl ?_
      refine w_end (E' := E) (I' := (u_I I 99 (upd (I 99) 3 (nI 0)))) (J' := J) (S' := S) am_e232 rfl rfl rfl (q_mkI ?_)
      show am_ww 231 7 [.ref 99, .int p1] [.int (nI 0)] E (u_I I 99 (upd (I 99) 3 (nI 0))) J S _
      refine w_st (i' := 13) (ls' := [.ref 99, .int p1]) (st' := []) (E' := E) (I' := (u_I I 99 (upd (I 99) 3 (nI 0)))) (J' := J) (S' := S) am_e231 rfl rfl rfl rfl ?_
      refine w_st (i' := 14) (ls' := [.ref 99, .int p1]) (st' := [.ref 99]) (E' := E) (I' := (u_I I 99 (upd (I 99) 3 (nI 0)))) (J' := J) (S' := S) am_e231 rfl rfl rfl rfl ?_
      refine w_st (i' := 15) (ls' := [.ref 99, .int p1]) (st' := [.int (nI 1), .ref 99]) (E' := E) (I' := (u_I I 99 (upd (I 99) 3 (nI 0)))) (J' := J) (S' := S) am_e231 rfl rfl rfl rfl ?_
      refine w_cI am_e231 rfl rfl (as := [.ref 99, .int (nI 1)]) (rest := []) rfl rfl ?_
      show am_ww 189 0 [.ref 99, .int (nI 1)] [] E (u_I I 99 (upd (I 99) 3 (nI 0))) J S _
      refine w_st (i' := 1) (ls' := [.ref 99, .int (nI 1)]) (st' := [.ref 99]) (E' := E) (I' := (u_I I 99 (upd (I 99) 3 (nI 0)))) (J' := J) (S' := S) am_e189 rfl rfl rfl rfl ?_
      refine w_st (i' := 2) (ls' := [.ref 99, .int (nI 1)]) (st' := [.int (nI 1), .ref 99]) (E' := E) (I' := (u_I I 99 (upd (I 99) 3 (nI 0)))) (J' := J) (S' := S) am_e189 rfl rfl rfl rfl ?_
      refine w_st (i' := 3) (ls' := [.ref 99, .int (nI 1)]) (st' := []) (E' := E) (I' := (u_I (u_I I 99 (upd (I 99) 3 (nI 0))) 99 (upd (upd (I 99) 3 (nI 0)) 3 (nI 1)))) (J' := J) (S' := S) am_e189 rfl rfl rfl rfl ?_
      refine w_eI (uI_0 ..) ?_
      show am_ww 189 3 [.ref 99, .int (nI 1)] [] E (u_I I 99 (upd (upd (I 99) 3 (nI 0)) 3 (nI 1))) J S _
      refine w_st (i' := 4) (ls' := [.ref 99, .int (nI 1)]) (st' := [.int (nI 0)]) (E' := E) (I' := (u_I I 99 (upd (upd (I 99) 3 (nI 0)) 3 (nI 1)))) (J' := J) (S' := S) am_e189 rfl rfl rfl rfl ?_
      refine w_end (E' := E) (I' := (u_I I 99 (upd (upd (I 99) 3 (nI 0)) 3 (nI 1)))) (J' := J) (S' := S) am_e189 rfl rfl rfl (q_mkI ?_)
      show am_ww 231 16 [.ref 99, .int p1] [.int (nI 0)] E (u_I I 99 (upd (upd (I 99) 3 (nI 0)) 3 (nI 1))) J S _
      exact w_end am_e231 rfl rfl rfl h
    · replace h := h.2 (of_decide_eq_false c)
      refine w_st (i' := 7) (ls' := [.int p1, .int (nI 0), .int (nI 3)]) (st' := [.int (nI 1)]) (E' := E) (I' := (u_I I 99 (upd (I 99) 3 (nI 0)))) (J' := J) (S' := S) am_e232 rfl rfl rfl rfl ?_
      refine w_st (i' := 9) (ls' := [.int p1, .int (nI 0), .int (nI 3)]) (st' := [.int (nI 1)]) (E' := E) (I' := (u_I I 99 (upd (I 99) 3 (nI 0)))) (J' := J) (S' := S) am_e232 rfl rfl rfl rfl ?_
      refine w_end (E' := E) (I' := (u_I I 99 (upd (I 99) 3 (nI 0)))) (J' := J) (S' := S) am_e232 rfl rfl rfl (q_mkI ?_)
      show am_ww 231 7 [.ref 99, .int p1] [.int (nI 1)] E (u_I I 99 (upd (I 99) 3 (nI 0))) J S _
      refine w_st (i' := 8) (ls' := [.ref 99, .int p1]) (st' := []) (E' := E) (I' := (u_I I 99 (upd (I 99) 3 (nI 0)))) (J' := J) (S' := S) am_e231 rfl rfl rfl rfl ?_
      refine w_st (i' := 9) (ls' := [.ref 99, .int p1]) (st' := [.ref 99]) (E' := E) (I' := (u_I I 99 (upd (I 99) 3 (nI 0)))) (J' := J) (S' := S) am_e231 rfl rfl rfl rfl ?_
      refine w_st (i' := 10) (ls' := [.ref 99, .int p1]) (st' := [.ref 103]) (E' := E) (I' := (u_I I 99 (upd (I 99) 3 (nI 0)))) (J' := J) (S' := S) am_e231 rfl rfl rfl rfl ?_
      refine w_st (i' := 11) (ls' := [.ref 99, .int p1]) (st' := [.int p1, .ref 103]) (E' := E) (I' := (u_I I 99 (upd (I 99) 3 (nI 0)))) (J' := J) (S' := S) am_e231 rfl rfl rfl rfl ?_
      have hf1 := h.1
      replace h := h.2
      refine w_ia (k := 103) (n := 10) (jn := p1.toNatClampNeg) am_e231 rfl rfl (by decide) hf1 rfl ?_
      show am_ww 231 12 [.ref 99, .int p1] [.int ((I 103) p1.toNatClampNeg)] E (u_I I 99 (upd (I 99) 3 (nI 0))) J S _
      refine w_st (i' := 16) (ls' := [.ref 99, .int p1]) (st' := [.int ((I 103) p1.toNatClampNeg)]) (E' := E) (I' := (u_I I 99 (upd (I 99) 3 (nI 0)))) (J' := J) (S' := S) am_e231 rfl rfl rfl rfl ?_
      exact w_ri am_e231 rfl rfl h
-- 234 refuse
theorem g234_0  {E : am_Ev} {I : Nat → Nat → Int32} {J : Nat → Nat → Int64} {S : Nat → Nat → Option Nat} {Q : am_Qt}  (h : Q (.inl (some (.int (-1)))) E (u_I I 110 (upd (I 110) 1 (((I 110) 1) + (nI 1)))) J S) : am_ww 234 0 [.ref 99] [] E I J S Q := by
  refine w_st (i' := 1) (ls' := [.ref 99]) (st' := [.ref 99]) (E' := E) (I' := I) (J' := J) (S' := S) am_e234 rfl rfl rfl rfl ?_
  refine w_st (i' := 2) (ls' := [.ref 99]) (st' := [.ref 110]) (E' := E) (I' := I) (J' := J) (S' := S) am_e234 rfl rfl rfl rfl ?_
  refine w_st (i' := 3) (ls' := [.ref 99]) (st' := [.int (nI 1), .ref 110]) (E' := E) (I' := I) (J' := J) (S' := S) am_e234 rfl rfl rfl rfl ?_
  refine w_st (i' := 4) (ls' := [.ref 99]) (st' := [.int (nI 1), .ref 110, .int (nI 1), .ref 110]) (E' := E) (I' := I) (J' := J) (S' := S) am_e234 rfl rfl rfl rfl ?_
  refine w_ia (k := 110) (n := 2) (jn := 1) am_e234 rfl rfl (by decide) (vp_in_nI (by decide) (by decide)) rfl ?_
  show am_ww 234 5 [.ref 99] [.int ((I 110) 1), .int (nI 1), .ref 110] E I J S _
  refine w_st (i' := 6) (ls' := [.ref 99]) (st' := [.int (nI 1), .int ((I 110) 1), .int (nI 1), .ref 110]) (E' := E) (I' := I) (J' := J) (S' := S) am_e234 rfl rfl rfl rfl ?_
  refine w_st (i' := 7) (ls' := [.ref 99]) (st' := [.int (((I 110) 1) + (nI 1)), .int (nI 1), .ref 110]) (E' := E) (I' := I) (J' := J) (S' := S) am_e234 rfl rfl rfl rfl ?_
  refine w_is (k := 110) (n := 2) (jn := 1) am_e234 rfl rfl (by decide) (vp_in_nI (by decide) (by decide)) rfl ?_
  show am_ww 234 8 [.ref 99] [] E (u_I I 110 (upd (I 110) 1 (((I 110) 1) + (nI 1)))) J S _
  refine w_st (i' := 9) (ls' := [.ref 99]) (st' := [.int (-1)]) (E' := E) (I' := (u_I I 110 (upd (I 110) 1 (((I 110) 1) + (nI 1))))) (J' := J) (S' := S) am_e234 rfl rfl rfl rfl ?_
  exact w_end am_e234 rfl rfl rfl h
-- 233 steps
theorem g233_0 {p1 : Int32} {E : am_Ev} {I : Nat → Nat → Int32} {J : Nat → Nat → Int64} {S : Nat → Nat → Option Nat} {Q : am_Qt}  (h : am_cl 217 [.ref 99, .int ((I 99) 12)] E (u_I I 99 (upd (I 99) 3 (nI 0))) J S (q_V fun E1 I1 J1 S1 => (p1 < (nI 1) → (Q (.inl (some (.int (-1)))) E1 (u_I I1 110 (upd (I1 110) 1 (((I1 110) 1) + (nI 1)))) J1 S1)) ∧ (¬ p1 < (nI 1) → (((nI 50) < p1 → (Q (.inl (some (.int (-1)))) E1 (u_I I1 110 (upd (I1 110) 1 (((I1 110) 1) + (nI 1)))) J1 S1)) ∧ (¬ (nI 50) < p1 → (((nI 400) < (((I1 99) 12) + p1) → (Q (.inl (some (.int (-1)))) E1 (u_I I1 110 (upd (I1 110) 1 (((I1 110) 1) + (nI 1)))) J1 S1)) ∧ (¬ (nI 400) < (((I1 99) 12) + p1) → (am_cl 219 [.ref 99] E1 I1 J1 S1 (q_I fun v2 E2 I2 J2 S2 => (v2 = 0 → (Q (.inl (some (.int (-1)))) E2 (u_I I2 110 (upd (I2 110) 1 (((I2 110) 1) + (nI 1)))) J2 S2)) ∧ (¬ v2 = 0 → (am_cl 235 [.ref 99, .int (-1)] E2 I2 J2 S2 (q_V fun E3 I3 J3 S3 => am_ww 233 30 [.ref 99, .int p1, .int ((I3 99) 12)] [] E3 I3 J3 S3 Q)))))))))))) : am_ww 233 0 [.ref 99, .int p1, am_U] [] E I J S Q := by
  refine w_st (i' := 1) (ls' := [.ref 99, .int p1, am_U]) (st' := [.ref 99]) (E' := E) (I' := I) (J' := J) (S' := S) am_e233 rfl rfl rfl rfl ?_
  refine w_st (i' := 2) (ls' := [.ref 99, .int p1, am_U]) (st' := [.int (nI 0), .ref 99]) (E' := E) (I' := I) (J' := J) (S' := S) am_e233 rfl rfl rfl rfl ?_
  refine w_st (i' := 3) (ls' := [.ref 99, .int p1, am_U]) (st' := []) (E' := E) (I' := (u_I I 99 (upd (I 99) 3 (nI 0)))) (J' := J) (S' := S) am_e233 rfl rfl rfl rfl ?_
  refine w_st (i' := 4) (ls' := [.ref 99, .int p1, am_U]) (st' := [.ref 99]) (E' := E) (I' := (u_I I 99 (upd (I 99) 3 (nI 0)))) (J' := J) (S' := S) am_e233 rfl rfl rfl rfl ?_
  refine w_st (i' := 5) (ls' := [.ref 99, .int p1, am_U]) (st' := [.ref 99, .ref 99]) (E' := E) (I' := (u_I I 99 (upd (I 99) 3 (nI 0)))) (J' := J) (S' := S) am_e233 rfl rfl rfl rfl ?_
  refine w_st (i' := 6) (ls' := [.ref 99, .int p1, am_U]) (st' := [.int ((I 99) 12), .ref 99]) (E' := E) (I' := (u_I I 99 (upd (I 99) 3 (nI 0)))) (J' := J) (S' := S) am_e233 rfl rfl rfl rfl ?_
  refine w_cV am_e233 rfl rfl (as := [.ref 99, .int ((I 99) 12)]) (rest := []) rfl rfl (am_ww.mono h ?_)
  rintro _ E1 I1 J1 S1 ⟨rfl, h⟩
  refine q_mkV ?_
  refine w_st (i' := 8) (ls' := [.ref 99, .int p1, am_U]) (st' := [.int p1]) (E' := E1) (I' := I1) (J' := J1) (S' := S1) am_e233 rfl rfl rfl rfl ?_
  refine w_st (i' := 9) (ls' := [.ref 99, .int p1, am_U]) (st' := [.int (nI 1), .int p1]) (E' := E1) (I' := I1) (J' := J1) (S' := S1) am_e233 rfl rfl rfl rfl ?_
  refine w_st (i' := 10) (ls' := [.ref 99, .int p1, am_U]) (st' := [.int (nI 50), .int (nI 1), .int p1]) (E' := E1) (I' := I1) (J' := J1) (S' := S1) am_e233 rfl rfl rfl rfl ?_
  refine w_cI am_e233 rfl rfl (as := [.int p1, .int (nI 1), .int (nI 50)]) (rest := []) rfl rfl ?_
  show am_ww 232 0 [.int p1, .int (nI 1), .int (nI 50)] [] E1 I1 J1 S1 _
  refine w_st (i' := 1) (ls' := [.int p1, .int (nI 1), .int (nI 50)]) (st' := [.int p1]) (E' := E1) (I' := I1) (J' := J1) (S' := S1) am_e232 rfl rfl rfl rfl ?_
  refine w_st (i' := 2) (ls' := [.int p1, .int (nI 1), .int (nI 50)]) (st' := [.int (nI 1), .int p1]) (E' := E1) (I' := I1) (J' := J1) (S' := S1) am_e232 rfl rfl rfl rfl ?_
  refine w_if2 am_e232 rfl rfl (fun c => ?_) (fun c => ?_)
  · replace h := h.1 (of_decide_eq_true c)
    refine w_st (i' := 9) (ls' := [.int p1, .int (nI 1), .int (nI 50)]) (st' := [.int (nI 0)]) (E' := E1) (I' := I1) (J' := J1) (S' := S1) am_e232 rfl rfl rfl rfl ?_
    refine w_end (E' := E1) (I' := I1) (J' := J1) (S' := S1) am_e232 rfl rfl rfl (q_mkI ?_)
    show am_ww 233 11 [.ref 99, .int p1, am_U] [.int (nI 0)] E1 I1 J1 S1 _
    refine w_st (i' := 21) (ls' := [.ref 99, .int p1, am_U]) (st' := []) (E' := E1) (I' := I1) (J' := J1) (S' := S1) am_e233 rfl rfl rfl rfl ?_
    refine w_st (i' := 22) (ls' := [.ref 99, .int p1, am_U]) (st' := [.ref 99]) (E' := E1) (I' := I1) (J' := J1) (S' := S1) am_e233 rfl rfl rfl rfl ?_
    refine w_cI am_e233 rfl rfl (as := [.ref 99]) (rest := []) rfl rfl ?_
    show am_ww 234 0 [.ref 99] [] E1 I1 J1 S1 _
    refine w_st (i' := 1) (ls' := [.ref 99]) (st' := [.ref 99]) (E' := E1) (I' := I1) (J' := J1) (S' := S1) am_e234 rfl rfl rfl rfl ?_
    refine w_st (i' := 2) (ls' := [.ref 99]) (st' := [.ref 110]) (E' := E1) (I' := I1) (J' := J1) (S' := S1) am_e234 rfl rfl rfl rfl ?_
    refine w_st (i' := 3) (ls' := [.ref 99]) (st' := [.int (nI 1), .ref 110]) (E' := E1) (I' := I1) (J' := J1) (S' := S1) am_e234 rfl rfl rfl rfl ?_
    refine w_st (i' := 4) (ls' := [.ref 99]) (st' := [.int (nI 1), .ref 110, .int (nI 1), .ref 110]) (E' := E1) (I' := I1) (J' := J1) (S' := S1) am_e234 rfl rfl rfl rfl ?_
    refine w_ia (k := 110) (n := 2) (jn := 1) am_e234 rfl rfl (by decide) (vp_in_nI (by decide) (by decide)) rfl ?_
    show am_ww 234 5 [.ref 99] [.int ((I1 110) 1), .int (nI 1), .ref 110] E1 I1 J1 S1 _
    refine w_st (i' := 6) (ls' := [.ref 99]) (st' := [.int (nI 1), .int ((I1 110) 1), .int (nI 1), .ref 110]) (E' := E1) (I' := I1) (J' := J1) (S' := S1) am_e234 rfl rfl rfl rfl ?_
    refine w_st (i' := 7) (ls' := [.ref 99]) (st' := [.int (((I1 110) 1) + (nI 1)), .int (nI 1), .ref 110]) (E' := E1) (I' := I1) (J' := J1) (S' := S1) am_e234 rfl rfl rfl rfl ?_
    refine w_is (k := 110) (n := 2) (jn := 1) am_e234 rfl rfl (by decide) (vp_in_nI (by decide) (by decide)) rfl ?_
    show am_ww 234 8 [.ref 99] [] E1 (u_I I1 110 (upd (I1 110) 1 (((I1 110) 1) + (nI 1)))) J1 S1 _
    refine w_st (i' := 9) (ls' := [.ref 99]) (st' := [.int (-1)]) (E' := E1) (I' := (u_I I1 110 (upd (I1 110) 1 (((I1 110) 1) + (nI 1))))) (J' := J1) (S' := S1) am_e234 rfl rfl rfl rfl ?_
    refine w_end (E' := E1) (I' := (u_I I1 110 (upd (I1 110) 1 (((I1 110) 1) + (nI 1))))) (J' := J1) (S' := S1) am_e234 rfl rfl rfl (q_mkI ?_)
    show am_ww 233 23 [.ref 99, .int p1, am_U] [.int (-1)] E1 (u_I I1 110 (upd (I1 110) 1 (((I1 110) 1) + (nI 1)))) J1 S1 _
    exact w_end am_e233 rfl rfl rfl h
  · replace h := h.2 (of_decide_eq_false c)
    refine w_st (i' := 4) (ls' := [.int p1, .int (nI 1), .int (nI 50)]) (st' := [.int p1]) (E' := E1) (I' := I1) (J' := J1) (S' := S1) am_e232 rfl rfl rfl rfl ?_
    refine w_st (i' := 5) (ls' := [.int p1, .int (nI 1), .int (nI 50)]) (st' := [.int (nI 50), .int p1]) (E' := E1) (I' := I1) (J' := J1) (S' := S1) am_e232 rfl rfl rfl rfl ?_
    refine w_if2 am_e232 rfl rfl (fun c => ?_) (fun c => ?_)
    · replace h := h.1 (of_decide_eq_true c)
      refine w_st (i' := 9) (ls' := [.int p1, .int (nI 1), .int (nI 50)]) (st' := [.int (nI 0)]) (E' := E1) (I' := I1) (J' := J1) (S' := S1) am_e232 rfl rfl rfl rfl ?_
      refine w_end (E' := E1) (I' := I1) (J' := J1) (S' := S1) am_e232 rfl rfl rfl (q_mkI ?_)
      show am_ww 233 11 [.ref 99, .int p1, am_U] [.int (nI 0)] E1 I1 J1 S1 _
      refine w_st (i' := 21) (ls' := [.ref 99, .int p1, am_U]) (st' := []) (E' := E1) (I' := I1) (J' := J1) (S' := S1) am_e233 rfl rfl rfl rfl ?_
      refine w_st (i' := 22) (ls' := [.ref 99, .int p1, am_U]) (st' := [.ref 99]) (E' := E1) (I' := I1) (J' := J1) (S' := S1) am_e233 rfl rfl rfl rfl ?_
      refine w_cI am_e233 rfl rfl (as := [.ref 99]) (rest := []) rfl rfl ?_
      show am_ww 234 0 [.ref 99] [] E1 I1 J1 S1 _
      refine w_st (i' := 1) (ls' := [.ref 99]) (st' := [.ref 99]) (E' := E1) (I' := I1) (J' := J1) (S' := S1) am_e234 rfl rfl rfl rfl ?_
      refine w_st (i' := 2) (ls' := [.ref 99]) (st' := [.ref 110]) (E' := E1) (I' := I1) (J' := J1) (S' := S1) am_e234 rfl rfl rfl rfl ?_
      refine w_st (i' := 3) (ls' := [.ref 99]) (st' := [.int (nI 1), .ref 110]) (E' := E1) (I' := I1) (J' := J1) (S' := S1) am_e234 rfl rfl rfl rfl ?_
      refine w_st (i' := 4) (ls' := [.ref 99]) (st' := [.int (nI 1), .ref 110, .int (nI 1), .ref 110]) (E' := E1) (I' := I1) (J' := J1) (S' := S1) am_e234 rfl rfl rfl rfl ?_
      refine w_ia (k := 110) (n := 2) (jn := 1) am_e234 rfl rfl (by decide) (vp_in_nI (by decide) (by decide)) rfl ?_
      show am_ww 234 5 [.ref 99] [.int ((I1 110) 1), .int (nI 1), .ref 110] E1 I1 J1 S1 _
      refine w_st (i' := 6) (ls' := [.ref 99]) (st' := [.int (nI 1), .int ((I1 110) 1), .int (nI 1), .ref 110]) (E' := E1) (I' := I1) (J' := J1) (S' := S1) am_e234 rfl rfl rfl rfl ?_
      refine w_st (i' := 7) (ls' := [.ref 99]) (st' := [.int (((I1 110) 1) + (nI 1)), .int (nI 1), .ref 110]) (E' := E1) (I' := I1) (J' := J1) (S' := S1) am_e234 rfl rfl rfl rfl ?_
      refine w_is (k := 110) (n := 2) (jn := 1) am_e234 rfl rfl (by decide) (vp_in_nI (by decide) (by decide)) rfl ?_
      show am_ww 234 8 [.ref 99] [] E1 (u_I I1 110 (upd (I1 110) 1 (((I1 110) 1) + (nI 1)))) J1 S1 _
      refine w_st (i' := 9) (ls' := [.ref 99]) (st' := [.int (-1)]) (E' := E1) (I' := (u_I I1 110 (upd (I1 110) 1 (((I1 110) 1) + (nI 1))))) (J' := J1) (S' := S1) am_e234 rfl rfl rfl rfl ?_
      refine w_end (E' := E1) (I' := (u_I I1 110 (upd (I1 110) 1 (((I1 110) 1) + (nI 1))))) (J' := J1) (S' := S1) am_e234 rfl rfl rfl (q_mkI ?_)
      show am_ww 233 23 [.ref 99, .int p1, am_U] [.int (-1)] E1 (u_I I1 110 (upd (I1 110) 1 (((I1 110) 1) + (nI 1)))) J1 S1 _
      exact w_end am_e233 rfl rfl rfl h
    · replace h := h.2 (of_decide_eq_false c)
      refine w_st (i' := 7) (ls' := [.int p1, .int (nI 1), .int (nI 50)]) (st' := [.int (nI 1)]) (E' := E1) (I' := I1) (J' := J1) (S' := S1) am_e232 rfl rfl rfl rfl ?_
      refine w_st (i' := 9) (ls' := [.int p1, .int (nI 1), .int (nI 50)]) (st' := [.int (nI 1)]) (E' := E1) (I' := I1) (J' := J1) (S' := S1) am_e232 rfl rfl rfl rfl ?_
      refine w_end (E' := E1) (I' := I1) (J' := J1) (S' := S1) am_e232 rfl rfl rfl (q_mkI ?_)
      show am_ww 233 11 [.ref 99, .int p1, am_U] [.int (nI 1)] E1 I1 J1 S1 _
      refine w_st (i' := 12) (ls' := [.ref 99, .int p1, am_U]) (st' := []) (E' := E1) (I' := I1) (J' := J1) (S' := S1) am_e233 rfl rfl rfl rfl ?_
      refine w_st (i' := 13) (ls' := [.ref 99, .int p1, am_U]) (st' := [.ref 99]) (E' := E1) (I' := I1) (J' := J1) (S' := S1) am_e233 rfl rfl rfl rfl ?_
      refine w_st (i' := 14) (ls' := [.ref 99, .int p1, am_U]) (st' := [.int ((I1 99) 12)]) (E' := E1) (I' := I1) (J' := J1) (S' := S1) am_e233 rfl rfl rfl rfl ?_
      refine w_st (i' := 15) (ls' := [.ref 99, .int p1, am_U]) (st' := [.int p1, .int ((I1 99) 12)]) (E' := E1) (I' := I1) (J' := J1) (S' := S1) am_e233 rfl rfl rfl rfl ?_
      refine w_st (i' := 16) (ls' := [.ref 99, .int p1, am_U]) (st' := [.int (((I1 99) 12) + p1)]) (E' := E1) (I' := I1) (J' := J1) (S' := S1) am_e233 rfl rfl rfl rfl ?_
      refine w_st (i' := 17) (ls' := [.ref 99, .int p1, am_U]) (st' := [.int (nI 400), .int (((I1 99) 12) + p1)]) (E' := E1) (I' := I1) (J' := J1) (S' := S1) am_e233 rfl rfl rfl rfl ?_
      refine w_if2 am_e233 rfl rfl (fun c => ?_) (fun c => ?_)
      · replace h := h.1 (of_decide_eq_true c)
        refine w_st (i' := 22) (ls' := [.ref 99, .int p1, am_U]) (st' := [.ref 99]) (E' := E1) (I' := I1) (J' := J1) (S' := S1) am_e233 rfl rfl rfl rfl ?_
        refine w_cI am_e233 rfl rfl (as := [.ref 99]) (rest := []) rfl rfl ?_
        show am_ww 234 0 [.ref 99] [] E1 I1 J1 S1 _
        refine w_st (i' := 1) (ls' := [.ref 99]) (st' := [.ref 99]) (E' := E1) (I' := I1) (J' := J1) (S' := S1) am_e234 rfl rfl rfl rfl ?_
        refine w_st (i' := 2) (ls' := [.ref 99]) (st' := [.ref 110]) (E' := E1) (I' := I1) (J' := J1) (S' := S1) am_e234 rfl rfl rfl rfl ?_
        refine w_st (i' := 3) (ls' := [.ref 99]) (st' := [.int (nI 1), .ref 110]) (E' := E1) (I' := I1) (J' := J1) (S' := S1) am_e234 rfl rfl rfl rfl ?_
        refine w_st (i' := 4) (ls' := [.ref 99]) (st' := [.int (nI 1), .ref 110, .int (nI 1), .ref 110]) (E' := E1) (I' := I1) (J' := J1) (S' := S1) am_e234 rfl rfl rfl rfl ?_
        refine w_ia (k := 110) (n := 2) (jn := 1) am_e234 rfl rfl (by decide) (vp_in_nI (by decide) (by decide)) rfl ?_
        show am_ww 234 5 [.ref 99] [.int ((I1 110) 1), .int (nI 1), .ref 110] E1 I1 J1 S1 _
        refine w_st (i' := 6) (ls' := [.ref 99]) (st' := [.int (nI 1), .int ((I1 110) 1), .int (nI 1), .ref 110]) (E' := E1) (I' := I1) (J' := J1) (S' := S1) am_e234 rfl rfl rfl rfl ?_
        refine w_st (i' := 7) (ls' := [.ref 99]) (st' := [.int (((I1 110) 1) + (nI 1)), .int (nI 1), .ref 110]) (E' := E1) (I' := I1) (J' := J1) (S' := S1) am_e234 rfl rfl rfl rfl ?_
        refine w_is (k := 110) (n := 2) (jn := 1) am_e234 rfl rfl (by decide) (vp_in_nI (by decide) (by decide)) rfl ?_
        show am_ww 234 8 [.ref 99] [] E1 (u_I I1 110 (upd (I1 110) 1 (((I1 110) 1) + (nI 1)))) J1 S1 _
        refine w_st (i' := 9) (ls' := [.ref 99]) (st' := [.int (-1)]) (E' := E1) (I' := (u_I I1 110 (upd (I1 110) 1 (((I1 110) 1) + (nI 1))))) (J' := J1) (S' := S1) am_e234 rfl rfl rfl rfl ?_
        refine w_end (E' := E1) (I' := (u_I I1 110 (upd (I1 110) 1 (((I1 110) 1) + (nI 1))))) (J' := J1) (S' := S1) am_e234 rfl rfl rfl (q_mkI ?_)
        show am_ww 233 23 [.ref 99, .int p1, am_U] [.int (-1)] E1 (u_I I1 110 (upd (I1 110) 1 (((I1 110) 1) + (nI 1)))) J1 S1 _
        exact w_end am_e233 rfl rfl rfl h
      · replace h := h.2 (of_decide_eq_false c)
        refine w_st (i' := 19) (ls' := [.ref 99, .int p1, am_U]) (st' := [.ref 99]) (E' := E1) (I' := I1) (J' := J1) (S' := S1) am_e233 rfl rfl rfl rfl ?_
        refine w_cI am_e233 rfl rfl (as := [.ref 99]) (rest := []) rfl rfl (am_ww.mono h ?_)
        rintro _ E2 I2 J2 S2 ⟨v2, rfl, h⟩
        refine q_mkI ?_
        refine w_if1 am_e233 rfl rfl (fun c => ?_) (fun c => ?_)
        · replace h := h.2 (of_decide_eq_true c)
          refine w_st (i' := 25) (ls' := [.ref 99, .int p1, am_U]) (st' := [.ref 99]) (E' := E2) (I' := I2) (J' := J2) (S' := S2) am_e233 rfl rfl rfl rfl ?_
          refine w_st (i' := 26) (ls' := [.ref 99, .int p1, am_U]) (st' := [.int (-1), .ref 99]) (E' := E2) (I' := I2) (J' := J2) (S' := S2) am_e233 rfl rfl rfl rfl ?_
          refine w_cV am_e233 rfl rfl (as := [.ref 99, .int (-1)]) (rest := []) rfl rfl (am_ww.mono h ?_)
          rintro _ E3 I3 J3 S3 ⟨rfl, h⟩
          refine q_mkV ?_
          refine w_st (i' := 28) (ls' := [.ref 99, .int p1, am_U]) (st' := [.ref 99]) (E' := E3) (I' := I3) (J' := J3) (S' := S3) am_e233 rfl rfl rfl rfl ?_
          refine w_st (i' := 29) (ls' := [.ref 99, .int p1, am_U]) (st' := [.int ((I3 99) 12)]) (E' := E3) (I' := I3) (J' := J3) (S' := S3) am_e233 rfl rfl rfl rfl ?_
          refine w_st (i' := 30) (ls' := [.ref 99, .int p1, .int ((I3 99) 12)]) (st' := []) (E' := E3) (I' := I3) (J' := J3) (S' := S3) am_e233 rfl rfl rfl rfl ?_
          exact h
        · replace h := h.1 (Decidable.not_not.mp (of_decide_eq_false c))
          refine w_st (i' := 22) (ls' := [.ref 99, .int p1, am_U]) (st' := [.ref 99]) (E' := E2) (I' := I2) (J' := J2) (S' := S2) am_e233 rfl rfl rfl rfl ?_
          refine w_cI am_e233 rfl rfl (as := [.ref 99]) (rest := []) rfl rfl ?_
          show am_ww 234 0 [.ref 99] [] E2 I2 J2 S2 _
          refine w_st (i' := 1) (ls' := [.ref 99]) (st' := [.ref 99]) (E' := E2) (I' := I2) (J' := J2) (S' := S2) am_e234 rfl rfl rfl rfl ?_
          refine w_st (i' := 2) (ls' := [.ref 99]) (st' := [.ref 110]) (E' := E2) (I' := I2) (J' := J2) (S' := S2) am_e234 rfl rfl rfl rfl ?_
          refine w_st (i' := 3) (ls' := [.ref 99]) (st' := [.int (nI 1), .ref 110]) (E' := E2) (I' := I2) (J' := J2) (S' := S2) am_e234 rfl rfl rfl rfl ?_
          refine w_st (i' := 4) (ls' := [.ref 99]) (st' := [.int (nI 1), .ref 110, .int (nI 1), .ref 110]) (E' := E2) (I' := I2) (J' := J2) (S' := S2) am_e234 rfl rfl rfl rfl ?_
          refine w_ia (k := 110) (n := 2) (jn := 1) am_e234 rfl rfl (by decide) (vp_in_nI (by decide) (by decide)) rfl ?_
          show am_ww 234 5 [.ref 99] [.int ((I2 110) 1), .int (nI 1), .ref 110] E2 I2 J2 S2 _
          refine w_st (i' := 6) (ls' := [.ref 99]) (st' := [.int (nI 1), .int ((I2 110) 1), .int (nI 1), .ref 110]) (E' := E2) (I' := I2) (J' := J2) (S' := S2) am_e234 rfl rfl rfl rfl ?_
          refine w_st (i' := 7) (ls' := [.ref 99]) (st' := [.int (((I2 110) 1) + (nI 1)), .int (nI 1), .ref 110]) (E' := E2) (I' := I2) (J' := J2) (S' := S2) am_e234 rfl rfl rfl rfl ?_
          refine w_is (k := 110) (n := 2) (jn := 1) am_e234 rfl rfl (by decide) (vp_in_nI (by decide) (by decide)) rfl ?_
          show am_ww 234 8 [.ref 99] [] E2 (u_I I2 110 (upd (I2 110) 1 (((I2 110) 1) + (nI 1)))) J2 S2 _
          refine w_st (i' := 9) (ls' := [.ref 99]) (st' := [.int (-1)]) (E' := E2) (I' := (u_I I2 110 (upd (I2 110) 1 (((I2 110) 1) + (nI 1))))) (J' := J2) (S' := S2) am_e234 rfl rfl rfl rfl ?_
          refine w_end (E' := E2) (I' := (u_I I2 110 (upd (I2 110) 1 (((I2 110) 1) + (nI 1))))) (J' := J2) (S' := S2) am_e234 rfl rfl rfl (q_mkI ?_)
          show am_ww 233 23 [.ref 99, .int p1, am_U] [.int (-1)] E2 (u_I I2 110 (upd (I2 110) 1 (((I2 110) 1) + (nI 1)))) J2 S2 _
          exact w_end am_e233 rfl rfl rfl h
theorem g233_30 {x1 : Int32} {x2 : Int32} {E : am_Ev} {I : Nat → Nat → Int32} {J : Nat → Nat → Int64} {S : Nat → Nat → Option Nat} {Q : am_Qt}  (h : ((x2 + x1) ≤ ((I 99) 12) → (Q (.inl (some (.int (((I 99) 12) - x2)))) E I J S)) ∧ (¬ (x2 + x1) ≤ ((I 99) 12) → (am_cl 236 [.ref 99, .int ((I 103) 0), .int (nI 1)] E I J S (q_I fun v1 E1 I1 J1 S1 => (v1 = 0 → (Q (.inl (some (.int (((I1 99) 12) - x2)))) E1 I1 J1 S1)) ∧ (¬ v1 = 0 → (vp_in (((I1 99) 12) + (nI 1)) 401 ∧ (am_cl 185 [.ref 99, .int (((I1 99) 12) + (nI 1))] E1 (u_I (u_I (u_I I1 99 (upd (I1 99) 12 (((I1 99) 12) + (nI 1)))) 118 (upd (I1 118) ((((I1 99) 12) + (nI 1)).toNatClampNeg) ((I1 99) 39))) 119 (upd (I1 119) ((((I1 99) 12) + (nI 1)).toNatClampNeg) ((I1 99) 40))) J1 S1 (q_V fun E3 I3 J3 S3 => am_ww 233 30 [.ref 99, .int x1, .int x2] [] E3 I3 J3 S3 Q)))))))) : am_ww 233 30 [.ref 99, .int x1, .int x2] [] E I J S Q := by
  refine w_st (i' := 31) (ls' := [.ref 99, .int x1, .int x2]) (st' := [.ref 99]) (E' := E) (I' := I) (J' := J) (S' := S) am_e233 rfl rfl rfl rfl ?_
  refine w_st (i' := 32) (ls' := [.ref 99, .int x1, .int x2]) (st' := [.int ((I 99) 12)]) (E' := E) (I' := I) (J' := J) (S' := S) am_e233 rfl rfl rfl rfl ?_
  refine w_st (i' := 33) (ls' := [.ref 99, .int x1, .int x2]) (st' := [.int x2, .int ((I 99) 12)]) (E' := E) (I' := I) (J' := J) (S' := S) am_e233 rfl rfl rfl rfl ?_
  refine w_st (i' := 34) (ls' := [.ref 99, .int x1, .int x2]) (st' := [.int x1, .int x2, .int ((I 99) 12)]) (E' := E) (I' := I) (J' := J) (S' := S) am_e233 rfl rfl rfl rfl ?_
  refine w_st (i' := 35) (ls' := [.ref 99, .int x1, .int x2]) (st' := [.int (x2 + x1), .int ((I 99) 12)]) (E' := E) (I' := I) (J' := J) (S' := S) am_e233 rfl rfl rfl rfl ?_
  refine w_if2 am_e233 rfl rfl (fun c => ?_) (fun c => ?_)
  · replace h := h.1 (of_decide_eq_true c)
    refine w_st (i' := 70) (ls' := [.ref 99, .int x1, .int x2]) (st' := [.ref 99]) (E' := E) (I' := I) (J' := J) (S' := S) am_e233 rfl rfl rfl rfl ?_
    refine w_st (i' := 71) (ls' := [.ref 99, .int x1, .int x2]) (st' := [.int ((I 99) 12)]) (E' := E) (I' := I) (J' := J) (S' := S) am_e233 rfl rfl rfl rfl ?_
    refine w_st (i' := 72) (ls' := [.ref 99, .int x1, .int x2]) (st' := [.int x2, .int ((I 99) 12)]) (E' := E) (I' := I) (J' := J) (S' := S) am_e233 rfl rfl rfl rfl ?_
    refine w_st (i' := 73) (ls' := [.ref 99, .int x1, .int x2]) (st' := [.int (((I 99) 12) - x2)]) (E' := E) (I' := I) (J' := J) (S' := S) am_e233 rfl rfl rfl rfl ?_
    exact w_ri am_e233 rfl rfl h
  · replace h := h.2 (of_decide_eq_false c)
    refine w_st (i' := 37) (ls' := [.ref 99, .int x1, .int x2]) (st' := [.ref 99]) (E' := E) (I' := I) (J' := J) (S' := S) am_e233 rfl rfl rfl rfl ?_
    refine w_st (i' := 38) (ls' := [.ref 99, .int x1, .int x2]) (st' := [.ref 99, .ref 99]) (E' := E) (I' := I) (J' := J) (S' := S) am_e233 rfl rfl rfl rfl ?_
    refine w_st (i' := 39) (ls' := [.ref 99, .int x1, .int x2]) (st' := [.ref 103, .ref 99]) (E' := E) (I' := I) (J' := J) (S' := S) am_e233 rfl rfl rfl rfl ?_
    refine w_st (i' := 40) (ls' := [.ref 99, .int x1, .int x2]) (st' := [.int (nI 0), .ref 103, .ref 99]) (E' := E) (I' := I) (J' := J) (S' := S) am_e233 rfl rfl rfl rfl ?_
    refine w_ia (k := 103) (n := 10) (jn := 0) am_e233 rfl rfl (by decide) (vp_in_nI (by decide) (by decide)) rfl ?_
    show am_ww 233 41 [.ref 99, .int x1, .int x2] [.int ((I 103) 0), .ref 99] E I J S _
    refine w_st (i' := 42) (ls' := [.ref 99, .int x1, .int x2]) (st' := [.int (nI 1), .int ((I 103) 0), .ref 99]) (E' := E) (I' := I) (J' := J) (S' := S) am_e233 rfl rfl rfl rfl ?_
    refine w_cI am_e233 rfl rfl (as := [.ref 99, .int ((I 103) 0), .int (nI 1)]) (rest := []) rfl rfl (am_ww.mono h ?_)
    rintro _ E1 I1 J1 S1 ⟨v1, rfl, h⟩
    refine q_mkI ?_
    refine w_if1 am_e233 rfl rfl (fun c => ?_) (fun c => ?_)
    · replace h := h.1 (of_decide_eq_true c)
      refine w_st (i' := 70) (ls' := [.ref 99, .int x1, .int x2]) (st' := [.ref 99]) (E' := E1) (I' := I1) (J' := J1) (S' := S1) am_e233 rfl rfl rfl rfl ?_
      refine w_st (i' := 71) (ls' := [.ref 99, .int x1, .int x2]) (st' := [.int ((I1 99) 12)]) (E' := E1) (I' := I1) (J' := J1) (S' := S1) am_e233 rfl rfl rfl rfl ?_
      refine w_st (i' := 72) (ls' := [.ref 99, .int x1, .int x2]) (st' := [.int x2, .int ((I1 99) 12)]) (E' := E1) (I' := I1) (J' := J1) (S' := S1) am_e233 rfl rfl rfl rfl ?_
      refine w_st (i' := 73) (ls' := [.ref 99, .int x1, .int x2]) (st' := [.int (((I1 99) 12) - x2)]) (E' := E1) (I' := I1) (J' := J1) (S' := S1) am_e233 rfl rfl rfl rfl ?_
      exact w_ri am_e233 rfl rfl h
    · replace h := h.2 (of_decide_eq_false c)
      refine w_st (i' := 45) (ls' := [.ref 99, .int x1, .int x2]) (st' := [.ref 99]) (E' := E1) (I' := I1) (J' := J1) (S' := S1) am_e233 rfl rfl rfl rfl ?_
      refine w_st (i' := 46) (ls' := [.ref 99, .int x1, .int x2]) (st' := [.ref 99, .ref 99]) (E' := E1) (I' := I1) (J' := J1) (S' := S1) am_e233 rfl rfl rfl rfl ?_
      refine w_st (i' := 47) (ls' := [.ref 99, .int x1, .int x2]) (st' := [.int ((I1 99) 12), .ref 99]) (E' := E1) (I' := I1) (J' := J1) (S' := S1) am_e233 rfl rfl rfl rfl ?_
      refine w_st (i' := 48) (ls' := [.ref 99, .int x1, .int x2]) (st' := [.int (nI 1), .int ((I1 99) 12), .ref 99]) (E' := E1) (I' := I1) (J' := J1) (S' := S1) am_e233 rfl rfl rfl rfl ?_
      refine w_st (i' := 49) (ls' := [.ref 99, .int x1, .int x2]) (st' := [.int (((I1 99) 12) + (nI 1)), .ref 99]) (E' := E1) (I' := I1) (J' := J1) (S' := S1) am_e233 rfl rfl rfl rfl ?_
      refine w_st (i' := 50) (ls' := [.ref 99, .int x1, .int x2]) (st' := []) (E' := E1) (I' := (u_I I1 99 (upd (I1 99) 12 (((I1 99) 12) + (nI 1))))) (J' := J1) (S' := S1) am_e233 rfl rfl rfl rfl ?_
      refine w_st (i' := 51) (ls' := [.ref 99, .int x1, .int x2]) (st' := [.ref 99]) (E' := E1) (I' := (u_I I1 99 (upd (I1 99) 12 (((I1 99) 12) + (nI 1))))) (J' := J1) (S' := S1) am_e233 rfl rfl rfl rfl ?_
      refine w_st (i' := 52) (ls' := [.ref 99, .int x1, .int x2]) (st' := [.ref 118]) (E' := E1) (I' := (u_I I1 99 (upd (I1 99) 12 (((I1 99) 12) + (nI 1))))) (J' := J1) (S' := S1) am_e233 rfl rfl rfl rfl ?_
      refine w_st (i' := 53) (ls' := [.ref 99, .int x1, .int x2]) (st' := [.ref 99, .ref 118]) (E' := E1) (I' := (u_I I1 99 (upd (I1 99) 12 (((I1 99) 12) + (nI 1))))) (J' := J1) (S' := S1) am_e233 rfl rfl rfl rfl ?_
      refine w_st (i' := 54) (ls' := [.ref 99, .int x1, .int x2]) (st' := [.int (((I1 99) 12) + (nI 1)), .ref 118]) (E' := E1) (I' := (u_I I1 99 (upd (I1 99) 12 (((I1 99) 12) + (nI 1))))) (J' := J1) (S' := S1) am_e233 rfl rfl rfl rfl ?_
      refine w_st (i' := 55) (ls' := [.ref 99, .int x1, .int x2]) (st' := [.ref 99, .int (((I1 99) 12) + (nI 1)), .ref 118]) (E' := E1) (I' := (u_I I1 99 (upd (I1 99) 12 (((I1 99) 12) + (nI 1))))) (J' := J1) (S' := S1) am_e233 rfl rfl rfl rfl ?_
      refine w_st (i' := 56) (ls' := [.ref 99, .int x1, .int x2]) (st' := [.int ((I1 99) 39), .int (((I1 99) 12) + (nI 1)), .ref 118]) (E' := E1) (I' := (u_I I1 99 (upd (I1 99) 12 (((I1 99) 12) + (nI 1))))) (J' := J1) (S' := S1) am_e233 rfl rfl rfl rfl ?_
      have hf2 := h.1
      replace h := h.2
      refine w_is (k := 118) (n := 401) (jn := (((I1 99) 12) + (nI 1)).toNatClampNeg) am_e233 rfl rfl (by decide) hf2 rfl ?_
      show am_ww 233 57 [.ref 99, .int x1, .int x2] [] E1 (u_I (u_I I1 99 (upd (I1 99) 12 (((I1 99) 12) + (nI 1)))) 118 (upd (I1 118) ((((I1 99) 12) + (nI 1)).toNatClampNeg) ((I1 99) 39))) J1 S1 _
      refine w_st (i' := 58) (ls' := [.ref 99, .int x1, .int x2]) (st' := [.ref 99]) (E' := E1) (I' := (u_I (u_I I1 99 (upd (I1 99) 12 (((I1 99) 12) + (nI 1)))) 118 (upd (I1 118) ((((I1 99) 12) + (nI 1)).toNatClampNeg) ((I1 99) 39)))) (J' := J1) (S' := S1) am_e233 rfl rfl rfl rfl ?_
      refine w_st (i' := 59) (ls' := [.ref 99, .int x1, .int x2]) (st' := [.ref 119]) (E' := E1) (I' := (u_I (u_I I1 99 (upd (I1 99) 12 (((I1 99) 12) + (nI 1)))) 118 (upd (I1 118) ((((I1 99) 12) + (nI 1)).toNatClampNeg) ((I1 99) 39)))) (J' := J1) (S' := S1) am_e233 rfl rfl rfl rfl ?_
      refine w_st (i' := 60) (ls' := [.ref 99, .int x1, .int x2]) (st' := [.ref 99, .ref 119]) (E' := E1) (I' := (u_I (u_I I1 99 (upd (I1 99) 12 (((I1 99) 12) + (nI 1)))) 118 (upd (I1 118) ((((I1 99) 12) + (nI 1)).toNatClampNeg) ((I1 99) 39)))) (J' := J1) (S' := S1) am_e233 rfl rfl rfl rfl ?_
      refine w_st (i' := 61) (ls' := [.ref 99, .int x1, .int x2]) (st' := [.int (((I1 99) 12) + (nI 1)), .ref 119]) (E' := E1) (I' := (u_I (u_I I1 99 (upd (I1 99) 12 (((I1 99) 12) + (nI 1)))) 118 (upd (I1 118) ((((I1 99) 12) + (nI 1)).toNatClampNeg) ((I1 99) 39)))) (J' := J1) (S' := S1) am_e233 rfl rfl rfl rfl ?_
      refine w_st (i' := 62) (ls' := [.ref 99, .int x1, .int x2]) (st' := [.ref 99, .int (((I1 99) 12) + (nI 1)), .ref 119]) (E' := E1) (I' := (u_I (u_I I1 99 (upd (I1 99) 12 (((I1 99) 12) + (nI 1)))) 118 (upd (I1 118) ((((I1 99) 12) + (nI 1)).toNatClampNeg) ((I1 99) 39)))) (J' := J1) (S' := S1) am_e233 rfl rfl rfl rfl ?_
      refine w_st (i' := 63) (ls' := [.ref 99, .int x1, .int x2]) (st' := [.int ((I1 99) 40), .int (((I1 99) 12) + (nI 1)), .ref 119]) (E' := E1) (I' := (u_I (u_I I1 99 (upd (I1 99) 12 (((I1 99) 12) + (nI 1)))) 118 (upd (I1 118) ((((I1 99) 12) + (nI 1)).toNatClampNeg) ((I1 99) 39)))) (J' := J1) (S' := S1) am_e233 rfl rfl rfl rfl ?_
      refine w_is (k := 119) (n := 401) (jn := (((I1 99) 12) + (nI 1)).toNatClampNeg) am_e233 rfl rfl (by decide) hf2 rfl ?_
      show am_ww 233 64 [.ref 99, .int x1, .int x2] [] E1 (u_I (u_I (u_I I1 99 (upd (I1 99) 12 (((I1 99) 12) + (nI 1)))) 118 (upd (I1 118) ((((I1 99) 12) + (nI 1)).toNatClampNeg) ((I1 99) 39))) 119 (upd (I1 119) ((((I1 99) 12) + (nI 1)).toNatClampNeg) ((I1 99) 40))) J1 S1 _
      refine w_st (i' := 65) (ls' := [.ref 99, .int x1, .int x2]) (st' := [.ref 99]) (E' := E1) (I' := (u_I (u_I (u_I I1 99 (upd (I1 99) 12 (((I1 99) 12) + (nI 1)))) 118 (upd (I1 118) ((((I1 99) 12) + (nI 1)).toNatClampNeg) ((I1 99) 39))) 119 (upd (I1 119) ((((I1 99) 12) + (nI 1)).toNatClampNeg) ((I1 99) 40)))) (J' := J1) (S' := S1) am_e233 rfl rfl rfl rfl ?_
      refine w_st (i' := 66) (ls' := [.ref 99, .int x1, .int x2]) (st' := [.ref 99, .ref 99]) (E' := E1) (I' := (u_I (u_I (u_I I1 99 (upd (I1 99) 12 (((I1 99) 12) + (nI 1)))) 118 (upd (I1 118) ((((I1 99) 12) + (nI 1)).toNatClampNeg) ((I1 99) 39))) 119 (upd (I1 119) ((((I1 99) 12) + (nI 1)).toNatClampNeg) ((I1 99) 40)))) (J' := J1) (S' := S1) am_e233 rfl rfl rfl rfl ?_
      refine w_st (i' := 67) (ls' := [.ref 99, .int x1, .int x2]) (st' := [.int (((I1 99) 12) + (nI 1)), .ref 99]) (E' := E1) (I' := (u_I (u_I (u_I I1 99 (upd (I1 99) 12 (((I1 99) 12) + (nI 1)))) 118 (upd (I1 118) ((((I1 99) 12) + (nI 1)).toNatClampNeg) ((I1 99) 39))) 119 (upd (I1 119) ((((I1 99) 12) + (nI 1)).toNatClampNeg) ((I1 99) 40)))) (J' := J1) (S' := S1) am_e233 rfl rfl rfl rfl ?_
      refine w_cV am_e233 rfl rfl (as := [.ref 99, .int (((I1 99) 12) + (nI 1))]) (rest := []) rfl rfl (am_ww.mono h ?_)
      rintro _ E3 I3 J3 S3 ⟨rfl, h⟩
      refine q_mkV ?_
      refine w_st (i' := 30) (ls' := [.ref 99, .int x1, .int x2]) (st' := []) (E' := E3) (I' := I3) (J' := J3) (S' := S3) am_e233 rfl rfl rfl rfl ?_
      exact h
-- 242 give
theorem g242_0 {p1 : Int32} {p2 : Int32} {E : am_Ev} {I : Nat → Nat → Int32} {J : Nat → Nat → Int64} {S : Nat → Nat → Option Nat} {Q : am_Qt}  (h : (p1 < (nI 0) → (Q (.inl (some (.int (-1)))) E (u_I (u_I I 99 (upd (I 99) 3 (nI 0))) 110 (upd (I 110) 1 (((I 110) 1) + (nI 1)))) J S)) ∧ (¬ p1 < (nI 0) → (((nI 2) < p1 → (Q (.inl (some (.int (-1)))) E (u_I (u_I I 99 (upd (I 99) 3 (nI 0))) 110 (upd (I 110) 1 (((I 110) 1) + (nI 1)))) J S)) ∧ (¬ (nI 2) < p1 → (vp_in p1 3 ∧ ((((I 124) p1.toNatClampNeg) = (nI 30) → (Q (.inl (some (.int (-1)))) E (u_I (u_I I 99 (upd (I 99) 3 (nI 0))) 110 (upd (I 110) 1 (((I 110) 1) + (nI 1)))) J S)) ∧ (¬ ((I 124) p1.toNatClampNeg) = (nI 30) → (am_cl 235 [.ref 99, .int p1] E (u_I I 99 (upd (I 99) 3 (nI 0))) J S (q_V fun E2 I2 J2 S2 => vp_in (((nI 30) * p1) + ((I2 124) p1.toNatClampNeg)) 90 ∧ (Q (.inl (some (.int ((upd (I2 124) p1.toNatClampNeg (((I2 124) p1.toNatClampNeg) + (nI 1))) p1.toNatClampNeg)))) E2 (u_I (u_I I2 123 (upd (I2 123) ((((nI 30) * p1) + ((I2 124) p1.toNatClampNeg)).toNatClampNeg) p2)) 124 (upd (I2 124) p1.toNatClampNeg (((I2 124) p1.toNatClampNeg) + (nI 1)))) J2 S2)))))))))) : am_ww 242 0 [.ref 99, .int p1, .int p2] [] E I J S Q := by
  refine w_st (i' := 1) (ls' := [.ref 99, .int p1, .int p2]) (st' := [.ref 99]) (E' := E) (I' := I) (J' := J) (S' := S) am_e242 rfl rfl rfl rfl ?_
  refine w_st (i' := 2) (ls' := [.ref 99, .int p1, .int p2]) (st' := [.int (nI 0), .ref 99]) (E' := E) (I' := I) (J' := J) (S' := S) am_e242 rfl rfl rfl rfl ?_
  refine w_st (i' := 3) (ls' := [.ref 99, .int p1, .int p2]) (st' := []) (E' := E) (I' := (u_I I 99 (upd (I 99) 3 (nI 0)))) (J' := J) (S' := S) am_e242 rfl rfl rfl rfl ?_
  refine w_st (i' := 4) (ls' := [.ref 99, .int p1, .int p2]) (st' := [.int p1]) (E' := E) (I' := (u_I I 99 (upd (I 99) 3 (nI 0)))) (J' := J) (S' := S) am_e242 rfl rfl rfl rfl ?_
  refine w_st (i' := 5) (ls' := [.ref 99, .int p1, .int p2]) (st' := [.int (nI 0), .int p1]) (E' := E) (I' := (u_I I 99 (upd (I 99) 3 (nI 0)))) (J' := J) (S' := S) am_e242 rfl rfl rfl rfl ?_
  refine w_st (i' := 6) (ls' := [.ref 99, .int p1, .int p2]) (st' := [.int (nI 2), .int (nI 0), .int p1]) (E' := E) (I' := (u_I I 99 (upd (I 99) 3 (nI 0)))) (J' := J) (S' := S) am_e242 rfl rfl rfl rfl ?_
  refine w_cI am_e242 rfl rfl (as := [.int p1, .int (nI 0), .int (nI 2)]) (rest := []) rfl rfl ?_
  show am_ww 232 0 [.int p1, .int (nI 0), .int (nI 2)] [] E (u_I I 99 (upd (I 99) 3 (nI 0))) J S _
  refine w_st (i' := 1) (ls' := [.int p1, .int (nI 0), .int (nI 2)]) (st' := [.int p1]) (E' := E) (I' := (u_I I 99 (upd (I 99) 3 (nI 0)))) (J' := J) (S' := S) am_e232 rfl rfl rfl rfl ?_
  refine w_st (i' := 2) (ls' := [.int p1, .int (nI 0), .int (nI 2)]) (st' := [.int (nI 0), .int p1]) (E' := E) (I' := (u_I I 99 (upd (I 99) 3 (nI 0)))) (J' := J) (S' := S) am_e232 rfl rfl rfl rfl ?_
  refine w_if2 am_e232 rfl rfl (fun c => ?_) (fun c => ?_)
  · replace h := h.1 (of_decide_eq_true c)
    refine w_st (i' := 9) (ls' := [.int p1, .int (nI 0), .int (nI 2)]) (st' := [.int (nI 0)]) (E' := E) (I' := (u_I I 99 (upd (I 99) 3 (nI 0)))) (J' := J) (S' := S) am_e232 rfl rfl rfl rfl ?_
    refine w_end (E' := E) (I' := (u_I I 99 (upd (I 99) 3 (nI 0)))) (J' := J) (S' := S) am_e232 rfl rfl rfl (q_mkI ?_)
    show am_ww 242 7 [.ref 99, .int p1, .int p2] [.int (nI 0)] E (u_I I 99 (upd (I 99) 3 (nI 0))) J S _
    refine w_st (i' := 14) (ls' := [.ref 99, .int p1, .int p2]) (st' := []) (E' := E) (I' := (u_I I 99 (upd (I 99) 3 (nI 0)))) (J' := J) (S' := S) am_e242 rfl rfl rfl rfl ?_
    refine w_st (i' := 15) (ls' := [.ref 99, .int p1, .int p2]) (st' := [.ref 99]) (E' := E) (I' := (u_I I 99 (upd (I 99) 3 (nI 0)))) (J' := J) (S' := S) am_e242 rfl rfl rfl rfl ?_
    refine w_cI am_e242 rfl rfl (as := [.ref 99]) (rest := []) rfl rfl ?_
    show am_ww 234 0 [.ref 99] [] E (u_I I 99 (upd (I 99) 3 (nI 0))) J S _
    refine w_st (i' := 1) (ls' := [.ref 99]) (st' := [.ref 99]) (E' := E) (I' := (u_I I 99 (upd (I 99) 3 (nI 0)))) (J' := J) (S' := S) am_e234 rfl rfl rfl rfl ?_
    refine w_st (i' := 2) (ls' := [.ref 99]) (st' := [.ref 110]) (E' := E) (I' := (u_I I 99 (upd (I 99) 3 (nI 0)))) (J' := J) (S' := S) am_e234 rfl rfl rfl rfl ?_
    refine w_st (i' := 3) (ls' := [.ref 99]) (st' := [.int (nI 1), .ref 110]) (E' := E) (I' := (u_I I 99 (upd (I 99) 3 (nI 0)))) (J' := J) (S' := S) am_e234 rfl rfl rfl rfl ?_
    refine w_st (i' := 4) (ls' := [.ref 99]) (st' := [.int (nI 1), .ref 110, .int (nI 1), .ref 110]) (E' := E) (I' := (u_I I 99 (upd (I 99) 3 (nI 0)))) (J' := J) (S' := S) am_e234 rfl rfl rfl rfl ?_
    refine w_ia (k := 110) (n := 2) (jn := 1) am_e234 rfl rfl (by decide) (vp_in_nI (by decide) (by decide)) rfl ?_
    show am_ww 234 5 [.ref 99] [.int ((I 110) 1), .int (nI 1), .ref 110] E (u_I I 99 (upd (I 99) 3 (nI 0))) J S _
    refine w_st (i' := 6) (ls' := [.ref 99]) (st' := [.int (nI 1), .int ((I 110) 1), .int (nI 1), .ref 110]) (E' := E) (I' := (u_I I 99 (upd (I 99) 3 (nI 0)))) (J' := J) (S' := S) am_e234 rfl rfl rfl rfl ?_
    refine w_st (i' := 7) (ls' := [.ref 99]) (st' := [.int (((I 110) 1) + (nI 1)), .int (nI 1), .ref 110]) (E' := E) (I' := (u_I I 99 (upd (I 99) 3 (nI 0)))) (J' := J) (S' := S) am_e234 rfl rfl rfl rfl ?_
    refine w_is (k := 110) (n := 2) (jn := 1) am_e234 rfl rfl (by decide) (vp_in_nI (by decide) (by decide)) rfl ?_
    show am_ww 234 8 [.ref 99] [] E (u_I (u_I I 99 (upd (I 99) 3 (nI 0))) 110 (upd (I 110) 1 (((I 110) 1) + (nI 1)))) J S _
    refine w_st (i' := 9) (ls' := [.ref 99]) (st' := [.int (-1)]) (E' := E) (I' := (u_I (u_I I 99 (upd (I 99) 3 (nI 0))) 110 (upd (I 110) 1 (((I 110) 1) + (nI 1))))) (J' := J) (S' := S) am_e234 rfl rfl rfl rfl ?_
    refine w_end (E' := E) (I' := (u_I (u_I I 99 (upd (I 99) 3 (nI 0))) 110 (upd (I 110) 1 (((I 110) 1) + (nI 1))))) (J' := J) (S' := S) am_e234 rfl rfl rfl (q_mkI ?_)
    show am_ww 242 16 [.ref 99, .int p1, .int p2] [.int (-1)] E (u_I (u_I I 99 (upd (I 99) 3 (nI 0))) 110 (upd (I 110) 1 (((I 110) 1) + (nI 1)))) J S _
    exact w_end am_e242 rfl rfl rfl h
  · replace h := h.2 (of_decide_eq_false c)
    refine w_st (i' := 4) (ls' := [.int p1, .int (nI 0), .int (nI 2)]) (st' := [.int p1]) (E' := E) (I' := (u_I I 99 (upd (I 99) 3 (nI 0)))) (J' := J) (S' := S) am_e232 rfl rfl rfl rfl ?_
    refine w_st (i' := 5) (ls' := [.int p1, .int (nI 0), .int (nI 2)]) (st' := [.int (nI 2), .int p1]) (E' := E) (I' := (u_I I 99 (upd (I 99) 3 (nI 0)))) (J' := J) (S' := S) am_e232 rfl rfl rfl rfl ?_
    refine w_if2 am_e232 rfl rfl (fun c => ?_) (fun c => ?_)
    · replace h := h.1 (of_decide_eq_true c)
      refine w_st (i' := 9) (ls' := [.int p1, .int (nI 0), .int (nI 2)]) (st' := [.int (nI 0)]) (E' := E) (I' := (u_I I 99 (upd (I 99) 3 (nI 0)))) (J' := J) (S' := S) am_e232 rfl rfl rfl rfl ?_
      refine w_end (E' := E) (I' := (u_I I 99 (upd (I 99) 3 (nI 0)))) (J' := J) (S' := S) am_e232 rfl rfl rfl (q_mkI ?_)
      show am_ww 242 7 [.ref 99, .int p1, .int p2] [.int (nI 0)] E (u_I I 99 (upd (I 99) 3 (nI 0))) J S _
      refine w_st (i' := 14) (ls' := [.ref 99, .int p1, .int p2]) (st' := []) (E' := E) (I' := (u_I I 99 (upd (I 99) 3 (nI 0)))) (J' := J) (S' := S) am_e242 rfl rfl rfl rfl ?_
      refine w_st (i' := 15) (ls' := [.ref 99, .int p1, .int p2]) (st' := [.ref 99]) (E' := E) (I' := (u_I I 99 (upd (I 99) 3 (nI 0)))) (J' := J) (S' := S) am_e242 rfl rfl rfl rfl ?_
      refine w_cI am_e242 rfl rfl (as := [.ref 99]) (rest := []) rfl rfl ?_
      show am_ww 234 0 [.ref 99] [] E (u_I I 99 (upd (I 99) 3 (nI 0))) J S _
      refine w_st (i' := 1) (ls' := [.ref 99]) (st' := [.ref 99]) (E' := E) (I' := (u_I I 99 (upd (I 99) 3 (nI 0)))) (J' := J) (S' := S) am_e234 rfl rfl rfl rfl ?_
      refine w_st (i' := 2) (ls' := [.ref 99]) (st' := [.ref 110]) (E' := E) (I' := (u_I I 99 (upd (I 99) 3 (nI 0)))) (J' := J) (S' := S) am_e234 rfl rfl rfl rfl ?_
      refine w_st (i' := 3) (ls' := [.ref 99]) (st' := [.int (nI 1), .ref 110]) (E' := E) (I' := (u_I I 99 (upd (I 99) 3 (nI 0)))) (J' := J) (S' := S) am_e234 rfl rfl rfl rfl ?_
      refine w_st (i' := 4) (ls' := [.ref 99]) (st' := [.int (nI 1), .ref 110, .int (nI 1), .ref 110]) (E' := E) (I' := (u_I I 99 (upd (I 99) 3 (nI 0)))) (J' := J) (S' := S) am_e234 rfl rfl rfl rfl ?_
      refine w_ia (k := 110) (n := 2) (jn := 1) am_e234 rfl rfl (by decide) (vp_in_nI (by decide) (by decide)) rfl ?_
      show am_ww 234 5 [.ref 99] [.int ((I 110) 1), .int (nI 1), .ref 110] E (u_I I 99 (upd (I 99) 3 (nI 0))) J S _
      refine w_st (i' := 6) (ls' := [.ref 99]) (st' := [.int (nI 1), .int ((I 110) 1), .int (nI 1), .ref 110]) (E' := E) (I' := (u_I I 99 (upd (I 99) 3 (nI 0)))) (J' := J) (S' := S) am_e234 rfl rfl rfl rfl ?_
      refine w_st (i' := 7) (ls' := [.ref 99]) (st' := [.int (((I 110) 1) + (nI 1)), .int (nI 1), .ref 110]) (E' := E) (I' := (u_I I 99 (upd (I 99) 3 (nI 0)))) (J' := J) (S' := S) am_e234 rfl rfl rfl rfl ?_
      refine w_is (k := 110) (n := 2) (jn := 1) am_e234 rfl rfl (by decide) (vp_in_nI (by decide) (by decide)) rfl ?_
      show am_ww 234 8 [.ref 99] [] E (u_I (u_I I 99 (upd (I 99) 3 (nI 0))) 110 (upd (I 110) 1 (((I 110) 1) + (nI 1)))) J S _
      refine w_st (i' := 9) (ls' := [.ref 99]) (st' := [.int (-1)]) (E' := E) (I' := (u_I (u_I I 99 (upd (I 99) 3 (nI 0))) 110 (upd (I 110) 1 (((I 110) 1) + (nI 1))))) (J' := J) (S' := S) am_e234 rfl rfl rfl rfl ?_
      refine w_end (E' := E) (I' := (u_I (u_I I 99 (upd (I 99) 3 (nI 0))) 110 (upd (I 110) 1 (((I 110) 1) + (nI 1))))) (J' := J) (S' := S) am_e234 rfl rfl rfl (q_mkI ?_)
      show am_ww 242 16 [.ref 99, .int p1, .int p2] [.int (-1)] E (u_I (u_I I 99 (upd (I 99) 3 (nI 0))) 110 (upd (I 110) 1 (((I 110) 1) + (nI 1)))) J S _
      exact w_end am_e242 rfl rfl rfl h
    · replace h := h.2 (of_decide_eq_false c)
      refine w_st (i' := 7) (ls' := [.int p1, .int (nI 0), .int (nI 2)]) (st' := [.int (nI 1)]) (E' := E) (I' := (u_I I 99 (upd (I 99) 3 (nI 0)))) (J' := J) (S' := S) am_e232 rfl rfl rfl rfl ?_
      refine w_st (i' := 9) (ls' := [.int p1, .int (nI 0), .int (nI 2)]) (st' := [.int (nI 1)]) (E' := E) (I' := (u_I I 99 (upd (I 99) 3 (nI 0)))) (J' := J) (S' := S) am_e232 rfl rfl rfl rfl ?_
      refine w_end (E' := E) (I' := (u_I I 99 (upd (I 99) 3 (nI 0)))) (J' := J) (S' := S) am_e232 rfl rfl rfl (q_mkI ?_)
      show am_ww 242 7 [.ref 99, .int p1, .int p2] [.int (nI 1)] E (u_I I 99 (upd (I 99) 3 (nI 0))) J S _
      refine w_st (i' := 8) (ls' := [.ref 99, .int p1, .int p2]) (st' := []) (E' := E) (I' := (u_I I 99 (upd (I 99) 3 (nI 0)))) (J' := J) (S' := S) am_e242 rfl rfl rfl rfl ?_
      refine w_st (i' := 9) (ls' := [.ref 99, .int p1, .int p2]) (st' := [.ref 99]) (E' := E) (I' := (u_I I 99 (upd (I 99) 3 (nI 0)))) (J' := J) (S' := S) am_e242 rfl rfl rfl rfl ?_
      refine w_st (i' := 10) (ls' := [.ref 99, .int p1, .int p2]) (st' := [.ref 124]) (E' := E) (I' := (u_I I 99 (upd (I 99) 3 (nI 0)))) (J' := J) (S' := S) am_e242 rfl rfl rfl rfl ?_
      refine w_st (i' := 11) (ls' := [.ref 99, .int p1, .int p2]) (st' := [.int p1, .ref 124]) (E' := E) (I' := (u_I I 99 (upd (I 99) 3 (nI 0)))) (J' := J) (S' := S) am_e242 rfl rfl rfl rfl ?_
      have hf1 := h.1
      replace h := h.2
      refine w_ia (k := 124) (n := 3) (jn := p1.toNatClampNeg) am_e242 rfl rfl (by decide) hf1 rfl ?_
      show am_ww 242 12 [.ref 99, .int p1, .int p2] [.int ((I 124) p1.toNatClampNeg)] E (u_I I 99 (upd (I 99) 3 (nI 0))) J S _
      refine w_st (i' := 13) (ls' := [.ref 99, .int p1, .int p2]) (st' := [.int (nI 30), .int ((I 124) p1.toNatClampNeg)]) (E' := E) (I' := (u_I I 99 (upd (I 99) 3 (nI 0)))) (J' := J) (S' := S) am_e242 rfl rfl rfl rfl ?_
      refine w_if2 am_e242 rfl rfl (fun c => ?_) (fun c => ?_)
      · replace h := h.2 (of_decide_eq_true c)
        refine w_st (i' := 18) (ls' := [.ref 99, .int p1, .int p2]) (st' := [.ref 99]) (E' := E) (I' := (u_I I 99 (upd (I 99) 3 (nI 0)))) (J' := J) (S' := S) am_e242 rfl rfl rfl rfl ?_
        refine w_st (i' := 19) (ls' := [.ref 99, .int p1, .int p2]) (st' := [.int p1, .ref 99]) (E' := E) (I' := (u_I I 99 (upd (I 99) 3 (nI 0)))) (J' := J) (S' := S) am_e242 rfl rfl rfl rfl ?_
        refine w_cV am_e242 rfl rfl (as := [.ref 99, .int p1]) (rest := []) rfl rfl (am_ww.mono h ?_)
        rintro _ E2 I2 J2 S2 ⟨rfl, h⟩
        refine q_mkV ?_
        refine w_st (i' := 21) (ls' := [.ref 99, .int p1, .int p2]) (st' := [.ref 99]) (E' := E2) (I' := I2) (J' := J2) (S' := S2) am_e242 rfl rfl rfl rfl ?_
        refine w_st (i' := 22) (ls' := [.ref 99, .int p1, .int p2]) (st' := [.ref 123]) (E' := E2) (I' := I2) (J' := J2) (S' := S2) am_e242 rfl rfl rfl rfl ?_
        refine w_st (i' := 23) (ls' := [.ref 99, .int p1, .int p2]) (st' := [.int (nI 30), .ref 123]) (E' := E2) (I' := I2) (J' := J2) (S' := S2) am_e242 rfl rfl rfl rfl ?_
        refine w_st (i' := 24) (ls' := [.ref 99, .int p1, .int p2]) (st' := [.int p1, .int (nI 30), .ref 123]) (E' := E2) (I' := I2) (J' := J2) (S' := S2) am_e242 rfl rfl rfl rfl ?_
        refine w_st (i' := 25) (ls' := [.ref 99, .int p1, .int p2]) (st' := [.int ((nI 30) * p1), .ref 123]) (E' := E2) (I' := I2) (J' := J2) (S' := S2) am_e242 rfl rfl rfl rfl ?_
        refine w_st (i' := 26) (ls' := [.ref 99, .int p1, .int p2]) (st' := [.ref 99, .int ((nI 30) * p1), .ref 123]) (E' := E2) (I' := I2) (J' := J2) (S' := S2) am_e242 rfl rfl rfl rfl ?_
        refine w_st (i' := 27) (ls' := [.ref 99, .int p1, .int p2]) (st' := [.ref 124, .int ((nI 30) * p1), .ref 123]) (E' := E2) (I' := I2) (J' := J2) (S' := S2) am_e242 rfl rfl rfl rfl ?_
        refine w_st (i' := 28) (ls' := [.ref 99, .int p1, .int p2]) (st' := [.int p1, .ref 124, .int ((nI 30) * p1), .ref 123]) (E' := E2) (I' := I2) (J' := J2) (S' := S2) am_e242 rfl rfl rfl rfl ?_
        refine w_ia (k := 124) (n := 3) (jn := p1.toNatClampNeg) am_e242 rfl rfl (by decide) hf1 rfl ?_
        refine w_st (i' := 30) (ls' := [.ref 99, .int p1, .int p2]) (st' := [.int (((nI 30) * p1) + ((I2 124) p1.toNatClampNeg)), .ref 123]) (E' := E2) (I' := I2) (J' := J2) (S' := S2) am_e242 rfl rfl rfl rfl ?_
        refine w_st (i' := 31) (ls' := [.ref 99, .int p1, .int p2]) (st' := [.int p2, .int (((nI 30) * p1) + ((I2 124) p1.toNatClampNeg)), .ref 123]) (E' := E2) (I' := I2) (J' := J2) (S' := S2) am_e242 rfl rfl rfl rfl ?_
        have hf3 := h.1
        replace h := h.2
        refine w_is (k := 123) (n := 90) (jn := (((nI 30) * p1) + ((I2 124) p1.toNatClampNeg)).toNatClampNeg) am_e242 rfl rfl (by decide) hf3 rfl ?_
        show am_ww 242 32 [.ref 99, .int p1, .int p2] [] E2 (u_I I2 123 (upd (I2 123) ((((nI 30) * p1) + ((I2 124) p1.toNatClampNeg)).toNatClampNeg) p2)) J2 S2 _
        refine w_st (i' := 33) (ls' := [.ref 99, .int p1, .int p2]) (st' := [.ref 99]) (E' := E2) (I' := (u_I I2 123 (upd (I2 123) ((((nI 30) * p1) + ((I2 124) p1.toNatClampNeg)).toNatClampNeg) p2))) (J' := J2) (S' := S2) am_e242 rfl rfl rfl rfl ?_
        refine w_st (i' := 34) (ls' := [.ref 99, .int p1, .int p2]) (st' := [.ref 124]) (E' := E2) (I' := (u_I I2 123 (upd (I2 123) ((((nI 30) * p1) + ((I2 124) p1.toNatClampNeg)).toNatClampNeg) p2))) (J' := J2) (S' := S2) am_e242 rfl rfl rfl rfl ?_
        refine w_st (i' := 35) (ls' := [.ref 99, .int p1, .int p2]) (st' := [.int p1, .ref 124]) (E' := E2) (I' := (u_I I2 123 (upd (I2 123) ((((nI 30) * p1) + ((I2 124) p1.toNatClampNeg)).toNatClampNeg) p2))) (J' := J2) (S' := S2) am_e242 rfl rfl rfl rfl ?_
        refine w_st (i' := 36) (ls' := [.ref 99, .int p1, .int p2]) (st' := [.int p1, .ref 124, .int p1, .ref 124]) (E' := E2) (I' := (u_I I2 123 (upd (I2 123) ((((nI 30) * p1) + ((I2 124) p1.toNatClampNeg)).toNatClampNeg) p2))) (J' := J2) (S' := S2) am_e242 rfl rfl rfl rfl ?_
        refine w_ia (k := 124) (n := 3) (jn := p1.toNatClampNeg) am_e242 rfl rfl (by decide) hf1 rfl ?_
        show am_ww 242 37 [.ref 99, .int p1, .int p2] [.int ((I2 124) p1.toNatClampNeg), .int p1, .ref 124] E2 (u_I I2 123 (upd (I2 123) ((((nI 30) * p1) + ((I2 124) p1.toNatClampNeg)).toNatClampNeg) p2)) J2 S2 _
        refine w_st (i' := 38) (ls' := [.ref 99, .int p1, .int p2]) (st' := [.int (nI 1), .int ((I2 124) p1.toNatClampNeg), .int p1, .ref 124]) (E' := E2) (I' := (u_I I2 123 (upd (I2 123) ((((nI 30) * p1) + ((I2 124) p1.toNatClampNeg)).toNatClampNeg) p2))) (J' := J2) (S' := S2) am_e242 rfl rfl rfl rfl ?_
        refine w_st (i' := 39) (ls' := [.ref 99, .int p1, .int p2]) (st' := [.int (((I2 124) p1.toNatClampNeg) + (nI 1)), .int p1, .ref 124]) (E' := E2) (I' := (u_I I2 123 (upd (I2 123) ((((nI 30) * p1) + ((I2 124) p1.toNatClampNeg)).toNatClampNeg) p2))) (J' := J2) (S' := S2) am_e242 rfl rfl rfl rfl ?_
        refine w_is (k := 124) (n := 3) (jn := p1.toNatClampNeg) am_e242 rfl rfl (by decide) hf1 rfl ?_
        show am_ww 242 40 [.ref 99, .int p1, .int p2] [] E2 (u_I (u_I I2 123 (upd (I2 123) ((((nI 30) * p1) + ((I2 124) p1.toNatClampNeg)).toNatClampNeg) p2)) 124 (upd (I2 124) p1.toNatClampNeg (((I2 124) p1.toNatClampNeg) + (nI 1)))) J2 S2 _
        refine w_st (i' := 41) (ls' := [.ref 99, .int p1, .int p2]) (st' := [.ref 99]) (E' := E2) (I' := (u_I (u_I I2 123 (upd (I2 123) ((((nI 30) * p1) + ((I2 124) p1.toNatClampNeg)).toNatClampNeg) p2)) 124 (upd (I2 124) p1.toNatClampNeg (((I2 124) p1.toNatClampNeg) + (nI 1))))) (J' := J2) (S' := S2) am_e242 rfl rfl rfl rfl ?_
        refine w_st (i' := 42) (ls' := [.ref 99, .int p1, .int p2]) (st' := [.ref 124]) (E' := E2) (I' := (u_I (u_I I2 123 (upd (I2 123) ((((nI 30) * p1) + ((I2 124) p1.toNatClampNeg)).toNatClampNeg) p2)) 124 (upd (I2 124) p1.toNatClampNeg (((I2 124) p1.toNatClampNeg) + (nI 1))))) (J' := J2) (S' := S2) am_e242 rfl rfl rfl rfl ?_
        refine w_st (i' := 43) (ls' := [.ref 99, .int p1, .int p2]) (st' := [.int p1, .ref 124]) (E' := E2) (I' := (u_I (u_I I2 123 (upd (I2 123) ((((nI 30) * p1) + ((I2 124) p1.toNatClampNeg)).toNatClampNeg) p2)) 124 (upd (I2 124) p1.toNatClampNeg (((I2 124) p1.toNatClampNeg) + (nI 1))))) (J' := J2) (S' := S2) am_e242 rfl rfl rfl rfl ?_
        refine w_ia (k := 124) (n := 3) (jn := p1.toNatClampNeg) am_e242 rfl rfl (by decide) hf1 rfl ?_
        show am_ww 242 44 [.ref 99, .int p1, .int p2] [.int ((upd (I2 124) p1.toNatClampNeg (((I2 124) p1.toNatClampNeg) + (nI 1))) p1.toNatClampNeg)] E2 (u_I (u_I I2 123 (upd (I2 123) ((((nI 30) * p1) + ((I2 124) p1.toNatClampNeg)).toNatClampNeg) p2)) 124 (upd (I2 124) p1.toNatClampNeg (((I2 124) p1.toNatClampNeg) + (nI 1)))) J2 S2 _
        exact w_ri am_e242 rfl rfl h
      · replace h := h.1 (Decidable.not_not.mp (of_decide_eq_false c))
        refine w_st (i' := 15) (ls' := [.ref 99, .int p1, .int p2]) (st' := [.ref 99]) (E' := E) (I' := (u_I I 99 (upd (I 99) 3 (nI 0)))) (J' := J) (S' := S) am_e242 rfl rfl rfl rfl ?_
        refine w_cI am_e242 rfl rfl (as := [.ref 99]) (rest := []) rfl rfl ?_
        show am_ww 234 0 [.ref 99] [] E (u_I I 99 (upd (I 99) 3 (nI 0))) J S _
        refine w_st (i' := 1) (ls' := [.ref 99]) (st' := [.ref 99]) (E' := E) (I' := (u_I I 99 (upd (I 99) 3 (nI 0)))) (J' := J) (S' := S) am_e234 rfl rfl rfl rfl ?_
        refine w_st (i' := 2) (ls' := [.ref 99]) (st' := [.ref 110]) (E' := E) (I' := (u_I I 99 (upd (I 99) 3 (nI 0)))) (J' := J) (S' := S) am_e234 rfl rfl rfl rfl ?_
        refine w_st (i' := 3) (ls' := [.ref 99]) (st' := [.int (nI 1), .ref 110]) (E' := E) (I' := (u_I I 99 (upd (I 99) 3 (nI 0)))) (J' := J) (S' := S) am_e234 rfl rfl rfl rfl ?_
        refine w_st (i' := 4) (ls' := [.ref 99]) (st' := [.int (nI 1), .ref 110, .int (nI 1), .ref 110]) (E' := E) (I' := (u_I I 99 (upd (I 99) 3 (nI 0)))) (J' := J) (S' := S) am_e234 rfl rfl rfl rfl ?_
        refine w_ia (k := 110) (n := 2) (jn := 1) am_e234 rfl rfl (by decide) (vp_in_nI (by decide) (by decide)) rfl ?_
        show am_ww 234 5 [.ref 99] [.int ((I 110) 1), .int (nI 1), .ref 110] E (u_I I 99 (upd (I 99) 3 (nI 0))) J S _
        refine w_st (i' := 6) (ls' := [.ref 99]) (st' := [.int (nI 1), .int ((I 110) 1), .int (nI 1), .ref 110]) (E' := E) (I' := (u_I I 99 (upd (I 99) 3 (nI 0)))) (J' := J) (S' := S) am_e234 rfl rfl rfl rfl ?_
        refine w_st (i' := 7) (ls' := [.ref 99]) (st' := [.int (((I 110) 1) + (nI 1)), .int (nI 1), .ref 110]) (E' := E) (I' := (u_I I 99 (upd (I 99) 3 (nI 0)))) (J' := J) (S' := S) am_e234 rfl rfl rfl rfl ?_
        refine w_is (k := 110) (n := 2) (jn := 1) am_e234 rfl rfl (by decide) (vp_in_nI (by decide) (by decide)) rfl ?_
        show am_ww 234 8 [.ref 99] [] E (u_I (u_I I 99 (upd (I 99) 3 (nI 0))) 110 (upd (I 110) 1 (((I 110) 1) + (nI 1)))) J S _
        refine w_st (i' := 9) (ls' := [.ref 99]) (st' := [.int (-1)]) (E' := E) (I' := (u_I (u_I I 99 (upd (I 99) 3 (nI 0))) 110 (upd (I 110) 1 (((I 110) 1) + (nI 1))))) (J' := J) (S' := S) am_e234 rfl rfl rfl rfl ?_
        refine w_end (E' := E) (I' := (u_I (u_I I 99 (upd (I 99) 3 (nI 0))) 110 (upd (I 110) 1 (((I 110) 1) + (nI 1))))) (J' := J) (S' := S) am_e234 rfl rfl rfl (q_mkI ?_)
        show am_ww 242 16 [.ref 99, .int p1, .int p2] [.int (-1)] E (u_I (u_I I 99 (upd (I 99) 3 (nI 0))) 110 (upd (I 110) 1 (((I 110) 1) + (nI 1)))) J S _
        exact w_end am_e242 rfl rfl rfl h
-- 243 undo
theorem g243_0  {E : am_Ev} {I : Nat → Nat → Int32} {J : Nat → Nat → Int64} {S : Nat → Nat → Option Nat} {Q : am_Qt}  (h : (((I 99) 43) = 0 → (Q (.inl (some (.int (-1)))) E (u_I I 99 (upd (I 99) 3 (nI 0))) J S)) ∧ (¬ ((I 99) 43) = 0 → (vp_in (((I 99) 43) - (nI 1)) 40 ∧ ((((I 126) ((((I 99) 43) - (nI 1)).toNatClampNeg)) = (-1) → (am_ww 243 33 [.ref 99] [] E (u_I I 99 (upd (upd (I 99) 3 (nI 0)) 43 (((I 99) 43) - (nI 1)))) J S Q)) ∧ (¬ ((I 126) ((((I 99) 43) - (nI 1)).toNatClampNeg)) = (-1) → (vp_in ((I 126) ((((I 99) 43) - (nI 1)).toNatClampNeg)) 3 ∧ (am_ww 243 33 [.ref 99] [] E (u_I (u_I I 99 (upd (upd (I 99) 3 (nI 0)) 43 (((I 99) 43) - (nI 1)))) 124 (upd (I 124) (((I 126) ((((I 99) 43) - (nI 1)).toNatClampNeg)).toNatClampNeg) (((I 124) (((I 126) ((((I 99) 43) - (nI 1)).toNatClampNeg)).toNatClampNeg)) - (nI 1)))) J S Q))))))) : am_ww 243 0 [.ref 99] [] E I J S Q := by
  refine w_st (i' := 1) (ls' := [.ref 99]) (st' := [.ref 99]) (E' := E) (I' := I) (J' := J) (S' := S) am_e243 rfl rfl rfl rfl ?_
  refine w_st (i' := 2) (ls' := [.ref 99]) (st' := [.int (nI 0), .ref 99]) (E' := E) (I' := I) (J' := J) (S' := S) am_e243 rfl rfl rfl rfl ?_
  refine w_st (i' := 3) (ls' := [.ref 99]) (st' := []) (E' := E) (I' := (u_I I 99 (upd (I 99) 3 (nI 0)))) (J' := J) (S' := S) am_e243 rfl rfl rfl rfl ?_
  refine w_st (i' := 4) (ls' := [.ref 99]) (st' := [.ref 99]) (E' := E) (I' := (u_I I 99 (upd (I 99) 3 (nI 0)))) (J' := J) (S' := S) am_e243 rfl rfl rfl rfl ?_
  refine w_st (i' := 5) (ls' := [.ref 99]) (st' := [.int ((I 99) 43)]) (E' := E) (I' := (u_I I 99 (upd (I 99) 3 (nI 0)))) (J' := J) (S' := S) am_e243 rfl rfl rfl rfl ?_
  refine w_if1 am_e243 rfl rfl (fun c => ?_) (fun c => ?_)
  · replace h := h.2 (of_decide_eq_true c)
    refine w_st (i' := 9) (ls' := [.ref 99]) (st' := [.ref 99]) (E' := E) (I' := (u_I I 99 (upd (I 99) 3 (nI 0)))) (J' := J) (S' := S) am_e243 rfl rfl rfl rfl ?_
    refine w_st (i' := 10) (ls' := [.ref 99]) (st' := [.ref 99, .ref 99]) (E' := E) (I' := (u_I I 99 (upd (I 99) 3 (nI 0)))) (J' := J) (S' := S) am_e243 rfl rfl rfl rfl ?_
    refine w_st (i' := 11) (ls' := [.ref 99]) (st' := [.int ((I 99) 43), .ref 99]) (E' := E) (I' := (u_I I 99 (upd (I 99) 3 (nI 0)))) (J' := J) (S' := S) am_e243 rfl rfl rfl rfl ?_
    refine w_st (i' := 12) (ls' := [.ref 99]) (st' := [.int (nI 1), .int ((I 99) 43), .ref 99]) (E' := E) (I' := (u_I I 99 (upd (I 99) 3 (nI 0)))) (J' := J) (S' := S) am_e243 rfl rfl rfl rfl ?_
    refine w_st (i' := 13) (ls' := [.ref 99]) (st' := [.int (((I 99) 43) - (nI 1)), .ref 99]) (E' := E) (I' := (u_I I 99 (upd (I 99) 3 (nI 0)))) (J' := J) (S' := S) am_e243 rfl rfl rfl rfl ?_
    refine w_st (i' := 14) (ls' := [.ref 99]) (st' := []) (E' := E) (I' := (u_I (u_I I 99 (upd (I 99) 3 (nI 0))) 99 (upd (upd (I 99) 3 (nI 0)) 43 (((I 99) 43) - (nI 1))))) (J' := J) (S' := S) am_e243 rfl rfl rfl rfl ?_
    refine w_eI (uI_0 ..) ?_
    show am_ww 243 14 [.ref 99] [] E (u_I I 99 (upd (upd (I 99) 3 (nI 0)) 43 (((I 99) 43) - (nI 1)))) J S _
    refine w_st (i' := 15) (ls' := [.ref 99]) (st' := [.ref 99]) (E' := E) (I' := (u_I I 99 (upd (upd (I 99) 3 (nI 0)) 43 (((I 99) 43) - (nI 1))))) (J' := J) (S' := S) am_e243 rfl rfl rfl rfl ?_
    refine w_st (i' := 16) (ls' := [.ref 99]) (st' := [.ref 126]) (E' := E) (I' := (u_I I 99 (upd (upd (I 99) 3 (nI 0)) 43 (((I 99) 43) - (nI 1))))) (J' := J) (S' := S) am_e243 rfl rfl rfl rfl ?_
    refine w_st (i' := 17) (ls' := [.ref 99]) (st' := [.ref 99, .ref 126]) (E' := E) (I' := (u_I I 99 (upd (upd (I 99) 3 (nI 0)) 43 (((I 99) 43) - (nI 1))))) (J' := J) (S' := S) am_e243 rfl rfl rfl rfl ?_
    refine w_st (i' := 18) (ls' := [.ref 99]) (st' := [.int (((I 99) 43) - (nI 1)), .ref 126]) (E' := E) (I' := (u_I I 99 (upd (upd (I 99) 3 (nI 0)) 43 (((I 99) 43) - (nI 1))))) (J' := J) (S' := S) am_e243 rfl rfl rfl rfl ?_
    have hf1 := h.1
    replace h := h.2
    refine w_ia (k := 126) (n := 40) (jn := (((I 99) 43) - (nI 1)).toNatClampNeg) am_e243 rfl rfl (by decide) hf1 rfl ?_
    show am_ww 243 19 [.ref 99] [.int ((I 126) ((((I 99) 43) - (nI 1)).toNatClampNeg))] E (u_I I 99 (upd (upd (I 99) 3 (nI 0)) 43 (((I 99) 43) - (nI 1)))) J S _
    refine w_st (i' := 20) (ls' := [.ref 99]) (st' := [.int (-1), .int ((I 126) ((((I 99) 43) - (nI 1)).toNatClampNeg))]) (E' := E) (I' := (u_I I 99 (upd (upd (I 99) 3 (nI 0)) 43 (((I 99) 43) - (nI 1))))) (J' := J) (S' := S) am_e243 rfl rfl rfl rfl ?_
    refine w_if2 am_e243 rfl rfl (fun c => ?_) (fun c => ?_)
    · replace h := h.1 (of_decide_eq_true c)
      exact h
    · replace h := h.2 (of_decide_eq_false c)
      refine w_st (i' := 22) (ls' := [.ref 99]) (st' := [.ref 99]) (E' := E) (I' := (u_I I 99 (upd (upd (I 99) 3 (nI 0)) 43 (((I 99) 43) - (nI 1))))) (J' := J) (S' := S) am_e243 rfl rfl rfl rfl ?_
      refine w_st (i' := 23) (ls' := [.ref 99]) (st' := [.ref 124]) (E' := E) (I' := (u_I I 99 (upd (upd (I 99) 3 (nI 0)) 43 (((I 99) 43) - (nI 1))))) (J' := J) (S' := S) am_e243 rfl rfl rfl rfl ?_
      refine w_st (i' := 24) (ls' := [.ref 99]) (st' := [.ref 99, .ref 124]) (E' := E) (I' := (u_I I 99 (upd (upd (I 99) 3 (nI 0)) 43 (((I 99) 43) - (nI 1))))) (J' := J) (S' := S) am_e243 rfl rfl rfl rfl ?_
      refine w_st (i' := 25) (ls' := [.ref 99]) (st' := [.ref 126, .ref 124]) (E' := E) (I' := (u_I I 99 (upd (upd (I 99) 3 (nI 0)) 43 (((I 99) 43) - (nI 1))))) (J' := J) (S' := S) am_e243 rfl rfl rfl rfl ?_
      refine w_st (i' := 26) (ls' := [.ref 99]) (st' := [.ref 99, .ref 126, .ref 124]) (E' := E) (I' := (u_I I 99 (upd (upd (I 99) 3 (nI 0)) 43 (((I 99) 43) - (nI 1))))) (J' := J) (S' := S) am_e243 rfl rfl rfl rfl ?_
      refine w_st (i' := 27) (ls' := [.ref 99]) (st' := [.int (((I 99) 43) - (nI 1)), .ref 126, .ref 124]) (E' := E) (I' := (u_I I 99 (upd (upd (I 99) 3 (nI 0)) 43 (((I 99) 43) - (nI 1))))) (J' := J) (S' := S) am_e243 rfl rfl rfl rfl ?_
      refine w_ia (k := 126) (n := 40) (jn := (((I 99) 43) - (nI 1)).toNatClampNeg) am_e243 rfl rfl (by decide) hf1 rfl ?_
      show am_ww 243 28 [.ref 99] [.int ((I 126) ((((I 99) 43) - (nI 1)).toNatClampNeg)), .ref 124] E (u_I I 99 (upd (upd (I 99) 3 (nI 0)) 43 (((I 99) 43) - (nI 1)))) J S _
      refine w_st (i' := 29) (ls' := [.ref 99]) (st' := [.int ((I 126) ((((I 99) 43) - (nI 1)).toNatClampNeg)), .ref 124, .int ((I 126) ((((I 99) 43) - (nI 1)).toNatClampNeg)), .ref 124]) (E' := E) (I' := (u_I I 99 (upd (upd (I 99) 3 (nI 0)) 43 (((I 99) 43) - (nI 1))))) (J' := J) (S' := S) am_e243 rfl rfl rfl rfl ?_
      have hf2 := h.1
      replace h := h.2
      refine w_ia (k := 124) (n := 3) (jn := ((I 126) ((((I 99) 43) - (nI 1)).toNatClampNeg)).toNatClampNeg) am_e243 rfl rfl (by decide) hf2 rfl ?_
      show am_ww 243 30 [.ref 99] [.int ((I 124) (((I 126) ((((I 99) 43) - (nI 1)).toNatClampNeg)).toNatClampNeg)), .int ((I 126) ((((I 99) 43) - (nI 1)).toNatClampNeg)), .ref 124] E (u_I I 99 (upd (upd (I 99) 3 (nI 0)) 43 (((I 99) 43) - (nI 1)))) J S _
      refine w_st (i' := 31) (ls' := [.ref 99]) (st' := [.int (nI 1), .int ((I 124) (((I 126) ((((I 99) 43) - (nI 1)).toNatClampNeg)).toNatClampNeg)), .int ((I 126) ((((I 99) 43) - (nI 1)).toNatClampNeg)), .ref 124]) (E' := E) (I' := (u_I I 99 (upd (upd (I 99) 3 (nI 0)) 43 (((I 99) 43) - (nI 1))))) (J' := J) (S' := S) am_e243 rfl rfl rfl rfl ?_
      refine w_st (i' := 32) (ls' := [.ref 99]) (st' := [.int (((I 124) (((I 126) ((((I 99) 43) - (nI 1)).toNatClampNeg)).toNatClampNeg)) - (nI 1)), .int ((I 126) ((((I 99) 43) - (nI 1)).toNatClampNeg)), .ref 124]) (E' := E) (I' := (u_I I 99 (upd (upd (I 99) 3 (nI 0)) 43 (((I 99) 43) - (nI 1))))) (J' := J) (S' := S) am_e243 rfl rfl rfl rfl ?_
      refine w_is (k := 124) (n := 3) (jn := ((I 126) ((((I 99) 43) - (nI 1)).toNatClampNeg)).toNatClampNeg) am_e243 rfl rfl (by decide) hf2 rfl ?_
      show am_ww 243 33 [.ref 99] [] E (u_I (u_I I 99 (upd (upd (I 99) 3 (nI 0)) 43 (((I 99) 43) - (nI 1)))) 124 (upd (I 124) (((I 126) ((((I 99) 43) - (nI 1)).toNatClampNeg)).toNatClampNeg) (((I 124) (((I 126) ((((I 99) 43) - (nI 1)).toNatClampNeg)).toNatClampNeg)) - (nI 1)))) J S _
      exact h
  · replace h := h.1 (Decidable.not_not.mp (of_decide_eq_false c))
    refine w_st (i' := 7) (ls' := [.ref 99]) (st' := [.int (-1)]) (E' := E) (I' := (u_I I 99 (upd (I 99) 3 (nI 0)))) (J' := J) (S' := S) am_e243 rfl rfl rfl rfl ?_
    exact w_end am_e243 rfl rfl rfl h
theorem g243_33  {E : am_Ev} {I : Nat → Nat → Int32} {J : Nat → Nat → Int64} {S : Nat → Nat → Option Nat} {Q : am_Qt}  (h : vp_in ((I 99) 43) 40 ∧ (Q (.inl (some (.int ((I 99) 43)))) E (u_I I 99 (upd (upd (I 99) 12 ((I 127) (((I 99) 43).toNatClampNeg))) 13 (if ((I 127) (((I 99) 43).toNatClampNeg)) < ((I 99) 13) then ((I 127) (((I 99) 43).toNatClampNeg)) else ((I 99) 13)))) J S)) : am_ww 243 33 [.ref 99] [] E I J S Q := by
  refine w_st (i' := 34) (ls' := [.ref 99]) (st' := [.ref 99]) (E' := E) (I' := I) (J' := J) (S' := S) am_e243 rfl rfl rfl rfl ?_
  refine w_st (i' := 35) (ls' := [.ref 99]) (st' := [.ref 99, .ref 99]) (E' := E) (I' := I) (J' := J) (S' := S) am_e243 rfl rfl rfl rfl ?_
  refine w_st (i' := 36) (ls' := [.ref 99]) (st' := [.ref 127, .ref 99]) (E' := E) (I' := I) (J' := J) (S' := S) am_e243 rfl rfl rfl rfl ?_
  refine w_st (i' := 37) (ls' := [.ref 99]) (st' := [.ref 99, .ref 127, .ref 99]) (E' := E) (I' := I) (J' := J) (S' := S) am_e243 rfl rfl rfl rfl ?_
  refine w_st (i' := 38) (ls' := [.ref 99]) (st' := [.int ((I 99) 43), .ref 127, .ref 99]) (E' := E) (I' := I) (J' := J) (S' := S) am_e243 rfl rfl rfl rfl ?_
  have hf1 := h.1
  replace h := h.2
  refine w_ia (k := 127) (n := 40) (jn := ((I 99) 43).toNatClampNeg) am_e243 rfl rfl (by decide) hf1 rfl ?_
  refine w_st (i' := 40) (ls' := [.ref 99]) (st' := []) (E' := E) (I' := (u_I I 99 (upd (I 99) 12 ((I 127) (((I 99) 43).toNatClampNeg))))) (J' := J) (S' := S) am_e243 rfl rfl rfl rfl ?_
  refine w_st (i' := 41) (ls' := [.ref 99]) (st' := [.ref 99]) (E' := E) (I' := (u_I I 99 (upd (I 99) 12 ((I 127) (((I 99) 43).toNatClampNeg))))) (J' := J) (S' := S) am_e243 rfl rfl rfl rfl ?_
  refine w_st (i' := 42) (ls' := [.ref 99]) (st' := [.ref 99, .ref 99]) (E' := E) (I' := (u_I I 99 (upd (I 99) 12 ((I 127) (((I 99) 43).toNatClampNeg))))) (J' := J) (S' := S) am_e243 rfl rfl rfl rfl ?_
  refine w_st (i' := 43) (ls' := [.ref 99]) (st' := [.int ((I 99) 13), .ref 99]) (E' := E) (I' := (u_I I 99 (upd (I 99) 12 ((I 127) (((I 99) 43).toNatClampNeg))))) (J' := J) (S' := S) am_e243 rfl rfl rfl rfl ?_
  refine w_st (i' := 44) (ls' := [.ref 99]) (st' := [.ref 99, .int ((I 99) 13), .ref 99]) (E' := E) (I' := (u_I I 99 (upd (I 99) 12 ((I 127) (((I 99) 43).toNatClampNeg))))) (J' := J) (S' := S) am_e243 rfl rfl rfl rfl ?_
  refine w_st (i' := 45) (ls' := [.ref 99]) (st' := [.int ((I 127) (((I 99) 43).toNatClampNeg)), .int ((I 99) 13), .ref 99]) (E' := E) (I' := (u_I I 99 (upd (I 99) 12 ((I 127) (((I 99) 43).toNatClampNeg))))) (J' := J) (S' := S) am_e243 rfl rfl rfl rfl ?_
  refine w_st (i' := 46) (ls' := [.ref 99]) (st' := [.int (if ((I 127) (((I 99) 43).toNatClampNeg)) < ((I 99) 13) then ((I 127) (((I 99) 43).toNatClampNeg)) else ((I 99) 13)), .ref 99]) (E' := E) (I' := (u_I I 99 (upd (I 99) 12 ((I 127) (((I 99) 43).toNatClampNeg))))) (J' := J) (S' := S) am_e243 rfl rfl rfl rfl ?_
  refine w_st (i' := 47) (ls' := [.ref 99]) (st' := []) (E' := E) (I' := (u_I (u_I I 99 (upd (I 99) 12 ((I 127) (((I 99) 43).toNatClampNeg)))) 99 (upd (upd (I 99) 12 ((I 127) (((I 99) 43).toNatClampNeg))) 13 (if ((I 127) (((I 99) 43).toNatClampNeg)) < ((I 99) 13) then ((I 127) (((I 99) 43).toNatClampNeg)) else ((I 99) 13))))) (J' := J) (S' := S) am_e243 rfl rfl rfl rfl ?_
  refine w_eI (uI_0 ..) ?_
  show am_ww 243 47 [.ref 99] [] E (u_I I 99 (upd (upd (I 99) 12 ((I 127) (((I 99) 43).toNatClampNeg))) 13 (if ((I 127) (((I 99) 43).toNatClampNeg)) < ((I 99) 13) then ((I 127) (((I 99) 43).toNatClampNeg)) else ((I 99) 13)))) J S _
  refine w_st (i' := 48) (ls' := [.ref 99]) (st' := [.ref 99]) (E' := E) (I' := (u_I I 99 (upd (upd (I 99) 12 ((I 127) (((I 99) 43).toNatClampNeg))) 13 (if ((I 127) (((I 99) 43).toNatClampNeg)) < ((I 99) 13) then ((I 127) (((I 99) 43).toNatClampNeg)) else ((I 99) 13))))) (J' := J) (S' := S) am_e243 rfl rfl rfl rfl ?_
  refine w_st (i' := 49) (ls' := [.ref 99]) (st' := [.int ((I 99) 43)]) (E' := E) (I' := (u_I I 99 (upd (upd (I 99) 12 ((I 127) (((I 99) 43).toNatClampNeg))) 13 (if ((I 127) (((I 99) 43).toNatClampNeg)) < ((I 99) 13) then ((I 127) (((I 99) 43).toNatClampNeg)) else ((I 99) 13))))) (J' := J) (S' := S) am_e243 rfl rfl rfl rfl ?_
  exact w_ri am_e243 rfl rfl h
-- 244 switched
theorem g244_0 {p1 : Int32} {p2 : Int32} {E : am_Ev} {I : Nat → Nat → Int32} {J : Nat → Nat → Int64} {S : Nat → Nat → Option Nat} {Q : am_Qt}  (h : vp_in (((nI 51) * ((I 99) 12)) + (nI 47)) 20451 ∧ (∀ w2 : Int32, w2 = ((I 117) ((((nI 51) * ((I 99) 12)) + (nI 47)).toNatClampNeg)) → ((p1 < (nI 0) → (Q (.inl (some (.int (nI 0)))) E (u_I I 99 (upd (upd (I 99) 3 (nI 0)) 3 (nI 1))) J S)) ∧ (¬ p1 < (nI 0) → (((w2 - (nI 1)) < p1 → (Q (.inl (some (.int (nI 0)))) E (u_I I 99 (upd (upd (I 99) 3 (nI 0)) 3 (nI 1))) J S)) ∧ (¬ (w2 - (nI 1)) < p1 → ((p2 < (nI 0) → (Q (.inl (some (.int (nI 0)))) E (u_I I 99 (upd (upd (I 99) 3 (nI 0)) 3 (nI 1))) J S)) ∧ (¬ p2 < (nI 0) → (((nI 2) < p2 → (Q (.inl (some (.int (nI 0)))) E (u_I I 99 (upd (upd (I 99) 3 (nI 0)) 3 (nI 1))) J S)) ∧ (¬ (nI 2) < p2 → (((p2 = 0 → (vp_in p1 400 ∧ True)) ∧ (¬ p2 = 0 → ((p2 = (nI 1) → (vp_in p1 400 ∧ True)) ∧ (¬ p2 = (nI 1) → (vp_in p1 400 ∧ True))))) ∧ (∀ w5 : Int32, w5 = (if p2 = 0 then ((I 120) p1.toNatClampNeg) else (if p2 = (nI 1) then ((I 121) p1.toNatClampNeg) else ((I 122) p1.toNatClampNeg))) → (Q (.inl (some (.int w5))) E (u_I I 99 (upd (I 99) 3 (nI 0))) J S))))))))))))) : am_ww 244 0 [.ref 99, .int p1, .int p2] [] E I J S Q := by
  refine w_st (i' := 1) (ls' := [.ref 99, .int p1, .int p2]) (st' := [.ref 99]) (E' := E) (I' := I) (J' := J) (S' := S) am_e244 rfl rfl rfl rfl ?_
  refine w_st (i' := 2) (ls' := [.ref 99, .int p1, .int p2]) (st' := [.int (nI 0), .ref 99]) (E' := E) (I' := I) (J' := J) (S' := S) am_e244 rfl rfl rfl rfl ?_
  refine w_st (i' := 3) (ls' := [.ref 99, .int p1, .int p2]) (st' := []) (E' := E) (I' := (u_I I 99 (upd (I 99) 3 (nI 0)))) (J' := J) (S' := S) am_e244 rfl rfl rfl rfl ?_
  refine w_st (i' := 4) (ls' := [.ref 99, .int p1, .int p2]) (st' := [.int p1]) (E' := E) (I' := (u_I I 99 (upd (I 99) 3 (nI 0)))) (J' := J) (S' := S) am_e244 rfl rfl rfl rfl ?_
  refine w_st (i' := 5) (ls' := [.ref 99, .int p1, .int p2]) (st' := [.int (nI 0), .int p1]) (E' := E) (I' := (u_I I 99 (upd (I 99) 3 (nI 0)))) (J' := J) (S' := S) am_e244 rfl rfl rfl rfl ?_
  refine w_st (i' := 6) (ls' := [.ref 99, .int p1, .int p2]) (st' := [.ref 99, .int (nI 0), .int p1]) (E' := E) (I' := (u_I I 99 (upd (I 99) 3 (nI 0)))) (J' := J) (S' := S) am_e244 rfl rfl rfl rfl ?_
  refine w_st (i' := 7) (ls' := [.ref 99, .int p1, .int p2]) (st' := [.ref 99, .ref 99, .int (nI 0), .int p1]) (E' := E) (I' := (u_I I 99 (upd (I 99) 3 (nI 0)))) (J' := J) (S' := S) am_e244 rfl rfl rfl rfl ?_
  refine w_st (i' := 8) (ls' := [.ref 99, .int p1, .int p2]) (st' := [.int ((I 99) 12), .ref 99, .int (nI 0), .int p1]) (E' := E) (I' := (u_I I 99 (upd (I 99) 3 (nI 0)))) (J' := J) (S' := S) am_e244 rfl rfl rfl rfl ?_
  refine w_st (i' := 9) (ls' := [.ref 99, .int p1, .int p2]) (st' := [.int (nI 47), .int ((I 99) 12), .ref 99, .int (nI 0), .int p1]) (E' := E) (I' := (u_I I 99 (upd (I 99) 3 (nI 0)))) (J' := J) (S' := S) am_e244 rfl rfl rfl rfl ?_
  refine w_cI am_e244 rfl rfl (as := [.ref 99, .int ((I 99) 12), .int (nI 47)]) (rest := [.int (nI 0), .int p1]) rfl rfl ?_
  show am_ww 245 0 [.ref 99, .int ((I 99) 12), .int (nI 47)] [] E (u_I I 99 (upd (I 99) 3 (nI 0))) J S _
  refine w_st (i' := 1) (ls' := [.ref 99, .int ((I 99) 12), .int (nI 47)]) (st' := [.ref 99]) (E' := E) (I' := (u_I I 99 (upd (I 99) 3 (nI 0)))) (J' := J) (S' := S) am_e245 rfl rfl rfl rfl ?_
  refine w_st (i' := 2) (ls' := [.ref 99, .int ((I 99) 12), .int (nI 47)]) (st' := [.ref 117]) (E' := E) (I' := (u_I I 99 (upd (I 99) 3 (nI 0)))) (J' := J) (S' := S) am_e245 rfl rfl rfl rfl ?_
  refine w_st (i' := 3) (ls' := [.ref 99, .int ((I 99) 12), .int (nI 47)]) (st' := [.int (nI 51), .ref 117]) (E' := E) (I' := (u_I I 99 (upd (I 99) 3 (nI 0)))) (J' := J) (S' := S) am_e245 rfl rfl rfl rfl ?_
  refine w_st (i' := 4) (ls' := [.ref 99, .int ((I 99) 12), .int (nI 47)]) (st' := [.int ((I 99) 12), .int (nI 51), .ref 117]) (E' := E) (I' := (u_I I 99 (upd (I 99) 3 (nI 0)))) (J' := J) (S' := S) am_e245 rfl rfl rfl rfl ?_
  refine w_st (i' := 5) (ls' := [.ref 99, .int ((I 99) 12), .int (nI 47)]) (st' := [.int ((nI 51) * ((I 99) 12)), .ref 117]) (E' := E) (I' := (u_I I 99 (upd (I 99) 3 (nI 0)))) (J' := J) (S' := S) am_e245 rfl rfl rfl rfl ?_
  refine w_st (i' := 6) (ls' := [.ref 99, .int ((I 99) 12), .int (nI 47)]) (st' := [.int (nI 47), .int ((nI 51) * ((I 99) 12)), .ref 117]) (E' := E) (I' := (u_I I 99 (upd (I 99) 3 (nI 0)))) (J' := J) (S' := S) am_e245 rfl rfl rfl rfl ?_
  refine w_st (i' := 7) (ls' := [.ref 99, .int ((I 99) 12), .int (nI 47)]) (st' := [.int (((nI 51) * ((I 99) 12)) + (nI 47)), .ref 117]) (E' := E) (I' := (u_I I 99 (upd (I 99) 3 (nI 0)))) (J' := J) (S' := S) am_e245 rfl rfl rfl rfl ?_
  have hf1 := h.1
  replace h := h.2
  refine w_ia (k := 117) (n := 20451) (jn := (((nI 51) * ((I 99) 12)) + (nI 47)).toNatClampNeg) am_e245 rfl rfl (by decide) hf1 rfl ?_
  show am_ww 245 8 [.ref 99, .int ((I 99) 12), .int (nI 47)] [.int ((I 117) ((((nI 51) * ((I 99) 12)) + (nI 47)).toNatClampNeg))] E (u_I I 99 (upd (I 99) 3 (nI 0))) J S _
  refine w_ri am_e245 rfl rfl (q_mkI ?_)
  show am_ww 244 10 [.ref 99, .int p1, .int p2] [.int ((I 117) ((((nI 51) * ((I 99) 12)) + (nI 47)).toNatClampNeg)), .int (nI 0), .int p1] E (u_I I 99 (upd (I 99) 3 (nI 0))) J S _
  refine w_var (fun w2 => am_ww 244 10 [.ref 99, .int p1, .int p2] [.int w2, .int (nI 0), .int p1] E (u_I I 99 (upd (I 99) 3 (nI 0))) J S _) ((I 117) ((((nI 51) * ((I 99) 12)) + (nI 47)).toNatClampNeg)) (fun w2 hw2 => ?_)
  replace h := h w2 hw2
  refine w_st (i' := 11) (ls' := [.ref 99, .int p1, .int p2]) (st' := [.int (nI 1), .int w2, .int (nI 0), .int p1]) (E' := E) (I' := (u_I I 99 (upd (I 99) 3 (nI 0)))) (J' := J) (S' := S) am_e244 rfl rfl rfl rfl ?_
  refine w_st (i' := 12) (ls' := [.ref 99, .int p1, .int p2]) (st' := [.int (w2 - (nI 1)), .int (nI 0), .int p1]) (E' := E) (I' := (u_I I 99 (upd (I 99) 3 (nI 0)))) (J' := J) (S' := S) am_e244 rfl rfl rfl rfl ?_
  refine w_cI am_e244 rfl rfl (as := [.int p1, .int (nI 0), .int (w2 - (nI 1))]) (rest := []) rfl rfl ?_
  show am_ww 232 0 [.int p1, .int (nI 0), .int (w2 - (nI 1))] [] E (u_I I 99 (upd (I 99) 3 (nI 0))) J S _
  refine w_st (i' := 1) (ls' := [.int p1, .int (nI 0), .int (w2 - (nI 1))]) (st' := [.int p1]) (E' := E) (I' := (u_I I 99 (upd (I 99) 3 (nI 0)))) (J' := J) (S' := S) am_e232 rfl rfl rfl rfl ?_
  refine w_st (i' := 2) (ls' := [.int p1, .int (nI 0), .int (w2 - (nI 1))]) (st' := [.int (nI 0), .int p1]) (E' := E) (I' := (u_I I 99 (upd (I 99) 3 (nI 0)))) (J' := J) (S' := S) am_e232 rfl rfl rfl rfl ?_
  refine w_if2 am_e232 rfl rfl (fun c => ?_) (fun c => ?_)
  · replace h := h.1 (of_decide_eq_true c)
    refine w_st (i' := 9) (ls' := [.int p1, .int (nI 0), .int (w2 - (nI 1))]) (st' := [.int (nI 0)]) (E' := E) (I' := (u_I I 99 (upd (I 99) 3 (nI 0)))) (J' := J) (S' := S) am_e232 rfl rfl rfl rfl ?_
    refine w_end (E' := E) (I' := (u_I I 99 (upd (I 99) 3 (nI 0)))) (J' := J) (S' := S) am_e232 rfl rfl rfl (q_mkI ?_)
    show am_ww 244 13 [.ref 99, .int p1, .int p2] [.int (nI 0)] E (u_I I 99 (upd (I 99) 3 (nI 0))) J S _
    refine w_st (i' := 19) (ls' := [.ref 99, .int p1, .int p2]) (st' := []) (E' := E) (I' := (u_I I 99 (upd (I 99) 3 (nI 0)))) (J' := J) (S' := S) am_e244 rfl rfl rfl rfl ?_
    refine w_st (i' := 20) (ls' := [.ref 99, .int p1, .int p2]) (st' := [.ref 99]) (E' := E) (I' := (u_I I 99 (upd (I 99) 3 (nI 0)))) (J' := J) (S' := S) am_e244 rfl rfl rfl rfl ?_
    refine w_st (i' := 21) (ls' := [.ref 99, .int p1, .int p2]) (st' := [.int (nI 1), .ref 99]) (E' := E) (I' := (u_I I 99 (upd (I 99) 3 (nI 0)))) (J' := J) (S' := S) am_e244 rfl rfl rfl rfl ?_
    refine w_cI am_e244 rfl rfl (as := [.ref 99, .int (nI 1)]) (rest := []) rfl rfl ?_
    show am_ww 189 0 [.ref 99, .int (nI 1)] [] E (u_I I 99 (upd (I 99) 3 (nI 0))) J S _
    refine w_st (i' := 1) (ls' := [.ref 99, .int (nI 1)]) (st' := [.ref 99]) (E' := E) (I' := (u_I I 99 (upd (I 99) 3 (nI 0)))) (J' := J) (S' := S) am_e189 rfl rfl rfl rfl ?_
    refine w_st (i' := 2) (ls' := [.ref 99, .int (nI 1)]) (st' := [.int (nI 1), .ref 99]) (E' := E) (I' := (u_I I 99 (upd (I 99) 3 (nI 0)))) (J' := J) (S' := S) am_e189 rfl rfl rfl rfl ?_
    refine w_st (i' := 3) (ls' := [.ref 99, .int (nI 1)]) (st' := []) (E' := E) (I' := (u_I (u_I I 99 (upd (I 99) 3 (nI 0))) 99 (upd (upd (I 99) 3 (nI 0)) 3 (nI 1)))) (J' := J) (S' := S) am_e189 rfl rfl rfl rfl ?_
    refine w_eI (uI_0 ..) ?_
    show am_ww 189 3 [.ref 99, .int (nI 1)] [] E (u_I I 99 (upd (upd (I 99) 3 (nI 0)) 3 (nI 1))) J S _
    refine w_st (i' := 4) (ls' := [.ref 99, .int (nI 1)]) (st' := [.int (nI 0)]) (E' := E) (I' := (u_I I 99 (upd (upd (I 99) 3 (nI 0)) 3 (nI 1)))) (J' := J) (S' := S) am_e189 rfl rfl rfl rfl ?_
    refine w_end (E' := E) (I' := (u_I I 99 (upd (upd (I 99) 3 (nI 0)) 3 (nI 1)))) (J' := J) (S' := S) am_e189 rfl rfl rfl (q_mkI ?_)
    show am_ww 244 22 [.ref 99, .int p1, .int p2] [.int (nI 0)] E (u_I I 99 (upd (upd (I 99) 3 (nI 0)) 3 (nI 1))) J S _
    exact w_end am_e244 rfl rfl rfl h
  · replace h := h.2 (of_decide_eq_false c)
    refine w_st (i' := 4) (ls' := [.int p1, .int (nI 0), .int (w2 - (nI 1))]) (st' := [.int p1]) (E' := E) (I' := (u_I I 99 (upd (I 99) 3 (nI 0)))) (J' := J) (S' := S) am_e232 rfl rfl rfl rfl ?_
    refine w_st (i' := 5) (ls' := [.int p1, .int (nI 0), .int (w2 - (nI 1))]) (st' := [.int (w2 - (nI 1)), .int p1]) (E' := E) (I' := (u_I I 99 (upd (I 99) 3 (nI 0)))) (J' := J) (S' := S) am_e232 rfl rfl rfl rfl ?_
    refine w_if2 am_e232 rfl rfl (fun c => ?_) (fun c => ?_)
    · replace h := h.1 (of_decide_eq_true c)
      refine w_st (i' := 9) (ls' := [.int p1, .int (nI 0), .int (w2 - (nI 1))]) (st' := [.int (nI 0)]) (E' := E) (I' := (u_I I 99 (upd (I 99) 3 (nI 0)))) (J' := J) (S' := S) am_e232 rfl rfl rfl rfl ?_
      refine w_end (E' := E) (I' := (u_I I 99 (upd (I 99) 3 (nI 0)))) (J' := J) (S' := S) am_e232 rfl rfl rfl (q_mkI ?_)
      show am_ww 244 13 [.ref 99, .int p1, .int p2] [.int (nI 0)] E (u_I I 99 (upd (I 99) 3 (nI 0))) J S _
      refine w_st (i' := 19) (ls' := [.ref 99, .int p1, .int p2]) (st' := []) (E' := E) (I' := (u_I I 99 (upd (I 99) 3 (nI 0)))) (J' := J) (S' := S) am_e244 rfl rfl rfl rfl ?_
      refine w_st (i' := 20) (ls' := [.ref 99, .int p1, .int p2]) (st' := [.ref 99]) (E' := E) (I' := (u_I I 99 (upd (I 99) 3 (nI 0)))) (J' := J) (S' := S) am_e244 rfl rfl rfl rfl ?_
      refine w_st (i' := 21) (ls' := [.ref 99, .int p1, .int p2]) (st' := [.int (nI 1), .ref 99]) (E' := E) (I' := (u_I I 99 (upd (I 99) 3 (nI 0)))) (J' := J) (S' := S) am_e244 rfl rfl rfl rfl ?_
      refine w_cI am_e244 rfl rfl (as := [.ref 99, .int (nI 1)]) (rest := []) rfl rfl ?_
      show am_ww 189 0 [.ref 99, .int (nI 1)] [] E (u_I I 99 (upd (I 99) 3 (nI 0))) J S _
      refine w_st (i' := 1) (ls' := [.ref 99, .int (nI 1)]) (st' := [.ref 99]) (E' := E) (I' := (u_I I 99 (upd (I 99) 3 (nI 0)))) (J' := J) (S' := S) am_e189 rfl rfl rfl rfl ?_
      refine w_st (i' := 2) (ls' := [.ref 99, .int (nI 1)]) (st' := [.int (nI 1), .ref 99]) (E' := E) (I' := (u_I I 99 (upd (I 99) 3 (nI 0)))) (J' := J) (S' := S) am_e189 rfl rfl rfl rfl ?_
      refine w_st (i' := 3) (ls' := [.ref 99, .int (nI 1)]) (st' := []) (E' := E) (I' := (u_I (u_I I 99 (upd (I 99) 3 (nI 0))) 99 (upd (upd (I 99) 3 (nI 0)) 3 (nI 1)))) (J' := J) (S' := S) am_e189 rfl rfl rfl rfl ?_
      refine w_eI (uI_0 ..) ?_
      show am_ww 189 3 [.ref 99, .int (nI 1)] [] E (u_I I 99 (upd (upd (I 99) 3 (nI 0)) 3 (nI 1))) J S _
      refine w_st (i' := 4) (ls' := [.ref 99, .int (nI 1)]) (st' := [.int (nI 0)]) (E' := E) (I' := (u_I I 99 (upd (upd (I 99) 3 (nI 0)) 3 (nI 1)))) (J' := J) (S' := S) am_e189 rfl rfl rfl rfl ?_
      refine w_end (E' := E) (I' := (u_I I 99 (upd (upd (I 99) 3 (nI 0)) 3 (nI 1)))) (J' := J) (S' := S) am_e189 rfl rfl rfl (q_mkI ?_)
      show am_ww 244 22 [.ref 99, .int p1, .int p2] [.int (nI 0)] E (u_I I 99 (upd (upd (I 99) 3 (nI 0)) 3 (nI 1))) J S _
      exact w_end am_e244 rfl rfl rfl h
    · replace h := h.2 (of_decide_eq_false c)
      refine w_st (i' := 7) (ls' := [.int p1, .int (nI 0), .int (w2 - (nI 1))]) (st' := [.int (nI 1)]) (E' := E) (I' := (u_I I 99 (upd (I 99) 3 (nI 0)))) (J' := J) (S' := S) am_e232 rfl rfl rfl rfl ?_
      refine w_st (i' := 9) (ls' := [.int p1, .int (nI 0), .int (w2 - (nI 1))]) (st' := [.int (nI 1)]) (E' := E) (I' := (u_I I 99 (upd (I 99) 3 (nI 0)))) (J' := J) (S' := S) am_e232 rfl rfl rfl rfl ?_
      refine w_end (E' := E) (I' := (u_I I 99 (upd (I 99) 3 (nI 0)))) (J' := J) (S' := S) am_e232 rfl rfl rfl (q_mkI ?_)
      show am_ww 244 13 [.ref 99, .int p1, .int p2] [.int (nI 1)] E (u_I I 99 (upd (I 99) 3 (nI 0))) J S _
      refine w_st (i' := 14) (ls' := [.ref 99, .int p1, .int p2]) (st' := []) (E' := E) (I' := (u_I I 99 (upd (I 99) 3 (nI 0)))) (J' := J) (S' := S) am_e244 rfl rfl rfl rfl ?_
      refine w_st (i' := 15) (ls' := [.ref 99, .int p1, .int p2]) (st' := [.int p2]) (E' := E) (I' := (u_I I 99 (upd (I 99) 3 (nI 0)))) (J' := J) (S' := S) am_e244 rfl rfl rfl rfl ?_
      refine w_st (i' := 16) (ls' := [.ref 99, .int p1, .int p2]) (st' := [.int (nI 0), .int p2]) (E' := E) (I' := (u_I I 99 (upd (I 99) 3 (nI 0)))) (J' := J) (S' := S) am_e244 rfl rfl rfl rfl ?_
      refine w_st (i' := 17) (ls' := [.ref 99, .int p1, .int p2]) (st' := [.int (nI 2), .int (nI 0), .int p2]) (E' := E) (I' := (u_I I 99 (upd (I 99) 3 (nI 0)))) (J' := J) (S' := S) am_e244 rfl rfl rfl rfl ?_
      refine w_cI am_e244 rfl rfl (as := [.int p2, .int (nI 0), .int (nI 2)]) (rest := []) rfl rfl ?_
      show am_ww 232 0 [.int p2, .int (nI 0), .int (nI 2)] [] E (u_I I 99 (upd (I 99) 3 (nI 0))) J S _
      refine w_st (i' := 1) (ls' := [.int p2, .int (nI 0), .int (nI 2)]) (st' := [.int p2]) (E' := E) (I' := (u_I I 99 (upd (I 99) 3 (nI 0)))) (J' := J) (S' := S) am_e232 rfl rfl rfl rfl ?_
      refine w_st (i' := 2) (ls' := [.int p2, .int (nI 0), .int (nI 2)]) (st' := [.int (nI 0), .int p2]) (E' := E) (I' := (u_I I 99 (upd (I 99) 3 (nI 0)))) (J' := J) (S' := S) am_e232 rfl rfl rfl rfl ?_
      refine w_if2 am_e232 rfl rfl (fun c => ?_) (fun c => ?_)
      · replace h := h.1 (of_decide_eq_true c)
        refine w_st (i' := 9) (ls' := [.int p2, .int (nI 0), .int (nI 2)]) (st' := [.int (nI 0)]) (E' := E) (I' := (u_I I 99 (upd (I 99) 3 (nI 0)))) (J' := J) (S' := S) am_e232 rfl rfl rfl rfl ?_
        refine w_end (E' := E) (I' := (u_I I 99 (upd (I 99) 3 (nI 0)))) (J' := J) (S' := S) am_e232 rfl rfl rfl (q_mkI ?_)
        show am_ww 244 18 [.ref 99, .int p1, .int p2] [.int (nI 0)] E (u_I I 99 (upd (I 99) 3 (nI 0))) J S _
        refine w_st (i' := 19) (ls' := [.ref 99, .int p1, .int p2]) (st' := []) (E' := E) (I' := (u_I I 99 (upd (I 99) 3 (nI 0)))) (J' := J) (S' := S) am_e244 rfl rfl rfl rfl ?_
        refine w_st (i' := 20) (ls' := [.ref 99, .int p1, .int p2]) (st' := [.ref 99]) (E' := E) (I' := (u_I I 99 (upd (I 99) 3 (nI 0)))) (J' := J) (S' := S) am_e244 rfl rfl rfl rfl ?_
        refine w_st (i' := 21) (ls' := [.ref 99, .int p1, .int p2]) (st' := [.int (nI 1), .ref 99]) (E' := E) (I' := (u_I I 99 (upd (I 99) 3 (nI 0)))) (J' := J) (S' := S) am_e244 rfl rfl rfl rfl ?_
        refine w_cI am_e244 rfl rfl (as := [.ref 99, .int (nI 1)]) (rest := []) rfl rfl ?_
        show am_ww 189 0 [.ref 99, .int (nI 1)] [] E (u_I I 99 (upd (I 99) 3 (nI 0))) J S _
        refine w_st (i' := 1) (ls' := [.ref 99, .int (nI 1)]) (st' := [.ref 99]) (E' := E) (I' := (u_I I 99 (upd (I 99) 3 (nI 0)))) (J' := J) (S' := S) am_e189 rfl rfl rfl rfl ?_
        refine w_st (i' := 2) (ls' := [.ref 99, .int (nI 1)]) (st' := [.int (nI 1), .ref 99]) (E' := E) (I' := (u_I I 99 (upd (I 99) 3 (nI 0)))) (J' := J) (S' := S) am_e189 rfl rfl rfl rfl ?_
        refine w_st (i' := 3) (ls' := [.ref 99, .int (nI 1)]) (st' := []) (E' := E) (I' := (u_I (u_I I 99 (upd (I 99) 3 (nI 0))) 99 (upd (upd (I 99) 3 (nI 0)) 3 (nI 1)))) (J' := J) (S' := S) am_e189 rfl rfl rfl rfl ?_
        refine w_eI (uI_0 ..) ?_
        show am_ww 189 3 [.ref 99, .int (nI 1)] [] E (u_I I 99 (upd (upd (I 99) 3 (nI 0)) 3 (nI 1))) J S _
        refine w_st (i' := 4) (ls' := [.ref 99, .int (nI 1)]) (st' := [.int (nI 0)]) (E' := E) (I' := (u_I I 99 (upd (upd (I 99) 3 (nI 0)) 3 (nI 1)))) (J' := J) (S' := S) am_e189 rfl rfl rfl rfl ?_
        refine w_end (E' := E) (I' := (u_I I 99 (upd (upd (I 99) 3 (nI 0)) 3 (nI 1)))) (J' := J) (S' := S) am_e189 rfl rfl rfl (q_mkI ?_)
        show am_ww 244 22 [.ref 99, .int p1, .int p2] [.int (nI 0)] E (u_I I 99 (upd (upd (I 99) 3 (nI 0)) 3 (nI 1))) J S _
        exact w_end am_e244 rfl rfl rfl h
      · replace h := h.2 (of_decide_eq_false c)
        refine w_st (i' := 4) (ls' := [.int p2, .int (nI 0), .int (nI 2)]) (st' := [.int p2]) (E' := E) (I' := (u_I I 99 (upd (I 99) 3 (nI 0)))) (J' := J) (S' := S) am_e232 rfl rfl rfl rfl ?_
        refine w_st (i' := 5) (ls' := [.int p2, .int (nI 0), .int (nI 2)]) (st' := [.int (nI 2), .int p2]) (E' := E) (I' := (u_I I 99 (upd (I 99) 3 (nI 0)))) (J' := J) (S' := S) am_e232 rfl rfl rfl rfl ?_
        refine w_if2 am_e232 rfl rfl (fun c => ?_) (fun c => ?_)
        · replace h := h.1 (of_decide_eq_true c)
          refine w_st (i' := 9) (ls' := [.int p2, .int (nI 0), .int (nI 2)]) (st' := [.int (nI 0)]) (E' := E) (I' := (u_I I 99 (upd (I 99) 3 (nI 0)))) (J' := J) (S' := S) am_e232 rfl rfl rfl rfl ?_
          refine w_end (E' := E) (I' := (u_I I 99 (upd (I 99) 3 (nI 0)))) (J' := J) (S' := S) am_e232 rfl rfl rfl (q_mkI ?_)
          show am_ww 244 18 [.ref 99, .int p1, .int p2] [.int (nI 0)] E (u_I I 99 (upd (I 99) 3 (nI 0))) J S _
          refine w_st (i' := 19) (ls' := [.ref 99, .int p1, .int p2]) (st' := []) (E' := E) (I' := (u_I I 99 (upd (I 99) 3 (nI 0)))) (J' := J) (S' := S) am_e244 rfl rfl rfl rfl ?_
          refine w_st (i' := 20) (ls' := [.ref 99, .int p1, .int p2]) (st' := [.ref 99]) (E' := E) (I' := (u_I I 99 (upd (I 99) 3 (nI 0)))) (J' := J) (S' := S) am_e244 rfl rfl rfl rfl ?_
          refine w_st (i' := 21) (ls' := [.ref 99, .int p1, .int p2]) (st' := [.int (nI 1), .ref 99]) (E' := E) (I' := (u_I I 99 (upd (I 99) 3 (nI 0)))) (J' := J) (S' := S) am_e244 rfl rfl rfl rfl ?_
          refine w_cI am_e244 rfl rfl (as := [.ref 99, .int (nI 1)]) (rest := []) rfl rfl ?_
          show am_ww 189 0 [.ref 99, .int (nI 1)] [] E (u_I I 99 (upd (I 99) 3 (nI 0))) J S _
          refine w_st (i' := 1) (ls' := [.ref 99, .int (nI 1)]) (st' := [.ref 99]) (E' := E) (I' := (u_I I 99 (upd (I 99) 3 (nI 0)))) (J' := J) (S' := S) am_e189 rfl rfl rfl rfl ?_
          refine w_st (i' := 2) (ls' := [.ref 99, .int (nI 1)]) (st' := [.int (nI 1), .ref 99]) (E' := E) (I' := (u_I I 99 (upd (I 99) 3 (nI 0)))) (J' := J) (S' := S) am_e189 rfl rfl rfl rfl ?_
          refine w_st (i' := 3) (ls' := [.ref 99, .int (nI 1)]) (st' := []) (E' := E) (I' := (u_I (u_I I 99 (upd (I 99) 3 (nI 0))) 99 (upd (upd (I 99) 3 (nI 0)) 3 (nI 1)))) (J' := J) (S' := S) am_e189 rfl rfl rfl rfl ?_
          refine w_eI (uI_0 ..) ?_
          show am_ww 189 3 [.ref 99, .int (nI 1)] [] E (u_I I 99 (upd (upd (I 99) 3 (nI 0)) 3 (nI 1))) J S _
          refine w_st (i' := 4) (ls' := [.ref 99, .int (nI 1)]) (st' := [.int (nI 0)]) (E' := E) (I' := (u_I I 99 (upd (upd (I 99) 3 (nI 0)) 3 (nI 1)))) (J' := J) (S' := S) am_e189 rfl rfl rfl rfl ?_
          refine w_end (E' := E) (I' := (u_I I 99 (upd (upd (I 99) 3 (nI 0)) 3 (nI 1)))) (J' := J) (S' := S) am_e189 rfl rfl rfl (q_mkI ?_)
          show am_ww 244 22 [.ref 99, .int p1, .int p2] [.int (nI 0)] E (u_I I 99 (upd (upd (I 99) 3 (nI 0)) 3 (nI 1))) J S _
          exact w_end am_e244 rfl rfl rfl h
        · replace h := h.2 (of_decide_eq_false c)
          refine w_st (i' := 7) (ls' := [.int p2, .int (nI 0), .int (nI 2)]) (st' := [.int (nI 1)]) (E' := E) (I' := (u_I I 99 (upd (I 99) 3 (nI 0)))) (J' := J) (S' := S) am_e232 rfl rfl rfl rfl ?_
          refine w_st (i' := 9) (ls' := [.int p2, .int (nI 0), .int (nI 2)]) (st' := [.int (nI 1)]) (E' := E) (I' := (u_I I 99 (upd (I 99) 3 (nI 0)))) (J' := J) (S' := S) am_e232 rfl rfl rfl rfl ?_
          refine w_end (E' := E) (I' := (u_I I 99 (upd (I 99) 3 (nI 0)))) (J' := J) (S' := S) am_e232 rfl rfl rfl (q_mkI ?_)
          show am_ww 244 18 [.ref 99, .int p1, .int p2] [.int (nI 1)] E (u_I I 99 (upd (I 99) 3 (nI 0))) J S _
          refine w_st (i' := 23) (ls' := [.ref 99, .int p1, .int p2]) (st' := []) (E' := E) (I' := (u_I I 99 (upd (I 99) 3 (nI 0)))) (J' := J) (S' := S) am_e244 rfl rfl rfl rfl ?_
          refine w_st (i' := 24) (ls' := [.ref 99, .int p1, .int p2]) (st' := [.int p2]) (E' := E) (I' := (u_I I 99 (upd (I 99) 3 (nI 0)))) (J' := J) (S' := S) am_e244 rfl rfl rfl rfl ?_
          refine w_mg (i := 42) (ls' := [.ref 99, .int p1, .int p2]) (st' := [.int (if p2 = 0 then ((I 120) p1.toNatClampNeg) else (if p2 = (nI 1) then ((I 121) p1.toNatClampNeg) else ((I 122) p1.toNatClampNeg)))]) (fun hm => ?_) ?_
          · replace h := h.1
            refine w_if1 am_e244 rfl rfl (fun c => ?_) (fun c => ?_)
            · have m3 : ¬ (p2 = 0) := (of_decide_eq_true c)
              replace h := h.2 m3
              refine w_st (i' := 31) (ls' := [.ref 99, .int p1, .int p2]) (st' := [.int p2]) (E' := E) (I' := (u_I I 99 (upd (I 99) 3 (nI 0)))) (J' := J) (S' := S) am_e244 rfl rfl rfl rfl ?_
              refine w_st (i' := 32) (ls' := [.ref 99, .int p1, .int p2]) (st' := [.int (nI 1), .int p2]) (E' := E) (I' := (u_I I 99 (upd (I 99) 3 (nI 0)))) (J' := J) (S' := S) am_e244 rfl rfl rfl rfl ?_
              refine w_if2 am_e244 rfl rfl (fun c => ?_) (fun c => ?_)
              · have m4 : ¬ (p2 = (nI 1)) := (of_decide_eq_true c)
                replace h := h.2 m4
                refine w_st (i' := 39) (ls' := [.ref 99, .int p1, .int p2]) (st' := [.ref 99]) (E' := E) (I' := (u_I I 99 (upd (I 99) 3 (nI 0)))) (J' := J) (S' := S) am_e244 rfl rfl rfl rfl ?_
                refine w_st (i' := 40) (ls' := [.ref 99, .int p1, .int p2]) (st' := [.ref 122]) (E' := E) (I' := (u_I I 99 (upd (I 99) 3 (nI 0)))) (J' := J) (S' := S) am_e244 rfl rfl rfl rfl ?_
                refine w_st (i' := 41) (ls' := [.ref 99, .int p1, .int p2]) (st' := [.int p1, .ref 122]) (E' := E) (I' := (u_I I 99 (upd (I 99) 3 (nI 0)))) (J' := J) (S' := S) am_e244 rfl rfl rfl rfl ?_
                refine w_ia (k := 122) (n := 400) (jn := p1.toNatClampNeg) am_e244 rfl rfl (by decide) h.1 rfl ?_
                replace h := h.2
                show am_ww 244 42 [.ref 99, .int p1, .int p2] [.int ((I 122) p1.toNatClampNeg)] E (u_I I 99 (upd (I 99) 3 (nI 0))) J S _
                first | exact hm | (simp only [if_neg m3, if_neg m4] at hm; exact hm)
              · have m4 : p2 = (nI 1) := (Decidable.not_not.mp (of_decide_eq_false c))
                replace h := h.1 m4
                refine w_st (i' := 34) (ls' := [.ref 99, .int p1, .int p2]) (st' := [.ref 99]) (E' := E) (I' := (u_I I 99 (upd (I 99) 3 (nI 0)))) (J' := J) (S' := S) am_e244 rfl rfl rfl rfl ?_
                refine w_st (i' := 35) (ls' := [.ref 99, .int p1, .int p2]) (st' := [.ref 121]) (E' := E) (I' := (u_I I 99 (upd (I 99) 3 (nI 0)))) (J' := J) (S' := S) am_e244 rfl rfl rfl rfl ?_
                refine w_st (i' := 36) (ls' := [.ref 99, .int p1, .int p2]) (st' := [.int p1, .ref 121]) (E' := E) (I' := (u_I I 99 (upd (I 99) 3 (nI 0)))) (J' := J) (S' := S) am_e244 rfl rfl rfl rfl ?_
                refine w_ia (k := 121) (n := 400) (jn := p1.toNatClampNeg) am_e244 rfl rfl (by decide) h.1 rfl ?_
                replace h := h.2
                show am_ww 244 37 [.ref 99, .int p1, .int p2] [.int ((I 121) p1.toNatClampNeg)] E (u_I I 99 (upd (I 99) 3 (nI 0))) J S _
                refine w_st (i' := 42) (ls' := [.ref 99, .int p1, .int p2]) (st' := [.int ((I 121) p1.toNatClampNeg)]) (E' := E) (I' := (u_I I 99 (upd (I 99) 3 (nI 0)))) (J' := J) (S' := S) am_e244 rfl rfl rfl rfl ?_
                first | exact hm | (simp only [if_neg m3, if_pos m4] at hm; exact hm)
            · have m3 : p2 = 0 := (Decidable.not_not.mp (of_decide_eq_false c))
              replace h := h.1 m3
              refine w_st (i' := 26) (ls' := [.ref 99, .int p1, .int p2]) (st' := [.ref 99]) (E' := E) (I' := (u_I I 99 (upd (I 99) 3 (nI 0)))) (J' := J) (S' := S) am_e244 rfl rfl rfl rfl ?_
              refine w_st (i' := 27) (ls' := [.ref 99, .int p1, .int p2]) (st' := [.ref 120]) (E' := E) (I' := (u_I I 99 (upd (I 99) 3 (nI 0)))) (J' := J) (S' := S) am_e244 rfl rfl rfl rfl ?_
              refine w_st (i' := 28) (ls' := [.ref 99, .int p1, .int p2]) (st' := [.int p1, .ref 120]) (E' := E) (I' := (u_I I 99 (upd (I 99) 3 (nI 0)))) (J' := J) (S' := S) am_e244 rfl rfl rfl rfl ?_
              refine w_ia (k := 120) (n := 400) (jn := p1.toNatClampNeg) am_e244 rfl rfl (by decide) h.1 rfl ?_
              replace h := h.2
              show am_ww 244 29 [.ref 99, .int p1, .int p2] [.int ((I 120) p1.toNatClampNeg)] E (u_I I 99 (upd (I 99) 3 (nI 0))) J S _
              refine w_st (i' := 42) (ls' := [.ref 99, .int p1, .int p2]) (st' := [.int ((I 120) p1.toNatClampNeg)]) (E' := E) (I' := (u_I I 99 (upd (I 99) 3 (nI 0)))) (J' := J) (S' := S) am_e244 rfl rfl rfl rfl ?_
              first | exact hm | (simp only [if_pos m3] at hm; exact hm)
          replace h := h.2
          refine w_var (fun w5 => am_ww 244 42 [.ref 99, .int p1, .int p2] [.int w5] E (u_I I 99 (upd (I 99) 3 (nI 0))) J S _) (if p2 = 0 then ((I 120) p1.toNatClampNeg) else (if p2 = (nI 1) then ((I 121) p1.toNatClampNeg) else ((I 122) p1.toNatClampNeg))) (fun w5 hw5 => ?_)
          replace h := h w5 hw5
          exact w_ri am_e244 rfl rfl h
-- 246 input
theorem g246_0 {p1 : Int32} {p2 : Int32} {E : am_Ev} {I : Nat → Nat → Int32} {J : Nat → Nat → Int64} {S : Nat → Nat → Option Nat} {Q : am_Qt}  (h : (p1 < (nI 0) → (Q (.inl (some (.int (nI 0)))) E (u_I I 99 (upd (upd (I 99) 3 (nI 0)) 3 (nI 1))) J S)) ∧ (¬ p1 < (nI 0) → (((nI 2) < p1 → (Q (.inl (some (.int (nI 0)))) E (u_I I 99 (upd (upd (I 99) 3 (nI 0)) 3 (nI 1))) J S)) ∧ (¬ (nI 2) < p1 → (vp_in (((nI 51) * ((I 99) 12)) + ((nI 48) + p1)) 20451 ∧ (∀ w2 : Int32, w2 = ((I 117) ((((nI 51) * ((I 99) 12)) + ((nI 48) + p1)).toNatClampNeg)) → ((p2 < (nI 0) → (Q (.inl (some (.int (nI 0)))) E (u_I I 99 (upd (upd (I 99) 3 (nI 0)) 3 (nI 1))) J S)) ∧ (¬ p2 < (nI 0) → (((w2 - (nI 1)) < p2 → (Q (.inl (some (.int (nI 0)))) E (u_I I 99 (upd (upd (I 99) 3 (nI 0)) 3 (nI 1))) J S)) ∧ (¬ (w2 - (nI 1)) < p2 → (vp_in (((nI 30) * p1) + p2) 90 ∧ (Q (.inl (some (.int ((I 123) ((((nI 30) * p1) + p2).toNatClampNeg))))) E (u_I I 99 (upd (I 99) 3 (nI 0))) J S)))))))))))) : am_ww 246 0 [.ref 99, .int p1, .int p2] [] E I J S Q := by
  refine w_st (i' := 1) (ls' := [.ref 99, .int p1, .int p2]) (st' := [.ref 99]) (E' := E) (I' := I) (J' := J) (S' := S) am_e246 rfl rfl rfl rfl ?_
  refine w_st (i' := 2) (ls' := [.ref 99, .int p1, .int p2]) (st' := [.int (nI 0), .ref 99]) (E' := E) (I' := I) (J' := J) (S' := S) am_e246 rfl rfl rfl rfl ?_
  refine w_st (i' := 3) (ls' := [.ref 99, .int p1, .int p2]) (st' := []) (E' := E) (I' := (u_I I 99 (upd (I 99) 3 (nI 0)))) (J' := J) (S' := S) am_e246 rfl rfl rfl rfl ?_
  refine w_st (i' := 4) (ls' := [.ref 99, .int p1, .int p2]) (st' := [.int p1]) (E' := E) (I' := (u_I I 99 (upd (I 99) 3 (nI 0)))) (J' := J) (S' := S) am_e246 rfl rfl rfl rfl ?_
  refine w_st (i' := 5) (ls' := [.ref 99, .int p1, .int p2]) (st' := [.int (nI 0), .int p1]) (E' := E) (I' := (u_I I 99 (upd (I 99) 3 (nI 0)))) (J' := J) (S' := S) am_e246 rfl rfl rfl rfl ?_
  refine w_st (i' := 6) (ls' := [.ref 99, .int p1, .int p2]) (st' := [.int (nI 2), .int (nI 0), .int p1]) (E' := E) (I' := (u_I I 99 (upd (I 99) 3 (nI 0)))) (J' := J) (S' := S) am_e246 rfl rfl rfl rfl ?_
  refine w_cI am_e246 rfl rfl (as := [.int p1, .int (nI 0), .int (nI 2)]) (rest := []) rfl rfl ?_
  show am_ww 232 0 [.int p1, .int (nI 0), .int (nI 2)] [] E (u_I I 99 (upd (I 99) 3 (nI 0))) J S _
  refine w_st (i' := 1) (ls' := [.int p1, .int (nI 0), .int (nI 2)]) (st' := [.int p1]) (E' := E) (I' := (u_I I 99 (upd (I 99) 3 (nI 0)))) (J' := J) (S' := S) am_e232 rfl rfl rfl rfl ?_
  refine w_st (i' := 2) (ls' := [.int p1, .int (nI 0), .int (nI 2)]) (st' := [.int (nI 0), .int p1]) (E' := E) (I' := (u_I I 99 (upd (I 99) 3 (nI 0)))) (J' := J) (S' := S) am_e232 rfl rfl rfl rfl ?_
  refine w_if2 am_e232 rfl rfl (fun c => ?_) (fun c => ?_)
  · replace h := h.1 (of_decide_eq_true c)
    refine w_st (i' := 9) (ls' := [.int p1, .int (nI 0), .int (nI 2)]) (st' := [.int (nI 0)]) (E' := E) (I' := (u_I I 99 (upd (I 99) 3 (nI 0)))) (J' := J) (S' := S) am_e232 rfl rfl rfl rfl ?_
    refine w_end (E' := E) (I' := (u_I I 99 (upd (I 99) 3 (nI 0)))) (J' := J) (S' := S) am_e232 rfl rfl rfl (q_mkI ?_)
    show am_ww 246 7 [.ref 99, .int p1, .int p2] [.int (nI 0)] E (u_I I 99 (upd (I 99) 3 (nI 0))) J S _
    refine w_st (i' := 30) (ls' := [.ref 99, .int p1, .int p2]) (st' := []) (E' := E) (I' := (u_I I 99 (upd (I 99) 3 (nI 0)))) (J' := J) (S' := S) am_e246 rfl rfl rfl rfl ?_
    refine w_st (i' := 31) (ls' := [.ref 99, .int p1, .int p2]) (st' := [.ref 99]) (E' := E) (I' := (u_I I 99 (upd (I 99) 3 (nI 0)))) (J' := J) (S' := S) am_e246 rfl rfl rfl rfl ?_
    refine w_st (i' := 32) (ls' := [.ref 99, .int p1, .int p2]) (st' := [.int (nI 1), .ref 99]) (E' := E) (I' := (u_I I 99 (upd (I 99) 3 (nI 0)))) (J' := J) (S' := S) am_e246 rfl rfl rfl rfl ?_
    refine w_cI am_e246 rfl rfl (as := [.ref 99, .int (nI 1)]) (rest := []) rfl rfl ?_
    show am_ww 189 0 [.ref 99, .int (nI 1)] [] E (u_I I 99 (upd (I 99) 3 (nI 0))) J S _
    refine w_st (i' := 1) (ls' := [.ref 99, .int (nI 1)]) (st' := [.ref 99]) (E' := E) (I' := (u_I I 99 (upd (I 99) 3 (nI 0)))) (J' := J) (S' := S) am_e189 rfl rfl rfl rfl ?_
    refine w_st (i' := 2) (ls' := [.ref 99, .int (nI 1)]) (st' := [.int (nI 1), .ref 99]) (E' := E) (I' := (u_I I 99 (upd (I 99) 3 (nI 0)))) (J' := J) (S' := S) am_e189 rfl rfl rfl rfl ?_
    refine w_st (i' := 3) (ls' := [.ref 99, .int (nI 1)]) (st' := []) (E' := E) (I' := (u_I (u_I I 99 (upd (I 99) 3 (nI 0))) 99 (upd (upd (I 99) 3 (nI 0)) 3 (nI 1)))) (J' := J) (S' := S) am_e189 rfl rfl rfl rfl ?_
    refine w_eI (uI_0 ..) ?_
    show am_ww 189 3 [.ref 99, .int (nI 1)] [] E (u_I I 99 (upd (upd (I 99) 3 (nI 0)) 3 (nI 1))) J S _
    refine w_st (i' := 4) (ls' := [.ref 99, .int (nI 1)]) (st' := [.int (nI 0)]) (E' := E) (I' := (u_I I 99 (upd (upd (I 99) 3 (nI 0)) 3 (nI 1)))) (J' := J) (S' := S) am_e189 rfl rfl rfl rfl ?_
    refine w_end (E' := E) (I' := (u_I I 99 (upd (upd (I 99) 3 (nI 0)) 3 (nI 1)))) (J' := J) (S' := S) am_e189 rfl rfl rfl (q_mkI ?_)
    show am_ww 246 33 [.ref 99, .int p1, .int p2] [.int (nI 0)] E (u_I I 99 (upd (upd (I 99) 3 (nI 0)) 3 (nI 1))) J S _
    exact w_end am_e246 rfl rfl rfl h
  · replace h := h.2 (of_decide_eq_false c)
    refine w_st (i' := 4) (ls' := [.int p1, .int (nI 0), .int (nI 2)]) (st' := [.int p1]) (E' := E) (I' := (u_I I 99 (upd (I 99) 3 (nI 0)))) (J' := J) (S' := S) am_e232 rfl rfl rfl rfl ?_
    refine w_st (i' := 5) (ls' := [.int p1, .int (nI 0), .int (nI 2)]) (st' := [.int (nI 2), .int p1]) (E' := E) (I' := (u_I I 99 (upd (I 99) 3 (nI 0)))) (J' := J) (S' := S) am_e232 rfl rfl rfl rfl ?_
    refine w_if2 am_e232 rfl rfl (fun c => ?_) (fun c => ?_)
    · replace h := h.1 (of_decide_eq_true c)
      refine w_st (i' := 9) (ls' := [.int p1, .int (nI 0), .int (nI 2)]) (st' := [.int (nI 0)]) (E' := E) (I' := (u_I I 99 (upd (I 99) 3 (nI 0)))) (J' := J) (S' := S) am_e232 rfl rfl rfl rfl ?_
      refine w_end (E' := E) (I' := (u_I I 99 (upd (I 99) 3 (nI 0)))) (J' := J) (S' := S) am_e232 rfl rfl rfl (q_mkI ?_)
      show am_ww 246 7 [.ref 99, .int p1, .int p2] [.int (nI 0)] E (u_I I 99 (upd (I 99) 3 (nI 0))) J S _
      refine w_st (i' := 30) (ls' := [.ref 99, .int p1, .int p2]) (st' := []) (E' := E) (I' := (u_I I 99 (upd (I 99) 3 (nI 0)))) (J' := J) (S' := S) am_e246 rfl rfl rfl rfl ?_
      refine w_st (i' := 31) (ls' := [.ref 99, .int p1, .int p2]) (st' := [.ref 99]) (E' := E) (I' := (u_I I 99 (upd (I 99) 3 (nI 0)))) (J' := J) (S' := S) am_e246 rfl rfl rfl rfl ?_
      refine w_st (i' := 32) (ls' := [.ref 99, .int p1, .int p2]) (st' := [.int (nI 1), .ref 99]) (E' := E) (I' := (u_I I 99 (upd (I 99) 3 (nI 0)))) (J' := J) (S' := S) am_e246 rfl rfl rfl rfl ?_
      refine w_cI am_e246 rfl rfl (as := [.ref 99, .int (nI 1)]) (rest := []) rfl rfl ?_
      show am_ww 189 0 [.ref 99, .int (nI 1)] [] E (u_I I 99 (upd (I 99) 3 (nI 0))) J S _
      refine w_st (i' := 1) (ls' := [.ref 99, .int (nI 1)]) (st' := [.ref 99]) (E' := E) (I' := (u_I I 99 (upd (I 99) 3 (nI 0)))) (J' := J) (S' := S) am_e189 rfl rfl rfl rfl ?_
      refine w_st (i' := 2) (ls' := [.ref 99, .int (nI 1)]) (st' := [.int (nI 1), .ref 99]) (E' := E) (I' := (u_I I 99 (upd (I 99) 3 (nI 0)))) (J' := J) (S' := S) am_e189 rfl rfl rfl rfl ?_
      refine w_st (i' := 3) (ls' := [.ref 99, .int (nI 1)]) (st' := []) (E' := E) (I' := (u_I (u_I I 99 (upd (I 99) 3 (nI 0))) 99 (upd (upd (I 99) 3 (nI 0)) 3 (nI 1)))) (J' := J) (S' := S) am_e189 rfl rfl rfl rfl ?_
      refine w_eI (uI_0 ..) ?_
      show am_ww 189 3 [.ref 99, .int (nI 1)] [] E (u_I I 99 (upd (upd (I 99) 3 (nI 0)) 3 (nI 1))) J S _
      refine w_st (i' := 4) (ls' := [.ref 99, .int (nI 1)]) (st' := [.int (nI 0)]) (E' := E) (I' := (u_I I 99 (upd (upd (I 99) 3 (nI 0)) 3 (nI 1)))) (J' := J) (S' := S) am_e189 rfl rfl rfl rfl ?_
      refine w_end (E' := E) (I' := (u_I I 99 (upd (upd (I 99) 3 (nI 0)) 3 (nI 1)))) (J' := J) (S' := S) am_e189 rfl rfl rfl (q_mkI ?_)
      show am_ww 246 33 [.ref 99, .int p1, .int p2] [.int (nI 0)] E (u_I I 99 (upd (upd (I 99) 3 (nI 0)) 3 (nI 1))) J S _
      exact w_end am_e246 rfl rfl rfl h
    · replace h := h.2 (of_decide_eq_false c)
      refine w_st (i' := 7) (ls' := [.int p1, .int (nI 0), .int (nI 2)]) (st' := [.int (nI 1)]) (E' := E) (I' := (u_I I 99 (upd (I 99) 3 (nI 0)))) (J' := J) (S' := S) am_e232 rfl rfl rfl rfl ?_
      refine w_st (i' := 9) (ls' := [.int p1, .int (nI 0), .int (nI 2)]) (st' := [.int (nI 1)]) (E' := E) (I' := (u_I I 99 (upd (I 99) 3 (nI 0)))) (J' := J) (S' := S) am_e232 rfl rfl rfl rfl ?_
      refine w_end (E' := E) (I' := (u_I I 99 (upd (I 99) 3 (nI 0)))) (J' := J) (S' := S) am_e232 rfl rfl rfl (q_mkI ?_)
      show am_ww 246 7 [.ref 99, .int p1, .int p2] [.int (nI 1)] E (u_I I 99 (upd (I 99) 3 (nI 0))) J S _
      refine w_st (i' := 8) (ls' := [.ref 99, .int p1, .int p2]) (st' := []) (E' := E) (I' := (u_I I 99 (upd (I 99) 3 (nI 0)))) (J' := J) (S' := S) am_e246 rfl rfl rfl rfl ?_
      refine w_st (i' := 9) (ls' := [.ref 99, .int p1, .int p2]) (st' := [.int p2]) (E' := E) (I' := (u_I I 99 (upd (I 99) 3 (nI 0)))) (J' := J) (S' := S) am_e246 rfl rfl rfl rfl ?_
      refine w_st (i' := 10) (ls' := [.ref 99, .int p1, .int p2]) (st' := [.int (nI 0), .int p2]) (E' := E) (I' := (u_I I 99 (upd (I 99) 3 (nI 0)))) (J' := J) (S' := S) am_e246 rfl rfl rfl rfl ?_
      refine w_st (i' := 11) (ls' := [.ref 99, .int p1, .int p2]) (st' := [.ref 99, .int (nI 0), .int p2]) (E' := E) (I' := (u_I I 99 (upd (I 99) 3 (nI 0)))) (J' := J) (S' := S) am_e246 rfl rfl rfl rfl ?_
      refine w_st (i' := 12) (ls' := [.ref 99, .int p1, .int p2]) (st' := [.ref 99, .ref 99, .int (nI 0), .int p2]) (E' := E) (I' := (u_I I 99 (upd (I 99) 3 (nI 0)))) (J' := J) (S' := S) am_e246 rfl rfl rfl rfl ?_
      refine w_st (i' := 13) (ls' := [.ref 99, .int p1, .int p2]) (st' := [.int ((I 99) 12), .ref 99, .int (nI 0), .int p2]) (E' := E) (I' := (u_I I 99 (upd (I 99) 3 (nI 0)))) (J' := J) (S' := S) am_e246 rfl rfl rfl rfl ?_
      refine w_st (i' := 14) (ls' := [.ref 99, .int p1, .int p2]) (st' := [.int (nI 48), .int ((I 99) 12), .ref 99, .int (nI 0), .int p2]) (E' := E) (I' := (u_I I 99 (upd (I 99) 3 (nI 0)))) (J' := J) (S' := S) am_e246 rfl rfl rfl rfl ?_
      refine w_st (i' := 15) (ls' := [.ref 99, .int p1, .int p2]) (st' := [.int p1, .int (nI 48), .int ((I 99) 12), .ref 99, .int (nI 0), .int p2]) (E' := E) (I' := (u_I I 99 (upd (I 99) 3 (nI 0)))) (J' := J) (S' := S) am_e246 rfl rfl rfl rfl ?_
      refine w_st (i' := 16) (ls' := [.ref 99, .int p1, .int p2]) (st' := [.int ((nI 48) + p1), .int ((I 99) 12), .ref 99, .int (nI 0), .int p2]) (E' := E) (I' := (u_I I 99 (upd (I 99) 3 (nI 0)))) (J' := J) (S' := S) am_e246 rfl rfl rfl rfl ?_
      refine w_cI am_e246 rfl rfl (as := [.ref 99, .int ((I 99) 12), .int ((nI 48) + p1)]) (rest := [.int (nI 0), .int p2]) rfl rfl ?_
      show am_ww 245 0 [.ref 99, .int ((I 99) 12), .int ((nI 48) + p1)] [] E (u_I I 99 (upd (I 99) 3 (nI 0))) J S _
      refine w_st (i' := 1) (ls' := [.ref 99, .int ((I 99) 12), .int ((nI 48) + p1)]) (st' := [.ref 99]) (E' := E) (I' := (u_I I 99 (upd (I 99) 3 (nI 0)))) (J' := J) (S' := S) am_e245 rfl rfl rfl rfl ?_
      refine w_st (i' := 2) (ls' := [.ref 99, .int ((I 99) 12), .int ((nI 48) + p1)]) (st' := [.ref 117]) (E' := E) (I' := (u_I I 99 (upd (I 99) 3 (nI 0)))) (J' := J) (S' := S) am_e245 rfl rfl rfl rfl ?_
      refine w_st (i' := 3) (ls' := [.ref 99, .int ((I 99) 12), .int ((nI 48) + p1)]) (st' := [.int (nI 51), .ref 117]) (E' := E) (I' := (u_I I 99 (upd (I 99) 3 (nI 0)))) (J' := J) (S' := S) am_e245 rfl rfl rfl rfl ?_
      refine w_st (i' := 4) (ls' := [.ref 99, .int ((I 99) 12), .int ((nI 48) + p1)]) (st' := [.int ((I 99) 12), .int (nI 51), .ref 117]) (E' := E) (I' := (u_I I 99 (upd (I 99) 3 (nI 0)))) (J' := J) (S' := S) am_e245 rfl rfl rfl rfl ?_
      refine w_st (i' := 5) (ls' := [.ref 99, .int ((I 99) 12), .int ((nI 48) + p1)]) (st' := [.int ((nI 51) * ((I 99) 12)), .ref 117]) (E' := E) (I' := (u_I I 99 (upd (I 99) 3 (nI 0)))) (J' := J) (S' := S) am_e245 rfl rfl rfl rfl ?_
      refine w_st (i' := 6) (ls' := [.ref 99, .int ((I 99) 12), .int ((nI 48) + p1)]) (st' := [.int ((nI 48) + p1), .int ((nI 51) * ((I 99) 12)), .ref 117]) (E' := E) (I' := (u_I I 99 (upd (I 99) 3 (nI 0)))) (J' := J) (S' := S) am_e245 rfl rfl rfl rfl ?_
      refine w_st (i' := 7) (ls' := [.ref 99, .int ((I 99) 12), .int ((nI 48) + p1)]) (st' := [.int (((nI 51) * ((I 99) 12)) + ((nI 48) + p1)), .ref 117]) (E' := E) (I' := (u_I I 99 (upd (I 99) 3 (nI 0)))) (J' := J) (S' := S) am_e245 rfl rfl rfl rfl ?_
      have hf1 := h.1
      replace h := h.2
      refine w_ia (k := 117) (n := 20451) (jn := (((nI 51) * ((I 99) 12)) + ((nI 48) + p1)).toNatClampNeg) am_e245 rfl rfl (by decide) hf1 rfl ?_
      show am_ww 245 8 [.ref 99, .int ((I 99) 12), .int ((nI 48) + p1)] [.int ((I 117) ((((nI 51) * ((I 99) 12)) + ((nI 48) + p1)).toNatClampNeg))] E (u_I I 99 (upd (I 99) 3 (nI 0))) J S _
      refine w_ri am_e245 rfl rfl (q_mkI ?_)
      show am_ww 246 17 [.ref 99, .int p1, .int p2] [.int ((I 117) ((((nI 51) * ((I 99) 12)) + ((nI 48) + p1)).toNatClampNeg)), .int (nI 0), .int p2] E (u_I I 99 (upd (I 99) 3 (nI 0))) J S _
      refine w_var (fun w2 => am_ww 246 17 [.ref 99, .int p1, .int p2] [.int w2, .int (nI 0), .int p2] E (u_I I 99 (upd (I 99) 3 (nI 0))) J S _) ((I 117) ((((nI 51) * ((I 99) 12)) + ((nI 48) + p1)).toNatClampNeg)) (fun w2 hw2 => ?_)
      replace h := h w2 hw2
      refine w_st (i' := 18) (ls' := [.ref 99, .int p1, .int p2]) (st' := [.int (nI 1), .int w2, .int (nI 0), .int p2]) (E' := E) (I' := (u_I I 99 (upd (I 99) 3 (nI 0)))) (J' := J) (S' := S) am_e246 rfl rfl rfl rfl ?_
      refine w_st (i' := 19) (ls' := [.ref 99, .int p1, .int p2]) (st' := [.int (w2 - (nI 1)), .int (nI 0), .int p2]) (E' := E) (I' := (u_I I 99 (upd (I 99) 3 (nI 0)))) (J' := J) (S' := S) am_e246 rfl rfl rfl rfl ?_
      refine w_cI am_e246 rfl rfl (as := [.int p2, .int (nI 0), .int (w2 - (nI 1))]) (rest := []) rfl rfl ?_
      show am_ww 232 0 [.int p2, .int (nI 0), .int (w2 - (nI 1))] [] E (u_I I 99 (upd (I 99) 3 (nI 0))) J S _
      refine w_st (i' := 1) (ls' := [.int p2, .int (nI 0), .int (w2 - (nI 1))]) (st' := [.int p2]) (E' := E) (I' := (u_I I 99 (upd (I 99) 3 (nI 0)))) (J' := J) (S' := S) am_e232 rfl rfl rfl rfl ?_
      refine w_st (i' := 2) (ls' := [.int p2, .int (nI 0), .int (w2 - (nI 1))]) (st' := [.int (nI 0), .int p2]) (E' := E) (I' := (u_I I 99 (upd (I 99) 3 (nI 0)))) (J' := J) (S' := S) am_e232 rfl rfl rfl rfl ?_
      refine w_if2 am_e232 rfl rfl (fun c => ?_) (fun c => ?_)
      · replace h := h.1 (of_decide_eq_true c)
        refine w_st (i' := 9) (ls' := [.int p2, .int (nI 0), .int (w2 - (nI 1))]) (st' := [.int (nI 0)]) (E' := E) (I' := (u_I I 99 (upd (I 99) 3 (nI 0)))) (J' := J) (S' := S) am_e232 rfl rfl rfl rfl ?_
        refine w_end (E' := E) (I' := (u_I I 99 (upd (I 99) 3 (nI 0)))) (J' := J) (S' := S) am_e232 rfl rfl rfl (q_mkI ?_)
        show am_ww 246 20 [.ref 99, .int p1, .int p2] [.int (nI 0)] E (u_I I 99 (upd (I 99) 3 (nI 0))) J S _
        refine w_st (i' := 30) (ls' := [.ref 99, .int p1, .int p2]) (st' := []) (E' := E) (I' := (u_I I 99 (upd (I 99) 3 (nI 0)))) (J' := J) (S' := S) am_e246 rfl rfl rfl rfl ?_
        refine w_st (i' := 31) (ls' := [.ref 99, .int p1, .int p2]) (st' := [.ref 99]) (E' := E) (I' := (u_I I 99 (upd (I 99) 3 (nI 0)))) (J' := J) (S' := S) am_e246 rfl rfl rfl rfl ?_
        refine w_st (i' := 32) (ls' := [.ref 99, .int p1, .int p2]) (st' := [.int (nI 1), .ref 99]) (E' := E) (I' := (u_I I 99 (upd (I 99) 3 (nI 0)))) (J' := J) (S' := S) am_e246 rfl rfl rfl rfl ?_
        refine w_cI am_e246 rfl rfl (as := [.ref 99, .int (nI 1)]) (rest := []) rfl rfl ?_
        show am_ww 189 0 [.ref 99, .int (nI 1)] [] E (u_I I 99 (upd (I 99) 3 (nI 0))) J S _
        refine w_st (i' := 1) (ls' := [.ref 99, .int (nI 1)]) (st' := [.ref 99]) (E' := E) (I' := (u_I I 99 (upd (I 99) 3 (nI 0)))) (J' := J) (S' := S) am_e189 rfl rfl rfl rfl ?_
        refine w_st (i' := 2) (ls' := [.ref 99, .int (nI 1)]) (st' := [.int (nI 1), .ref 99]) (E' := E) (I' := (u_I I 99 (upd (I 99) 3 (nI 0)))) (J' := J) (S' := S) am_e189 rfl rfl rfl rfl ?_
        refine w_st (i' := 3) (ls' := [.ref 99, .int (nI 1)]) (st' := []) (E' := E) (I' := (u_I (u_I I 99 (upd (I 99) 3 (nI 0))) 99 (upd (upd (I 99) 3 (nI 0)) 3 (nI 1)))) (J' := J) (S' := S) am_e189 rfl rfl rfl rfl ?_
        refine w_eI (uI_0 ..) ?_
        show am_ww 189 3 [.ref 99, .int (nI 1)] [] E (u_I I 99 (upd (upd (I 99) 3 (nI 0)) 3 (nI 1))) J S _
        refine w_st (i' := 4) (ls' := [.ref 99, .int (nI 1)]) (st' := [.int (nI 0)]) (E' := E) (I' := (u_I I 99 (upd (upd (I 99) 3 (nI 0)) 3 (nI 1)))) (J' := J) (S' := S) am_e189 rfl rfl rfl rfl ?_
        refine w_end (E' := E) (I' := (u_I I 99 (upd (upd (I 99) 3 (nI 0)) 3 (nI 1)))) (J' := J) (S' := S) am_e189 rfl rfl rfl (q_mkI ?_)
        show am_ww 246 33 [.ref 99, .int p1, .int p2] [.int (nI 0)] E (u_I I 99 (upd (upd (I 99) 3 (nI 0)) 3 (nI 1))) J S _
        exact w_end am_e246 rfl rfl rfl h
      · replace h := h.2 (of_decide_eq_false c)
        refine w_st (i' := 4) (ls' := [.int p2, .int (nI 0), .int (w2 - (nI 1))]) (st' := [.int p2]) (E' := E) (I' := (u_I I 99 (upd (I 99) 3 (nI 0)))) (J' := J) (S' := S) am_e232 rfl rfl rfl rfl ?_
        refine w_st (i' := 5) (ls' := [.int p2, .int (nI 0), .int (w2 - (nI 1))]) (st' := [.int (w2 - (nI 1)), .int p2]) (E' := E) (I' := (u_I I 99 (upd (I 99) 3 (nI 0)))) (J' := J) (S' := S) am_e232 rfl rfl rfl rfl ?_
        refine w_if2 am_e232 rfl rfl (fun c => ?_) (fun c => ?_)
        · replace h := h.1 (of_decide_eq_true c)
          refine w_st (i' := 9) (ls' := [.int p2, .int (nI 0), .int (w2 - (nI 1))]) (st' := [.int (nI 0)]) (E' := E) (I' := (u_I I 99 (upd (I 99) 3 (nI 0)))) (J' := J) (S' := S) am_e232 rfl rfl rfl rfl ?_
          refine w_end (E' := E) (I' := (u_I I 99 (upd (I 99) 3 (nI 0)))) (J' := J) (S' := S) am_e232 rfl rfl rfl (q_mkI ?_)
          show am_ww 246 20 [.ref 99, .int p1, .int p2] [.int (nI 0)] E (u_I I 99 (upd (I 99) 3 (nI 0))) J S _
          refine w_st (i' := 30) (ls' := [.ref 99, .int p1, .int p2]) (st' := []) (E' := E) (I' := (u_I I 99 (upd (I 99) 3 (nI 0)))) (J' := J) (S' := S) am_e246 rfl rfl rfl rfl ?_
          refine w_st (i' := 31) (ls' := [.ref 99, .int p1, .int p2]) (st' := [.ref 99]) (E' := E) (I' := (u_I I 99 (upd (I 99) 3 (nI 0)))) (J' := J) (S' := S) am_e246 rfl rfl rfl rfl ?_
          refine w_st (i' := 32) (ls' := [.ref 99, .int p1, .int p2]) (st' := [.int (nI 1), .ref 99]) (E' := E) (I' := (u_I I 99 (upd (I 99) 3 (nI 0)))) (J' := J) (S' := S) am_e246 rfl rfl rfl rfl ?_
          refine w_cI am_e246 rfl rfl (as := [.ref 99, .int (nI 1)]) (rest := []) rfl rfl ?_
          show am_ww 189 0 [.ref 99, .int (nI 1)] [] E (u_I I 99 (upd (I 99) 3 (nI 0))) J S _
          refine w_st (i' := 1) (ls' := [.ref 99, .int (nI 1)]) (st' := [.ref 99]) (E' := E) (I' := (u_I I 99 (upd (I 99) 3 (nI 0)))) (J' := J) (S' := S) am_e189 rfl rfl rfl rfl ?_
          refine w_st (i' := 2) (ls' := [.ref 99, .int (nI 1)]) (st' := [.int (nI 1), .ref 99]) (E' := E) (I' := (u_I I 99 (upd (I 99) 3 (nI 0)))) (J' := J) (S' := S) am_e189 rfl rfl rfl rfl ?_
          refine w_st (i' := 3) (ls' := [.ref 99, .int (nI 1)]) (st' := []) (E' := E) (I' := (u_I (u_I I 99 (upd (I 99) 3 (nI 0))) 99 (upd (upd (I 99) 3 (nI 0)) 3 (nI 1)))) (J' := J) (S' := S) am_e189 rfl rfl rfl rfl ?_
          refine w_eI (uI_0 ..) ?_
          show am_ww 189 3 [.ref 99, .int (nI 1)] [] E (u_I I 99 (upd (upd (I 99) 3 (nI 0)) 3 (nI 1))) J S _
          refine w_st (i' := 4) (ls' := [.ref 99, .int (nI 1)]) (st' := [.int (nI 0)]) (E' := E) (I' := (u_I I 99 (upd (upd (I 99) 3 (nI 0)) 3 (nI 1)))) (J' := J) (S' := S) am_e189 rfl rfl rfl rfl ?_
          refine w_end (E' := E) (I' := (u_I I 99 (upd (upd (I 99) 3 (nI 0)) 3 (nI 1)))) (J' := J) (S' := S) am_e189 rfl rfl rfl (q_mkI ?_)
          show am_ww 246 33 [.ref 99, .int p1, .int p2] [.int (nI 0)] E (u_I I 99 (upd (upd (I 99) 3 (nI 0)) 3 (nI 1))) J S _
          exact w_end am_e246 rfl rfl rfl h
        · replace h := h.2 (of_decide_eq_false c)
          refine w_st (i' := 7) (ls' := [.int p2, .int (nI 0), .int (w2 - (nI 1))]) (st' := [.int (nI 1)]) (E' := E) (I' := (u_I I 99 (upd (I 99) 3 (nI 0)))) (J' := J) (S' := S) am_e232 rfl rfl rfl rfl ?_
          refine w_st (i' := 9) (ls' := [.int p2, .int (nI 0), .int (w2 - (nI 1))]) (st' := [.int (nI 1)]) (E' := E) (I' := (u_I I 99 (upd (I 99) 3 (nI 0)))) (J' := J) (S' := S) am_e232 rfl rfl rfl rfl ?_
          refine w_end (E' := E) (I' := (u_I I 99 (upd (I 99) 3 (nI 0)))) (J' := J) (S' := S) am_e232 rfl rfl rfl (q_mkI ?_)
          show am_ww 246 20 [.ref 99, .int p1, .int p2] [.int (nI 1)] E (u_I I 99 (upd (I 99) 3 (nI 0))) J S _
          refine w_st (i' := 21) (ls' := [.ref 99, .int p1, .int p2]) (st' := []) (E' := E) (I' := (u_I I 99 (upd (I 99) 3 (nI 0)))) (J' := J) (S' := S) am_e246 rfl rfl rfl rfl ?_
          refine w_st (i' := 22) (ls' := [.ref 99, .int p1, .int p2]) (st' := [.ref 99]) (E' := E) (I' := (u_I I 99 (upd (I 99) 3 (nI 0)))) (J' := J) (S' := S) am_e246 rfl rfl rfl rfl ?_
          refine w_st (i' := 23) (ls' := [.ref 99, .int p1, .int p2]) (st' := [.ref 123]) (E' := E) (I' := (u_I I 99 (upd (I 99) 3 (nI 0)))) (J' := J) (S' := S) am_e246 rfl rfl rfl rfl ?_
          refine w_st (i' := 24) (ls' := [.ref 99, .int p1, .int p2]) (st' := [.int (nI 30), .ref 123]) (E' := E) (I' := (u_I I 99 (upd (I 99) 3 (nI 0)))) (J' := J) (S' := S) am_e246 rfl rfl rfl rfl ?_
          refine w_st (i' := 25) (ls' := [.ref 99, .int p1, .int p2]) (st' := [.int p1, .int (nI 30), .ref 123]) (E' := E) (I' := (u_I I 99 (upd (I 99) 3 (nI 0)))) (J' := J) (S' := S) am_e246 rfl rfl rfl rfl ?_
          refine w_st (i' := 26) (ls' := [.ref 99, .int p1, .int p2]) (st' := [.int ((nI 30) * p1), .ref 123]) (E' := E) (I' := (u_I I 99 (upd (I 99) 3 (nI 0)))) (J' := J) (S' := S) am_e246 rfl rfl rfl rfl ?_
          refine w_st (i' := 27) (ls' := [.ref 99, .int p1, .int p2]) (st' := [.int p2, .int ((nI 30) * p1), .ref 123]) (E' := E) (I' := (u_I I 99 (upd (I 99) 3 (nI 0)))) (J' := J) (S' := S) am_e246 rfl rfl rfl rfl ?_
          refine w_st (i' := 28) (ls' := [.ref 99, .int p1, .int p2]) (st' := [.int (((nI 30) * p1) + p2), .ref 123]) (E' := E) (I' := (u_I I 99 (upd (I 99) 3 (nI 0)))) (J' := J) (S' := S) am_e246 rfl rfl rfl rfl ?_
          have hf3 := h.1
          replace h := h.2
          refine w_ia (k := 123) (n := 90) (jn := (((nI 30) * p1) + p2).toNatClampNeg) am_e246 rfl rfl (by decide) hf3 rfl ?_
          show am_ww 246 29 [.ref 99, .int p1, .int p2] [.int ((I 123) ((((nI 30) * p1) + p2).toNatClampNeg))] E (u_I I 99 (upd (I 99) 3 (nI 0))) J S _
          refine w_st (i' := 33) (ls' := [.ref 99, .int p1, .int p2]) (st' := [.int ((I 123) ((((nI 30) * p1) + p2).toNatClampNeg))]) (E' := E) (I' := (u_I I 99 (upd (I 99) 3 (nI 0)))) (J' := J) (S' := S) am_e246 rfl rfl rfl rfl ?_
          exact w_ri am_e246 rfl rfl h
-- 247 digest
theorem g247_0 {p1 : Int32} {E : am_Ev} {I : Nat → Nat → Int32} {J : Nat → Nat → Int64} {S : Nat → Nat → Option Nat} {Q : am_Qt}  (h : (¬ ((I 103) 2) = 0) ∧ (∀ w1 : Int32, w1 = ((((I 99) 12) / ((I 103) 2)) - (nI 1)) → ((p1 < (nI 0) → (Q (.inl (some (.int (nI 0)))) E (u_I I 99 (upd (upd (I 99) 3 (nI 0)) 3 (nI 1))) J S)) ∧ (¬ p1 < (nI 0) → ((w1 < p1 → (Q (.inl (some (.int (nI 0)))) E (u_I I 99 (upd (upd (I 99) 3 (nI 0)) 3 (nI 1))) J S)) ∧ (¬ w1 < p1 → (am_cl 248 [.ref 99, .int (((I 103) 2) * (p1 + (nI 1)))] E (u_I I 99 (upd (I 99) 3 (nI 0))) J S (q_I fun v2 E2 I2 J2 S2 => Q (.inl (some (.int v2))) E2 I2 J2 S2)))))))) : am_ww 247 0 [.ref 99, .int p1] [] E I J S Q := by
  refine w_st (i' := 1) (ls' := [.ref 99, .int p1]) (st' := [.ref 99]) (E' := E) (I' := I) (J' := J) (S' := S) am_e247 rfl rfl rfl rfl ?_
  refine w_st (i' := 2) (ls' := [.ref 99, .int p1]) (st' := [.int (nI 0), .ref 99]) (E' := E) (I' := I) (J' := J) (S' := S) am_e247 rfl rfl rfl rfl ?_
  refine w_st (i' := 3) (ls' := [.ref 99, .int p1]) (st' := []) (E' := E) (I' := (u_I I 99 (upd (I 99) 3 (nI 0)))) (J' := J) (S' := S) am_e247 rfl rfl rfl rfl ?_
  refine w_st (i' := 4) (ls' := [.ref 99, .int p1]) (st' := [.int p1]) (E' := E) (I' := (u_I I 99 (upd (I 99) 3 (nI 0)))) (J' := J) (S' := S) am_e247 rfl rfl rfl rfl ?_
  refine w_st (i' := 5) (ls' := [.ref 99, .int p1]) (st' := [.int (nI 0), .int p1]) (E' := E) (I' := (u_I I 99 (upd (I 99) 3 (nI 0)))) (J' := J) (S' := S) am_e247 rfl rfl rfl rfl ?_
  refine w_st (i' := 6) (ls' := [.ref 99, .int p1]) (st' := [.ref 99, .int (nI 0), .int p1]) (E' := E) (I' := (u_I I 99 (upd (I 99) 3 (nI 0)))) (J' := J) (S' := S) am_e247 rfl rfl rfl rfl ?_
  refine w_st (i' := 7) (ls' := [.ref 99, .int p1]) (st' := [.int ((I 99) 12), .int (nI 0), .int p1]) (E' := E) (I' := (u_I I 99 (upd (I 99) 3 (nI 0)))) (J' := J) (S' := S) am_e247 rfl rfl rfl rfl ?_
  refine w_st (i' := 8) (ls' := [.ref 99, .int p1]) (st' := [.ref 99, .int ((I 99) 12), .int (nI 0), .int p1]) (E' := E) (I' := (u_I I 99 (upd (I 99) 3 (nI 0)))) (J' := J) (S' := S) am_e247 rfl rfl rfl rfl ?_
  refine w_st (i' := 9) (ls' := [.ref 99, .int p1]) (st' := [.ref 103, .int ((I 99) 12), .int (nI 0), .int p1]) (E' := E) (I' := (u_I I 99 (upd (I 99) 3 (nI 0)))) (J' := J) (S' := S) am_e247 rfl rfl rfl rfl ?_
  refine w_st (i' := 10) (ls' := [.ref 99, .int p1]) (st' := [.int (nI 2), .ref 103, .int ((I 99) 12), .int (nI 0), .int p1]) (E' := E) (I' := (u_I I 99 (upd (I 99) 3 (nI 0)))) (J' := J) (S' := S) am_e247 rfl rfl rfl rfl ?_
  refine w_ia (k := 103) (n := 10) (jn := 2) am_e247 rfl rfl (by decide) (vp_in_nI (by decide) (by decide)) rfl ?_
  show am_ww 247 11 [.ref 99, .int p1] [.int ((I 103) 2), .int ((I 99) 12), .int (nI 0), .int p1] E (u_I I 99 (upd (I 99) 3 (nI 0))) J S _
  refine w_dv h.1 am_e247 rfl ?_
  replace h := h.2
  refine w_st (i' := 13) (ls' := [.ref 99, .int p1]) (st' := [.int (nI 1), .int (((I 99) 12) / ((I 103) 2)), .int (nI 0), .int p1]) (E' := E) (I' := (u_I I 99 (upd (I 99) 3 (nI 0)))) (J' := J) (S' := S) am_e247 rfl rfl rfl rfl ?_
  refine w_st (i' := 14) (ls' := [.ref 99, .int p1]) (st' := [.int ((((I 99) 12) / ((I 103) 2)) - (nI 1)), .int (nI 0), .int p1]) (E' := E) (I' := (u_I I 99 (upd (I 99) 3 (nI 0)))) (J' := J) (S' := S) am_e247 rfl rfl rfl rfl ?_
  refine w_cI am_e247 rfl rfl (as := [.int p1, .int (nI 0), .int ((((I 99) 12) / ((I 103) 2)) - (nI 1))]) (rest := []) rfl rfl ?_
  show am_ww 232 0 [.int p1, .int (nI 0), .int ((((I 99) 12) / ((I 103) 2)) - (nI 1))] [] E (u_I I 99 (upd (I 99) 3 (nI 0))) J S _
  refine w_var (fun w1 => am_ww 232 0 [.int p1, .int (nI 0), .int w1] [] E (u_I I 99 (upd (I 99) 3 (nI 0))) J S _) ((((I 99) 12) / ((I 103) 2)) - (nI 1)) (fun w1 hw1 => ?_)
  replace h := h w1 hw1
  refine w_st (i' := 1) (ls' := [.int p1, .int (nI 0), .int w1]) (st' := [.int p1]) (E' := E) (I' := (u_I I 99 (upd (I 99) 3 (nI 0)))) (J' := J) (S' := S) am_e232 rfl rfl rfl rfl ?_
  refine w_st (i' := 2) (ls' := [.int p1, .int (nI 0), .int w1]) (st' := [.int (nI 0), .int p1]) (E' := E) (I' := (u_I I 99 (upd (I 99) 3 (nI 0)))) (J' := J) (S' := S) am_e232 rfl rfl rfl rfl ?_
  refine w_if2 am_e232 rfl rfl (fun c => ?_) (fun c => ?_)
  · replace h := h.1 (of_decide_eq_true c)
    refine w_st (i' := 9) (ls' := [.int p1, .int (nI 0), .int w1]) (st' := [.int (nI 0)]) (E' := E) (I' := (u_I I 99 (upd (I 99) 3 (nI 0)))) (J' := J) (S' := S) am_e232 rfl rfl rfl rfl ?_
    refine w_end (E' := E) (I' := (u_I I 99 (upd (I 99) 3 (nI 0)))) (J' := J) (S' := S) am_e232 rfl rfl rfl (q_mkI ?_)
    show am_ww 247 15 [.ref 99, .int p1] [.int (nI 0)] E (u_I I 99 (upd (I 99) 3 (nI 0))) J S _
    refine w_st (i' := 27) (ls' := [.ref 99, .int p1]) (st' := []) (E' := E) (I' := (u_I I 99 (upd (I 99) 3 (nI 0)))) (J' := J) (S' := S) am_e247 rfl rfl rfl rfl ?_
    refine w_st (i' := 28) (ls' := [.ref 99, .int p1]) (st' := [.ref 99]) (E' := E) (I' := (u_I I 99 (upd (I 99) 3 (nI 0)))) (J' := J) (S' := S) am_e247 rfl rfl rfl rfl ?_
    refine w_st (i' := 29) (ls' := [.ref 99, .int p1]) (st' := [.int (nI 1), .ref 99]) (E' := E) (I' := (u_I I 99 (upd (I 99) 3 (nI 0)))) (J' := J) (S' := S) am_e247 rfl rfl rfl rfl ?_
    refine w_cI am_e247 rfl rfl (as := [.ref 99, .int (nI 1)]) (rest := []) rfl rfl ?_
    show am_ww 189 0 [.ref 99, .int (nI 1)] [] E (u_I I 99 (upd (I 99) 3 (nI 0))) J S _
    refine w_st (i' := 1) (ls' := [.ref 99, .int (nI 1)]) (st' := [.ref 99]) (E' := E) (I' := (u_I I 99 (upd (I 99) 3 (nI 0)))) (J' := J) (S' := S) am_e189 rfl rfl rfl rfl ?_
    refine w_st (i' := 2) (ls' := [.ref 99, .int (nI 1)]) (st' := [.int (nI 1), .ref 99]) (E' := E) (I' := (u_I I 99 (upd (I 99) 3 (nI 0)))) (J' := J) (S' := S) am_e189 rfl rfl rfl rfl ?_
    refine w_st (i' := 3) (ls' := [.ref 99, .int (nI 1)]) (st' := []) (E' := E) (I' := (u_I (u_I I 99 (upd (I 99) 3 (nI 0))) 99 (upd (upd (I 99) 3 (nI 0)) 3 (nI 1)))) (J' := J) (S' := S) am_e189 rfl rfl rfl rfl ?_
    refine w_eI (uI_0 ..) ?_
    show am_ww 189 3 [.ref 99, .int (nI 1)] [] E (u_I I 99 (upd (upd (I 99) 3 (nI 0)) 3 (nI 1))) J S _
    refine w_st (i' := 4) (ls' := [.ref 99, .int (nI 1)]) (st' := [.int (nI 0)]) (E' := E) (I' := (u_I I 99 (upd (upd (I 99) 3 (nI 0)) 3 (nI 1)))) (J' := J) (S' := S) am_e189 rfl rfl rfl rfl ?_
    refine w_end (E' := E) (I' := (u_I I 99 (upd (upd (I 99) 3 (nI 0)) 3 (nI 1)))) (J' := J) (S' := S) am_e189 rfl rfl rfl (q_mkI ?_)
    show am_ww 247 30 [.ref 99, .int p1] [.int (nI 0)] E (u_I I 99 (upd (upd (I 99) 3 (nI 0)) 3 (nI 1))) J S _
    exact w_end am_e247 rfl rfl rfl h
  · replace h := h.2 (of_decide_eq_false c)
    refine w_st (i' := 4) (ls' := [.int p1, .int (nI 0), .int w1]) (st' := [.int p1]) (E' := E) (I' := (u_I I 99 (upd (I 99) 3 (nI 0)))) (J' := J) (S' := S) am_e232 rfl rfl rfl rfl ?_
    refine w_st (i' := 5) (ls' := [.int p1, .int (nI 0), .int w1]) (st' := [.int w1, .int p1]) (E' := E) (I' := (u_I I 99 (upd (I 99) 3 (nI 0)))) (J' := J) (S' := S) am_e232 rfl rfl rfl rfl ?_
    refine w_if2 am_e232 rfl rfl (fun c => ?_) (fun c => ?_)
    · replace h := h.1 (of_decide_eq_true c)
      refine w_st (i' := 9) (ls' := [.int p1, .int (nI 0), .int w1]) (st' := [.int (nI 0)]) (E' := E) (I' := (u_I I 99 (upd (I 99) 3 (nI 0)))) (J' := J) (S' := S) am_e232 rfl rfl rfl rfl ?_
      refine w_end (E' := E) (I' := (u_I I 99 (upd (I 99) 3 (nI 0)))) (J' := J) (S' := S) am_e232 rfl rfl rfl (q_mkI ?_)
      show am_ww 247 15 [.ref 99, .int p1] [.int (nI 0)] E (u_I I 99 (upd (I 99) 3 (nI 0))) J S _
      refine w_st (i' := 27) (ls' := [.ref 99, .int p1]) (st' := []) (E' := E) (I' := (u_I I 99 (upd (I 99) 3 (nI 0)))) (J' := J) (S' := S) am_e247 rfl rfl rfl rfl ?_
      refine w_st (i' := 28) (ls' := [.ref 99, .int p1]) (st' := [.ref 99]) (E' := E) (I' := (u_I I 99 (upd (I 99) 3 (nI 0)))) (J' := J) (S' := S) am_e247 rfl rfl rfl rfl ?_
      refine w_st (i' := 29) (ls' := [.ref 99, .int p1]) (st' := [.int (nI 1), .ref 99]) (E' := E) (I' := (u_I I 99 (upd (I 99) 3 (nI 0)))) (J' := J) (S' := S) am_e247 rfl rfl rfl rfl ?_
      refine w_cI am_e247 rfl rfl (as := [.ref 99, .int (nI 1)]) (rest := []) rfl rfl ?_
      show am_ww 189 0 [.ref 99, .int (nI 1)] [] E (u_I I 99 (upd (I 99) 3 (nI 0))) J S _
      refine w_st (i' := 1) (ls' := [.ref 99, .int (nI 1)]) (st' := [.ref 99]) (E' := E) (I' := (u_I I 99 (upd (I 99) 3 (nI 0)))) (J' := J) (S' := S) am_e189 rfl rfl rfl rfl ?_
      refine w_st (i' := 2) (ls' := [.ref 99, .int (nI 1)]) (st' := [.int (nI 1), .ref 99]) (E' := E) (I' := (u_I I 99 (upd (I 99) 3 (nI 0)))) (J' := J) (S' := S) am_e189 rfl rfl rfl rfl ?_
      refine w_st (i' := 3) (ls' := [.ref 99, .int (nI 1)]) (st' := []) (E' := E) (I' := (u_I (u_I I 99 (upd (I 99) 3 (nI 0))) 99 (upd (upd (I 99) 3 (nI 0)) 3 (nI 1)))) (J' := J) (S' := S) am_e189 rfl rfl rfl rfl ?_
      refine w_eI (uI_0 ..) ?_
      show am_ww 189 3 [.ref 99, .int (nI 1)] [] E (u_I I 99 (upd (upd (I 99) 3 (nI 0)) 3 (nI 1))) J S _
      refine w_st (i' := 4) (ls' := [.ref 99, .int (nI 1)]) (st' := [.int (nI 0)]) (E' := E) (I' := (u_I I 99 (upd (upd (I 99) 3 (nI 0)) 3 (nI 1)))) (J' := J) (S' := S) am_e189 rfl rfl rfl rfl ?_
      refine w_end (E' := E) (I' := (u_I I 99 (upd (upd (I 99) 3 (nI 0)) 3 (nI 1)))) (J' := J) (S' := S) am_e189 rfl rfl rfl (q_mkI ?_)
      show am_ww 247 30 [.ref 99, .int p1] [.int (nI 0)] E (u_I I 99 (upd (upd (I 99) 3 (nI 0)) 3 (nI 1))) J S _
      exact w_end am_e247 rfl rfl rfl h
    · replace h := h.2 (of_decide_eq_false c)
      refine w_st (i' := 7) (ls' := [.int p1, .int (nI 0), .int w1]) (st' := [.int (nI 1)]) (E' := E) (I' := (u_I I 99 (upd (I 99) 3 (nI 0)))) (J' := J) (S' := S) am_e232 rfl rfl rfl rfl ?_
      refine w_st (i' := 9) (ls' := [.int p1, .int (nI 0), .int w1]) (st' := [.int (nI 1)]) (E' := E) (I' := (u_I I 99 (upd (I 99) 3 (nI 0)))) (J' := J) (S' := S) am_e232 rfl rfl rfl rfl ?_
      refine w_end (E' := E) (I' := (u_I I 99 (upd (I 99) 3 (nI 0)))) (J' := J) (S' := S) am_e232 rfl rfl rfl (q_mkI ?_)
      show am_ww 247 15 [.ref 99, .int p1] [.int (nI 1)] E (u_I I 99 (upd (I 99) 3 (nI 0))) J S _
      refine w_st (i' := 16) (ls' := [.ref 99, .int p1]) (st' := []) (E' := E) (I' := (u_I I 99 (upd (I 99) 3 (nI 0)))) (J' := J) (S' := S) am_e247 rfl rfl rfl rfl ?_
      refine w_st (i' := 17) (ls' := [.ref 99, .int p1]) (st' := [.ref 99]) (E' := E) (I' := (u_I I 99 (upd (I 99) 3 (nI 0)))) (J' := J) (S' := S) am_e247 rfl rfl rfl rfl ?_
      refine w_st (i' := 18) (ls' := [.ref 99, .int p1]) (st' := [.ref 99, .ref 99]) (E' := E) (I' := (u_I I 99 (upd (I 99) 3 (nI 0)))) (J' := J) (S' := S) am_e247 rfl rfl rfl rfl ?_
      refine w_st (i' := 19) (ls' := [.ref 99, .int p1]) (st' := [.ref 103, .ref 99]) (E' := E) (I' := (u_I I 99 (upd (I 99) 3 (nI 0)))) (J' := J) (S' := S) am_e247 rfl rfl rfl rfl ?_
      refine w_st (i' := 20) (ls' := [.ref 99, .int p1]) (st' := [.int (nI 2), .ref 103, .ref 99]) (E' := E) (I' := (u_I I 99 (upd (I 99) 3 (nI 0)))) (J' := J) (S' := S) am_e247 rfl rfl rfl rfl ?_
      refine w_ia (k := 103) (n := 10) (jn := 2) am_e247 rfl rfl (by decide) (vp_in_nI (by decide) (by decide)) rfl ?_
      show am_ww 247 21 [.ref 99, .int p1] [.int ((I 103) 2), .ref 99] E (u_I I 99 (upd (I 99) 3 (nI 0))) J S _
      refine w_st (i' := 22) (ls' := [.ref 99, .int p1]) (st' := [.int p1, .int ((I 103) 2), .ref 99]) (E' := E) (I' := (u_I I 99 (upd (I 99) 3 (nI 0)))) (J' := J) (S' := S) am_e247 rfl rfl rfl rfl ?_
      refine w_st (i' := 23) (ls' := [.ref 99, .int p1]) (st' := [.int (nI 1), .int p1, .int ((I 103) 2), .ref 99]) (E' := E) (I' := (u_I I 99 (upd (I 99) 3 (nI 0)))) (J' := J) (S' := S) am_e247 rfl rfl rfl rfl ?_
      refine w_st (i' := 24) (ls' := [.ref 99, .int p1]) (st' := [.int (p1 + (nI 1)), .int ((I 103) 2), .ref 99]) (E' := E) (I' := (u_I I 99 (upd (I 99) 3 (nI 0)))) (J' := J) (S' := S) am_e247 rfl rfl rfl rfl ?_
      refine w_st (i' := 25) (ls' := [.ref 99, .int p1]) (st' := [.int (((I 103) 2) * (p1 + (nI 1))), .ref 99]) (E' := E) (I' := (u_I I 99 (upd (I 99) 3 (nI 0)))) (J' := J) (S' := S) am_e247 rfl rfl rfl rfl ?_
      refine w_cI am_e247 rfl rfl (as := [.ref 99, .int (((I 103) 2) * (p1 + (nI 1)))]) (rest := []) rfl rfl (am_ww.mono h ?_)
      rintro _ E2 I2 J2 S2 ⟨v2, rfl, h⟩
      refine q_mkI ?_
      refine w_st (i' := 30) (ls' := [.ref 99, .int p1]) (st' := [.int v2]) (E' := E2) (I' := I2) (J' := J2) (S' := S2) am_e247 rfl rfl rfl rfl ?_
      exact w_ri am_e247 rfl rfl h
-- 249 snapshot
theorem g249_0 {p1 : Int32} {E : am_Ev} {I : Nat → Nat → Int32} {J : Nat → Nat → Int64} {S : Nat → Nat → Option Nat} {Q : am_Qt}  (h : am_cl 225 [.ref 99] E (u_I I 99 (upd (I 99) 3 (nI 0))) J S (q_V fun E1 I1 J1 S1 => (p1 < (nI 0) → (Q (.inl (some (.int (nI 0)))) E1 (u_I I1 99 (upd (I1 99) 3 (nI 1))) J1 S1)) ∧ (¬ p1 < (nI 0) → (((((I1 99) 42) - (nI 1)) < p1 → (Q (.inl (some (.int (nI 0)))) E1 (u_I I1 99 (upd (I1 99) 3 (nI 1))) J1 S1)) ∧ (¬ (((I1 99) 42) - (nI 1)) < p1 → (vp_in p1 9 ∧ (Q (.inl (some (.int ((I1 125) p1.toNatClampNeg)))) E1 I1 J1 S1))))))) : am_ww 249 0 [.ref 99, .int p1] [] E I J S Q := by
  refine w_st (i' := 1) (ls' := [.ref 99, .int p1]) (st' := [.ref 99]) (E' := E) (I' := I) (J' := J) (S' := S) am_e249 rfl rfl rfl rfl ?_
  refine w_st (i' := 2) (ls' := [.ref 99, .int p1]) (st' := [.int (nI 0), .ref 99]) (E' := E) (I' := I) (J' := J) (S' := S) am_e249 rfl rfl rfl rfl ?_
  refine w_st (i' := 3) (ls' := [.ref 99, .int p1]) (st' := []) (E' := E) (I' := (u_I I 99 (upd (I 99) 3 (nI 0)))) (J' := J) (S' := S) am_e249 rfl rfl rfl rfl ?_
  refine w_st (i' := 4) (ls' := [.ref 99, .int p1]) (st' := [.ref 99]) (E' := E) (I' := (u_I I 99 (upd (I 99) 3 (nI 0)))) (J' := J) (S' := S) am_e249 rfl rfl rfl rfl ?_
  refine w_cV am_e249 rfl rfl (as := [.ref 99]) (rest := []) rfl rfl (am_ww.mono h ?_)
  rintro _ E1 I1 J1 S1 ⟨rfl, h⟩
  refine q_mkV ?_
  refine w_st (i' := 6) (ls' := [.ref 99, .int p1]) (st' := [.int p1]) (E' := E1) (I' := I1) (J' := J1) (S' := S1) am_e249 rfl rfl rfl rfl ?_
  refine w_st (i' := 7) (ls' := [.ref 99, .int p1]) (st' := [.int (nI 0), .int p1]) (E' := E1) (I' := I1) (J' := J1) (S' := S1) am_e249 rfl rfl rfl rfl ?_
  refine w_st (i' := 8) (ls' := [.ref 99, .int p1]) (st' := [.ref 99, .int (nI 0), .int p1]) (E' := E1) (I' := I1) (J' := J1) (S' := S1) am_e249 rfl rfl rfl rfl ?_
  refine w_st (i' := 9) (ls' := [.ref 99, .int p1]) (st' := [.int ((I1 99) 42), .int (nI 0), .int p1]) (E' := E1) (I' := I1) (J' := J1) (S' := S1) am_e249 rfl rfl rfl rfl ?_
  refine w_st (i' := 10) (ls' := [.ref 99, .int p1]) (st' := [.int (nI 1), .int ((I1 99) 42), .int (nI 0), .int p1]) (E' := E1) (I' := I1) (J' := J1) (S' := S1) am_e249 rfl rfl rfl rfl ?_
  refine w_st (i' := 11) (ls' := [.ref 99, .int p1]) (st' := [.int (((I1 99) 42) - (nI 1)), .int (nI 0), .int p1]) (E' := E1) (I' := I1) (J' := J1) (S' := S1) am_e249 rfl rfl rfl rfl ?_
  refine w_cI am_e249 rfl rfl (as := [.int p1, .int (nI 0), .int (((I1 99) 42) - (nI 1))]) (rest := []) rfl rfl ?_
  show am_ww 232 0 [.int p1, .int (nI 0), .int (((I1 99) 42) - (nI 1))] [] E1 I1 J1 S1 _
  refine w_st (i' := 1) (ls' := [.int p1, .int (nI 0), .int (((I1 99) 42) - (nI 1))]) (st' := [.int p1]) (E' := E1) (I' := I1) (J' := J1) (S' := S1) am_e232 rfl rfl rfl rfl ?_
  refine w_st (i' := 2) (ls' := [.int p1, .int (nI 0), .int (((I1 99) 42) - (nI 1))]) (st' := [.int (nI 0), .int p1]) (E' := E1) (I' := I1) (J' := J1) (S' := S1) am_e232 rfl rfl rfl rfl ?_
  refine w_if2 am_e232 rfl rfl (fun c => ?_) (fun c => ?_)
  · replace h := h.1 (of_decide_eq_true c)
    refine w_st (i' := 9) (ls' := [.int p1, .int (nI 0), .int (((I1 99) 42) - (nI 1))]) (st' := [.int (nI 0)]) (E' := E1) (I' := I1) (J' := J1) (S' := S1) am_e232 rfl rfl rfl rfl ?_
    refine w_end (E' := E1) (I' := I1) (J' := J1) (S' := S1) am_e232 rfl rfl rfl (q_mkI ?_)
    show am_ww 249 12 [.ref 99, .int p1] [.int (nI 0)] E1 I1 J1 S1 _
    refine w_st (i' := 18) (ls' := [.ref 99, .int p1]) (st' := []) (E' := E1) (I' := I1) (J' := J1) (S' := S1) am_e249 rfl rfl rfl rfl ?_
    refine w_st (i' := 19) (ls' := [.ref 99, .int p1]) (st' := [.ref 99]) (E' := E1) (I' := I1) (J' := J1) (S' := S1) am_e249 rfl rfl rfl rfl ?_
    refine w_st (i' := 20) (ls' := [.ref 99, .int p1]) (st' := [.int (nI 1), .ref 99]) (E' := E1) (I' := I1) (J' := J1) (S' := S1) am_e249 rfl rfl rfl rfl ?_
    refine w_cI am_e249 rfl rfl (as := [.ref 99, .int (nI 1)]) (rest := []) rfl rfl ?_
    show am_ww 189 0 [.ref 99, .int (nI 1)] [] E1 I1 J1 S1 _
    refine w_st (i' := 1) (ls' := [.ref 99, .int (nI 1)]) (st' := [.ref 99]) (E' := E1) (I' := I1) (J' := J1) (S' := S1) am_e189 rfl rfl rfl rfl ?_
    refine w_st (i' := 2) (ls' := [.ref 99, .int (nI 1)]) (st' := [.int (nI 1), .ref 99]) (E' := E1) (I' := I1) (J' := J1) (S' := S1) am_e189 rfl rfl rfl rfl ?_
    refine w_st (i' := 3) (ls' := [.ref 99, .int (nI 1)]) (st' := []) (E' := E1) (I' := (u_I I1 99 (upd (I1 99) 3 (nI 1)))) (J' := J1) (S' := S1) am_e189 rfl rfl rfl rfl ?_
    refine w_st (i' := 4) (ls' := [.ref 99, .int (nI 1)]) (st' := [.int (nI 0)]) (E' := E1) (I' := (u_I I1 99 (upd (I1 99) 3 (nI 1)))) (J' := J1) (S' := S1) am_e189 rfl rfl rfl rfl ?_
    refine w_end (E' := E1) (I' := (u_I I1 99 (upd (I1 99) 3 (nI 1)))) (J' := J1) (S' := S1) am_e189 rfl rfl rfl (q_mkI ?_)
    show am_ww 249 21 [.ref 99, .int p1] [.int (nI 0)] E1 (u_I I1 99 (upd (I1 99) 3 (nI 1))) J1 S1 _
    exact w_end am_e249 rfl rfl rfl h
  · replace h := h.2 (of_decide_eq_false c)
    refine w_st (i' := 4) (ls' := [.int p1, .int (nI 0), .int (((I1 99) 42) - (nI 1))]) (st' := [.int p1]) (E' := E1) (I' := I1) (J' := J1) (S' := S1) am_e232 rfl rfl rfl rfl ?_
    refine w_st (i' := 5) (ls' := [.int p1, .int (nI 0), .int (((I1 99) 42) - (nI 1))]) (st' := [.int (((I1 99) 42) - (nI 1)), .int p1]) (E' := E1) (I' := I1) (J' := J1) (S' := S1) am_e232 rfl rfl rfl rfl ?_
    refine w_if2 am_e232 rfl rfl (fun c => ?_) (fun c => ?_)
    · replace h := h.1 (of_decide_eq_true c)
      refine w_st (i' := 9) (ls' := [.int p1, .int (nI 0), .int (((I1 99) 42) - (nI 1))]) (st' := [.int (nI 0)]) (E' := E1) (I' := I1) (J' := J1) (S' := S1) am_e232 rfl rfl rfl rfl ?_
      refine w_end (E' := E1) (I' := I1) (J' := J1) (S' := S1) am_e232 rfl rfl rfl (q_mkI ?_)
      show am_ww 249 12 [.ref 99, .int p1] [.int (nI 0)] E1 I1 J1 S1 _
      refine w_st (i' := 18) (ls' := [.ref 99, .int p1]) (st' := []) (E' := E1) (I' := I1) (J' := J1) (S' := S1) am_e249 rfl rfl rfl rfl ?_
      refine w_st (i' := 19) (ls' := [.ref 99, .int p1]) (st' := [.ref 99]) (E' := E1) (I' := I1) (J' := J1) (S' := S1) am_e249 rfl rfl rfl rfl ?_
      refine w_st (i' := 20) (ls' := [.ref 99, .int p1]) (st' := [.int (nI 1), .ref 99]) (E' := E1) (I' := I1) (J' := J1) (S' := S1) am_e249 rfl rfl rfl rfl ?_
      refine w_cI am_e249 rfl rfl (as := [.ref 99, .int (nI 1)]) (rest := []) rfl rfl ?_
      show am_ww 189 0 [.ref 99, .int (nI 1)] [] E1 I1 J1 S1 _
      refine w_st (i' := 1) (ls' := [.ref 99, .int (nI 1)]) (st' := [.ref 99]) (E' := E1) (I' := I1) (J' := J1) (S' := S1) am_e189 rfl rfl rfl rfl ?_
      refine w_st (i' := 2) (ls' := [.ref 99, .int (nI 1)]) (st' := [.int (nI 1), .ref 99]) (E' := E1) (I' := I1) (J' := J1) (S' := S1) am_e189 rfl rfl rfl rfl ?_
      refine w_st (i' := 3) (ls' := [.ref 99, .int (nI 1)]) (st' := []) (E' := E1) (I' := (u_I I1 99 (upd (I1 99) 3 (nI 1)))) (J' := J1) (S' := S1) am_e189 rfl rfl rfl rfl ?_
      refine w_st (i' := 4) (ls' := [.ref 99, .int (nI 1)]) (st' := [.int (nI 0)]) (E' := E1) (I' := (u_I I1 99 (upd (I1 99) 3 (nI 1)))) (J' := J1) (S' := S1) am_e189 rfl rfl rfl rfl ?_
      refine w_end (E' := E1) (I' := (u_I I1 99 (upd (I1 99) 3 (nI 1)))) (J' := J1) (S' := S1) am_e189 rfl rfl rfl (q_mkI ?_)
      show am_ww 249 21 [.ref 99, .int p1] [.int (nI 0)] E1 (u_I I1 99 (upd (I1 99) 3 (nI 1))) J1 S1 _
      exact w_end am_e249 rfl rfl rfl h
    · replace h := h.2 (of_decide_eq_false c)
      refine w_st (i' := 7) (ls' := [.int p1, .int (nI 0), .int (((I1 99) 42) - (nI 1))]) (st' := [.int (nI 1)]) (E' := E1) (I' := I1) (J' := J1) (S' := S1) am_e232 rfl rfl rfl rfl ?_
      refine w_st (i' := 9) (ls' := [.int p1, .int (nI 0), .int (((I1 99) 42) - (nI 1))]) (st' := [.int (nI 1)]) (E' := E1) (I' := I1) (J' := J1) (S' := S1) am_e232 rfl rfl rfl rfl ?_
      refine w_end (E' := E1) (I' := I1) (J' := J1) (S' := S1) am_e232 rfl rfl rfl (q_mkI ?_)
      show am_ww 249 12 [.ref 99, .int p1] [.int (nI 1)] E1 I1 J1 S1 _
      refine w_st (i' := 13) (ls' := [.ref 99, .int p1]) (st' := []) (E' := E1) (I' := I1) (J' := J1) (S' := S1) am_e249 rfl rfl rfl rfl ?_
      refine w_st (i' := 14) (ls' := [.ref 99, .int p1]) (st' := [.ref 99]) (E' := E1) (I' := I1) (J' := J1) (S' := S1) am_e249 rfl rfl rfl rfl ?_
      refine w_st (i' := 15) (ls' := [.ref 99, .int p1]) (st' := [.ref 125]) (E' := E1) (I' := I1) (J' := J1) (S' := S1) am_e249 rfl rfl rfl rfl ?_
      refine w_st (i' := 16) (ls' := [.ref 99, .int p1]) (st' := [.int p1, .ref 125]) (E' := E1) (I' := I1) (J' := J1) (S' := S1) am_e249 rfl rfl rfl rfl ?_
      have hf2 := h.1
      replace h := h.2
      refine w_ia (k := 125) (n := 9) (jn := p1.toNatClampNeg) am_e249 rfl rfl (by decide) hf2 rfl ?_
      refine w_st (i' := 21) (ls' := [.ref 99, .int p1]) (st' := [.int ((I1 125) p1.toNatClampNeg)]) (E' := E1) (I' := I1) (J' := J1) (S' := S1) am_e249 rfl rfl rfl rfl ?_
      exact w_ri am_e249 rfl rfl h
-- 250 seek
theorem g250_0 {p1 : Int32} {E : am_Ev} {I : Nat → Nat → Int32} {J : Nat → Nat → Int64} {S : Nat → Nat → Option Nat} {Q : am_Qt}  (h : (p1 < (nI 0) → (Q (.inl (some (.int (nI 0)))) E (u_I I 99 (upd (upd (I 99) 3 (nI 0)) 3 (nI 1))) J S)) ∧ (¬ p1 < (nI 0) → ((((I 99) 12) < p1 → (Q (.inl (some (.int (nI 0)))) E (u_I I 99 (upd (upd (I 99) 3 (nI 0)) 3 (nI 1))) J S)) ∧ (¬ ((I 99) 12) < p1 → (am_cl 225 [.ref 99] E (u_I I 99 (upd (upd (I 99) 3 (nI 0)) 13 p1)) J S (q_V fun E1 I1 J1 S1 => am_cl 228 [.ref 99, .int p1] E1 I1 J1 S1 (q_I fun v2 E2 I2 J2 S2 => Q (.inl (some (.int v2))) E2 I2 J2 S2))))))) : am_ww 250 0 [.ref 99, .int p1] [] E I J S Q := by
  refine w_st (i' := 1) (ls' := [.ref 99, .int p1]) (st' := [.ref 99]) (E' := E) (I' := I) (J' := J) (S' := S) am_e250 rfl rfl rfl rfl ?_
  refine w_st (i' := 2) (ls' := [.ref 99, .int p1]) (st' := [.int (nI 0), .ref 99]) (E' := E) (I' := I) (J' := J) (S' := S) am_e250 rfl rfl rfl rfl ?_
  refine w_st (i' := 3) (ls' := [.ref 99, .int p1]) (st' := []) (E' := E) (I' := (u_I I 99 (upd (I 99) 3 (nI 0)))) (J' := J) (S' := S) am_e250 rfl rfl rfl rfl ?_
  refine w_st (i' := 4) (ls' := [.ref 99, .int p1]) (st' := [.int p1]) (E' := E) (I' := (u_I I 99 (upd (I 99) 3 (nI 0)))) (J' := J) (S' := S) am_e250 rfl rfl rfl rfl ?_
  refine w_st (i' := 5) (ls' := [.ref 99, .int p1]) (st' := [.int (nI 0), .int p1]) (E' := E) (I' := (u_I I 99 (upd (I 99) 3 (nI 0)))) (J' := J) (S' := S) am_e250 rfl rfl rfl rfl ?_
  refine w_st (i' := 6) (ls' := [.ref 99, .int p1]) (st' := [.ref 99, .int (nI 0), .int p1]) (E' := E) (I' := (u_I I 99 (upd (I 99) 3 (nI 0)))) (J' := J) (S' := S) am_e250 rfl rfl rfl rfl ?_
  refine w_st (i' := 7) (ls' := [.ref 99, .int p1]) (st' := [.int ((I 99) 12), .int (nI 0), .int p1]) (E' := E) (I' := (u_I I 99 (upd (I 99) 3 (nI 0)))) (J' := J) (S' := S) am_e250 rfl rfl rfl rfl ?_
  refine w_cI am_e250 rfl rfl (as := [.int p1, .int (nI 0), .int ((I 99) 12)]) (rest := []) rfl rfl ?_
  show am_ww 232 0 [.int p1, .int (nI 0), .int ((I 99) 12)] [] E (u_I I 99 (upd (I 99) 3 (nI 0))) J S _
  refine w_st (i' := 1) (ls' := [.int p1, .int (nI 0), .int ((I 99) 12)]) (st' := [.int p1]) (E' := E) (I' := (u_I I 99 (upd (I 99) 3 (nI 0)))) (J' := J) (S' := S) am_e232 rfl rfl rfl rfl ?_
  refine w_st (i' := 2) (ls' := [.int p1, .int (nI 0), .int ((I 99) 12)]) (st' := [.int (nI 0), .int p1]) (E' := E) (I' := (u_I I 99 (upd (I 99) 3 (nI 0)))) (J' := J) (S' := S) am_e232 rfl rfl rfl rfl ?_
  refine w_if2 am_e232 rfl rfl (fun c => ?_) (fun c => ?_)
  · replace h := h.1 (of_decide_eq_true c)
    refine w_st (i' := 9) (ls' := [.int p1, .int (nI 0), .int ((I 99) 12)]) (st' := [.int (nI 0)]) (E' := E) (I' := (u_I I 99 (upd (I 99) 3 (nI 0)))) (J' := J) (S' := S) am_e232 rfl rfl rfl rfl ?_
    refine w_end (E' := E) (I' := (u_I I 99 (upd (I 99) 3 (nI 0)))) (J' := J) (S' := S) am_e232 rfl rfl rfl (q_mkI ?_)
    show am_ww 250 8 [.ref 99, .int p1] [.int (nI 0)] E (u_I I 99 (upd (I 99) 3 (nI 0))) J S _
    refine w_st (i' := 9) (ls' := [.ref 99, .int p1]) (st' := []) (E' := E) (I' := (u_I I 99 (upd (I 99) 3 (nI 0)))) (J' := J) (S' := S) am_e250 rfl rfl rfl rfl ?_
    refine w_st (i' := 10) (ls' := [.ref 99, .int p1]) (st' := [.ref 99]) (E' := E) (I' := (u_I I 99 (upd (I 99) 3 (nI 0)))) (J' := J) (S' := S) am_e250 rfl rfl rfl rfl ?_
    refine w_st (i' := 11) (ls' := [.ref 99, .int p1]) (st' := [.int (nI 1), .ref 99]) (E' := E) (I' := (u_I I 99 (upd (I 99) 3 (nI 0)))) (J' := J) (S' := S) am_e250 rfl rfl rfl rfl ?_
    refine w_cI am_e250 rfl rfl (as := [.ref 99, .int (nI 1)]) (rest := []) rfl rfl ?_
    show am_ww 189 0 [.ref 99, .int (nI 1)] [] E (u_I I 99 (upd (I 99) 3 (nI 0))) J S _
    refine w_st (i' := 1) (ls' := [.ref 99, .int (nI 1)]) (st' := [.ref 99]) (E' := E) (I' := (u_I I 99 (upd (I 99) 3 (nI 0)))) (J' := J) (S' := S) am_e189 rfl rfl rfl rfl ?_
    refine w_st (i' := 2) (ls' := [.ref 99, .int (nI 1)]) (st' := [.int (nI 1), .ref 99]) (E' := E) (I' := (u_I I 99 (upd (I 99) 3 (nI 0)))) (J' := J) (S' := S) am_e189 rfl rfl rfl rfl ?_
    refine w_st (i' := 3) (ls' := [.ref 99, .int (nI 1)]) (st' := []) (E' := E) (I' := (u_I (u_I I 99 (upd (I 99) 3 (nI 0))) 99 (upd (upd (I 99) 3 (nI 0)) 3 (nI 1)))) (J' := J) (S' := S) am_e189 rfl rfl rfl rfl ?_
    refine w_eI (uI_0 ..) ?_
    show am_ww 189 3 [.ref 99, .int (nI 1)] [] E (u_I I 99 (upd (upd (I 99) 3 (nI 0)) 3 (nI 1))) J S _
    refine w_st (i' := 4) (ls' := [.ref 99, .int (nI 1)]) (st' := [.int (nI 0)]) (E' := E) (I' := (u_I I 99 (upd (upd (I 99) 3 (nI 0)) 3 (nI 1)))) (J' := J) (S' := S) am_e189 rfl rfl rfl rfl ?_
    refine w_end (E' := E) (I' := (u_I I 99 (upd (upd (I 99) 3 (nI 0)) 3 (nI 1)))) (J' := J) (S' := S) am_e189 rfl rfl rfl (q_mkI ?_)
    show am_ww 250 12 [.ref 99, .int p1] [.int (nI 0)] E (u_I I 99 (upd (upd (I 99) 3 (nI 0)) 3 (nI 1))) J S _
    exact w_end am_e250 rfl rfl rfl h
  · replace h := h.2 (of_decide_eq_false c)
    refine w_st (i' := 4) (ls' := [.int p1, .int (nI 0), .int ((I 99) 12)]) (st' := [.int p1]) (E' := E) (I' := (u_I I 99 (upd (I 99) 3 (nI 0)))) (J' := J) (S' := S) am_e232 rfl rfl rfl rfl ?_
    refine w_st (i' := 5) (ls' := [.int p1, .int (nI 0), .int ((I 99) 12)]) (st' := [.int ((I 99) 12), .int p1]) (E' := E) (I' := (u_I I 99 (upd (I 99) 3 (nI 0)))) (J' := J) (S' := S) am_e232 rfl rfl rfl rfl ?_
    refine w_if2 am_e232 rfl rfl (fun c => ?_) (fun c => ?_)
    · replace h := h.1 (of_decide_eq_true c)
      refine w_st (i' := 9) (ls' := [.int p1, .int (nI 0), .int ((I 99) 12)]) (st' := [.int (nI 0)]) (E' := E) (I' := (u_I I 99 (upd (I 99) 3 (nI 0)))) (J' := J) (S' := S) am_e232 rfl rfl rfl rfl ?_
      refine w_end (E' := E) (I' := (u_I I 99 (upd (I 99) 3 (nI 0)))) (J' := J) (S' := S) am_e232 rfl rfl rfl (q_mkI ?_)
      show am_ww 250 8 [.ref 99, .int p1] [.int (nI 0)] E (u_I I 99 (upd (I 99) 3 (nI 0))) J S _
      refine w_st (i' := 9) (ls' := [.ref 99, .int p1]) (st' := []) (E' := E) (I' := (u_I I 99 (upd (I 99) 3 (nI 0)))) (J' := J) (S' := S) am_e250 rfl rfl rfl rfl ?_
      refine w_st (i' := 10) (ls' := [.ref 99, .int p1]) (st' := [.ref 99]) (E' := E) (I' := (u_I I 99 (upd (I 99) 3 (nI 0)))) (J' := J) (S' := S) am_e250 rfl rfl rfl rfl ?_
      refine w_st (i' := 11) (ls' := [.ref 99, .int p1]) (st' := [.int (nI 1), .ref 99]) (E' := E) (I' := (u_I I 99 (upd (I 99) 3 (nI 0)))) (J' := J) (S' := S) am_e250 rfl rfl rfl rfl ?_
      refine w_cI am_e250 rfl rfl (as := [.ref 99, .int (nI 1)]) (rest := []) rfl rfl ?_
      show am_ww 189 0 [.ref 99, .int (nI 1)] [] E (u_I I 99 (upd (I 99) 3 (nI 0))) J S _
      refine w_st (i' := 1) (ls' := [.ref 99, .int (nI 1)]) (st' := [.ref 99]) (E' := E) (I' := (u_I I 99 (upd (I 99) 3 (nI 0)))) (J' := J) (S' := S) am_e189 rfl rfl rfl rfl ?_
      refine w_st (i' := 2) (ls' := [.ref 99, .int (nI 1)]) (st' := [.int (nI 1), .ref 99]) (E' := E) (I' := (u_I I 99 (upd (I 99) 3 (nI 0)))) (J' := J) (S' := S) am_e189 rfl rfl rfl rfl ?_
      refine w_st (i' := 3) (ls' := [.ref 99, .int (nI 1)]) (st' := []) (E' := E) (I' := (u_I (u_I I 99 (upd (I 99) 3 (nI 0))) 99 (upd (upd (I 99) 3 (nI 0)) 3 (nI 1)))) (J' := J) (S' := S) am_e189 rfl rfl rfl rfl ?_
      refine w_eI (uI_0 ..) ?_
      show am_ww 189 3 [.ref 99, .int (nI 1)] [] E (u_I I 99 (upd (upd (I 99) 3 (nI 0)) 3 (nI 1))) J S _
      refine w_st (i' := 4) (ls' := [.ref 99, .int (nI 1)]) (st' := [.int (nI 0)]) (E' := E) (I' := (u_I I 99 (upd (upd (I 99) 3 (nI 0)) 3 (nI 1)))) (J' := J) (S' := S) am_e189 rfl rfl rfl rfl ?_
      refine w_end (E' := E) (I' := (u_I I 99 (upd (upd (I 99) 3 (nI 0)) 3 (nI 1)))) (J' := J) (S' := S) am_e189 rfl rfl rfl (q_mkI ?_)
      show am_ww 250 12 [.ref 99, .int p1] [.int (nI 0)] E (u_I I 99 (upd (upd (I 99) 3 (nI 0)) 3 (nI 1))) J S _
      exact w_end am_e250 rfl rfl rfl h
    · replace h := h.2 (of_decide_eq_false c)
      refine w_st (i' := 7) (ls' := [.int p1, .int (nI 0), .int ((I 99) 12)]) (st' := [.int (nI 1)]) (E' := E) (I' := (u_I I 99 (upd (I 99) 3 (nI 0)))) (J' := J) (S' := S) am_e232 rfl rfl rfl rfl ?_
      refine w_st (i' := 9) (ls' := [.int p1, .int (nI 0), .int ((I 99) 12)]) (st' := [.int (nI 1)]) (E' := E) (I' := (u_I I 99 (upd (I 99) 3 (nI 0)))) (J' := J) (S' := S) am_e232 rfl rfl rfl rfl ?_
      refine w_end (E' := E) (I' := (u_I I 99 (upd (I 99) 3 (nI 0)))) (J' := J) (S' := S) am_e232 rfl rfl rfl (q_mkI ?_)
      show am_ww 250 8 [.ref 99, .int p1] [.int (nI 1)] E (u_I I 99 (upd (I 99) 3 (nI 0))) J S _
      refine w_st (i' := 13) (ls' := [.ref 99, .int p1]) (st' := []) (E' := E) (I' := (u_I I 99 (upd (I 99) 3 (nI 0)))) (J' := J) (S' := S) am_e250 rfl rfl rfl rfl ?_
      refine w_st (i' := 14) (ls' := [.ref 99, .int p1]) (st' := [.ref 99]) (E' := E) (I' := (u_I I 99 (upd (I 99) 3 (nI 0)))) (J' := J) (S' := S) am_e250 rfl rfl rfl rfl ?_
      refine w_st (i' := 15) (ls' := [.ref 99, .int p1]) (st' := [.int p1, .ref 99]) (E' := E) (I' := (u_I I 99 (upd (I 99) 3 (nI 0)))) (J' := J) (S' := S) am_e250 rfl rfl rfl rfl ?_
      refine w_st (i' := 16) (ls' := [.ref 99, .int p1]) (st' := []) (E' := E) (I' := (u_I (u_I I 99 (upd (I 99) 3 (nI 0))) 99 (upd (upd (I 99) 3 (nI 0)) 13 p1))) (J' := J) (S' := S) am_e250 rfl rfl rfl rfl ?_
      refine w_eI (uI_0 ..) ?_
      show am_ww 250 16 [.ref 99, .int p1] [] E (u_I I 99 (upd (upd (I 99) 3 (nI 0)) 13 p1)) J S _
      refine w_st (i' := 17) (ls' := [.ref 99, .int p1]) (st' := [.ref 99]) (E' := E) (I' := (u_I I 99 (upd (upd (I 99) 3 (nI 0)) 13 p1))) (J' := J) (S' := S) am_e250 rfl rfl rfl rfl ?_
      refine w_cV am_e250 rfl rfl (as := [.ref 99]) (rest := []) rfl rfl (am_ww.mono h ?_)
      rintro _ E1 I1 J1 S1 ⟨rfl, h⟩
      refine q_mkV ?_
      refine w_st (i' := 19) (ls' := [.ref 99, .int p1]) (st' := [.ref 99]) (E' := E1) (I' := I1) (J' := J1) (S' := S1) am_e250 rfl rfl rfl rfl ?_
      refine w_st (i' := 20) (ls' := [.ref 99, .int p1]) (st' := [.int p1, .ref 99]) (E' := E1) (I' := I1) (J' := J1) (S' := S1) am_e250 rfl rfl rfl rfl ?_
      refine w_cI am_e250 rfl rfl (as := [.ref 99, .int p1]) (rest := []) rfl rfl (am_ww.mono h ?_)
      rintro _ E2 I2 J2 S2 ⟨v2, rfl, h⟩
      refine q_mkI ?_
      exact w_ri am_e250 rfl rfl h
-- 251 cell
theorem g251_0 {p1 : Int32} {E : am_Ev} {I : Nat → Nat → Int32} {J : Nat → Nat → Int64} {S : Nat → Nat → Option Nat} {Q : am_Qt}  (h : (p1 < (nI 0) → (Q (.inl (some (.int (nI 0)))) E (u_I I 99 (upd (upd (I 99) 3 (nI 0)) 3 (nI 1))) J S)) ∧ (¬ p1 < (nI 0) → (((nI 15) < p1 → (Q (.inl (some (.int (nI 0)))) E (u_I I 99 (upd (upd (I 99) 3 (nI 0)) 3 (nI 1))) J S)) ∧ (¬ (nI 15) < p1 → (vp_in (((nI 51) * ((I 99) 13)) + p1) 20451 ∧ (∀ w2 : Int32, w2 = ((I 117) ((((nI 51) * ((I 99) 13)) + p1).toNatClampNeg)) → (Q (.inl (some (.int w2))) E (u_I I 99 (upd (I 99) 3 (nI 0))) J S))))))) : am_ww 251 0 [.ref 99, .int p1] [] E I J S Q := by
  refine w_st (i' := 1) (ls' := [.ref 99, .int p1]) (st' := [.ref 99]) (E' := E) (I' := I) (J' := J) (S' := S) am_e251 rfl rfl rfl rfl ?_
  refine w_st (i' := 2) (ls' := [.ref 99, .int p1]) (st' := [.int (nI 0), .ref 99]) (E' := E) (I' := I) (J' := J) (S' := S) am_e251 rfl rfl rfl rfl ?_
  refine w_st (i' := 3) (ls' := [.ref 99, .int p1]) (st' := []) (E' := E) (I' := (u_I I 99 (upd (I 99) 3 (nI 0)))) (J' := J) (S' := S) am_e251 rfl rfl rfl rfl ?_
  refine w_st (i' := 4) (ls' := [.ref 99, .int p1]) (st' := [.int p1]) (E' := E) (I' := (u_I I 99 (upd (I 99) 3 (nI 0)))) (J' := J) (S' := S) am_e251 rfl rfl rfl rfl ?_
  refine w_st (i' := 5) (ls' := [.ref 99, .int p1]) (st' := [.int (nI 0), .int p1]) (E' := E) (I' := (u_I I 99 (upd (I 99) 3 (nI 0)))) (J' := J) (S' := S) am_e251 rfl rfl rfl rfl ?_
  refine w_st (i' := 6) (ls' := [.ref 99, .int p1]) (st' := [.int (nI 15), .int (nI 0), .int p1]) (E' := E) (I' := (u_I I 99 (upd (I 99) 3 (nI 0)))) (J' := J) (S' := S) am_e251 rfl rfl rfl rfl ?_
  refine w_cI am_e251 rfl rfl (as := [.int p1, .int (nI 0), .int (nI 15)]) (rest := []) rfl rfl ?_
  show am_ww 232 0 [.int p1, .int (nI 0), .int (nI 15)] [] E (u_I I 99 (upd (I 99) 3 (nI 0))) J S _
  refine w_st (i' := 1) (ls' := [.int p1, .int (nI 0), .int (nI 15)]) (st' := [.int p1]) (E' := E) (I' := (u_I I 99 (upd (I 99) 3 (nI 0)))) (J' := J) (S' := S) am_e232 rfl rfl rfl rfl ?_
  refine w_st (i' := 2) (ls' := [.int p1, .int (nI 0), .int (nI 15)]) (st' := [.int (nI 0), .int p1]) (E' := E) (I' := (u_I I 99 (upd (I 99) 3 (nI 0)))) (J' := J) (S' := S) am_e232 rfl rfl rfl rfl ?_
  refine w_if2 am_e232 rfl rfl (fun c => ?_) (fun c => ?_)
  · replace h := h.1 (of_decide_eq_true c)
    refine w_st (i' := 9) (ls' := [.int p1, .int (nI 0), .int (nI 15)]) (st' := [.int (nI 0)]) (E' := E) (I' := (u_I I 99 (upd (I 99) 3 (nI 0)))) (J' := J) (S' := S) am_e232 rfl rfl rfl rfl ?_
    refine w_end (E' := E) (I' := (u_I I 99 (upd (I 99) 3 (nI 0)))) (J' := J) (S' := S) am_e232 rfl rfl rfl (q_mkI ?_)
    show am_ww 251 7 [.ref 99, .int p1] [.int (nI 0)] E (u_I I 99 (upd (I 99) 3 (nI 0))) J S _
    refine w_st (i' := 14) (ls' := [.ref 99, .int p1]) (st' := []) (E' := E) (I' := (u_I I 99 (upd (I 99) 3 (nI 0)))) (J' := J) (S' := S) am_e251 rfl rfl rfl rfl ?_
    refine w_st (i' := 15) (ls' := [.ref 99, .int p1]) (st' := [.ref 99]) (E' := E) (I' := (u_I I 99 (upd (I 99) 3 (nI 0)))) (J' := J) (S' := S) am_e251 rfl rfl rfl rfl ?_
    refine w_st (i' := 16) (ls' := [.ref 99, .int p1]) (st' := [.int (nI 1), .ref 99]) (E' := E) (I' := (u_I I 99 (upd (I 99) 3 (nI 0)))) (J' := J) (S' := S) am_e251 rfl rfl rfl rfl ?_
    refine w_cI am_e251 rfl rfl (as := [.ref 99, .int (nI 1)]) (rest := []) rfl rfl ?_
    show am_ww 189 0 [.ref 99, .int (nI 1)] [] E (u_I I 99 (upd (I 99) 3 (nI 0))) J S _
    refine w_st (i' := 1) (ls' := [.ref 99, .int (nI 1)]) (st' := [.ref 99]) (E' := E) (I' := (u_I I 99 (upd (I 99) 3 (nI 0)))) (J' := J) (S' := S) am_e189 rfl rfl rfl rfl ?_
    refine w_st (i' := 2) (ls' := [.ref 99, .int (nI 1)]) (st' := [.int (nI 1), .ref 99]) (E' := E) (I' := (u_I I 99 (upd (I 99) 3 (nI 0)))) (J' := J) (S' := S) am_e189 rfl rfl rfl rfl ?_
    refine w_st (i' := 3) (ls' := [.ref 99, .int (nI 1)]) (st' := []) (E' := E) (I' := (u_I (u_I I 99 (upd (I 99) 3 (nI 0))) 99 (upd (upd (I 99) 3 (nI 0)) 3 (nI 1)))) (J' := J) (S' := S) am_e189 rfl rfl rfl rfl ?_
    refine w_eI (uI_0 ..) ?_
    show am_ww 189 3 [.ref 99, .int (nI 1)] [] E (u_I I 99 (upd (upd (I 99) 3 (nI 0)) 3 (nI 1))) J S _
    refine w_st (i' := 4) (ls' := [.ref 99, .int (nI 1)]) (st' := [.int (nI 0)]) (E' := E) (I' := (u_I I 99 (upd (upd (I 99) 3 (nI 0)) 3 (nI 1)))) (J' := J) (S' := S) am_e189 rfl rfl rfl rfl ?_
    refine w_end (E' := E) (I' := (u_I I 99 (upd (upd (I 99) 3 (nI 0)) 3 (nI 1)))) (J' := J) (S' := S) am_e189 rfl rfl rfl (q_mkI ?_)
    show am_ww 251 17 [.ref 99, .int p1] [.int (nI 0)] E (u_I I 99 (upd (upd (I 99) 3 (nI 0)) 3 (nI 1))) J S _
    exact w_end am_e251 rfl rfl rfl h
  · replace h := h.2 (of_decide_eq_false c)
    refine w_st (i' := 4) (ls' := [.int p1, .int (nI 0), .int (nI 15)]) (st' := [.int p1]) (E' := E) (I' := (u_I I 99 (upd (I 99) 3 (nI 0)))) (J' := J) (S' := S) am_e232 rfl rfl rfl rfl ?_
    refine w_st (i' := 5) (ls' := [.int p1, .int (nI 0), .int (nI 15)]) (st' := [.int (nI 15), .int p1]) (E' := E) (I' := (u_I I 99 (upd (I 99) 3 (nI 0)))) (J' := J) (S' := S) am_e232 rfl rfl rfl rfl ?_
    refine w_if2 am_e232 rfl rfl (fun c => ?_) (fun c => ?_)
    · replace h := h.1 (of_decide_eq_true c)
      refine w_st (i' := 9) (ls' := [.int p1, .int (nI 0), .int (nI 15)]) (st' := [.int (nI 0)]) (E' := E) (I' := (u_I I 99 (upd (I 99) 3 (nI 0)))) (J' := J) (S' := S) am_e232 rfl rfl rfl rfl ?_
      refine w_end (E' := E) (I' := (u_I I 99 (upd (I 99) 3 (nI 0)))) (J' := J) (S' := S) am_e232 rfl rfl rfl (q_mkI ?_)
      show am_ww 251 7 [.ref 99, .int p1] [.int (nI 0)] E (u_I I 99 (upd (I 99) 3 (nI 0))) J S _
      refine w_st (i' := 14) (ls' := [.ref 99, .int p1]) (st' := []) (E' := E) (I' := (u_I I 99 (upd (I 99) 3 (nI 0)))) (J' := J) (S' := S) am_e251 rfl rfl rfl rfl ?_
      refine w_st (i' := 15) (ls' := [.ref 99, .int p1]) (st' := [.ref 99]) (E' := E) (I' := (u_I I 99 (upd (I 99) 3 (nI 0)))) (J' := J) (S' := S) am_e251 rfl rfl rfl rfl ?_
      refine w_st (i' := 16) (ls' := [.ref 99, .int p1]) (st' := [.int (nI 1), .ref 99]) (E' := E) (I' := (u_I I 99 (upd (I 99) 3 (nI 0)))) (J' := J) (S' := S) am_e251 rfl rfl rfl rfl ?_
      refine w_cI am_e251 rfl rfl (as := [.ref 99, .int (nI 1)]) (rest := []) rfl rfl ?_
      show am_ww 189 0 [.ref 99, .int (nI 1)] [] E (u_I I 99 (upd (I 99) 3 (nI 0))) J S _
      refine w_st (i' := 1) (ls' := [.ref 99, .int (nI 1)]) (st' := [.ref 99]) (E' := E) (I' := (u_I I 99 (upd (I 99) 3 (nI 0)))) (J' := J) (S' := S) am_e189 rfl rfl rfl rfl ?_
      refine w_st (i' := 2) (ls' := [.ref 99, .int (nI 1)]) (st' := [.int (nI 1), .ref 99]) (E' := E) (I' := (u_I I 99 (upd (I 99) 3 (nI 0)))) (J' := J) (S' := S) am_e189 rfl rfl rfl rfl ?_
      refine w_st (i' := 3) (ls' := [.ref 99, .int (nI 1)]) (st' := []) (E' := E) (I' := (u_I (u_I I 99 (upd (I 99) 3 (nI 0))) 99 (upd (upd (I 99) 3 (nI 0)) 3 (nI 1)))) (J' := J) (S' := S) am_e189 rfl rfl rfl rfl ?_
      refine w_eI (uI_0 ..) ?_
      show am_ww 189 3 [.ref 99, .int (nI 1)] [] E (u_I I 99 (upd (upd (I 99) 3 (nI 0)) 3 (nI 1))) J S _
      refine w_st (i' := 4) (ls' := [.ref 99, .int (nI 1)]) (st' := [.int (nI 0)]) (E' := E) (I' := (u_I I 99 (upd (upd (I 99) 3 (nI 0)) 3 (nI 1)))) (J' := J) (S' := S) am_e189 rfl rfl rfl rfl ?_
      refine w_end (E' := E) (I' := (u_I I 99 (upd (upd (I 99) 3 (nI 0)) 3 (nI 1)))) (J' := J) (S' := S) am_e189 rfl rfl rfl (q_mkI ?_)
      show am_ww 251 17 [.ref 99, .int p1] [.int (nI 0)] E (u_I I 99 (upd (upd (I 99) 3 (nI 0)) 3 (nI 1))) J S _
      exact w_end am_e251 rfl rfl rfl h
    · replace h := h.2 (of_decide_eq_false c)
      refine w_st (i' := 7) (ls' := [.int p1, .int (nI 0), .int (nI 15)]) (st' := [.int (nI 1)]) (E' := E) (I' := (u_I I 99 (upd (I 99) 3 (nI 0)))) (J' := J) (S' := S) am_e232 rfl rfl rfl rfl ?_
      refine w_st (i' := 9) (ls' := [.int p1, .int (nI 0), .int (nI 15)]) (st' := [.int (nI 1)]) (E' := E) (I' := (u_I I 99 (upd (I 99) 3 (nI 0)))) (J' := J) (S' := S) am_e232 rfl rfl rfl rfl ?_
      refine w_end (E' := E) (I' := (u_I I 99 (upd (I 99) 3 (nI 0)))) (J' := J) (S' := S) am_e232 rfl rfl rfl (q_mkI ?_)
      show am_ww 251 7 [.ref 99, .int p1] [.int (nI 1)] E (u_I I 99 (upd (I 99) 3 (nI 0))) J S _
      refine w_st (i' := 8) (ls' := [.ref 99, .int p1]) (st' := []) (E' := E) (I' := (u_I I 99 (upd (I 99) 3 (nI 0)))) (J' := J) (S' := S) am_e251 rfl rfl rfl rfl ?_
      refine w_st (i' := 9) (ls' := [.ref 99, .int p1]) (st' := [.ref 99]) (E' := E) (I' := (u_I I 99 (upd (I 99) 3 (nI 0)))) (J' := J) (S' := S) am_e251 rfl rfl rfl rfl ?_
      refine w_st (i' := 10) (ls' := [.ref 99, .int p1]) (st' := [.ref 99, .ref 99]) (E' := E) (I' := (u_I I 99 (upd (I 99) 3 (nI 0)))) (J' := J) (S' := S) am_e251 rfl rfl rfl rfl ?_
      refine w_st (i' := 11) (ls' := [.ref 99, .int p1]) (st' := [.int ((I 99) 13), .ref 99]) (E' := E) (I' := (u_I I 99 (upd (I 99) 3 (nI 0)))) (J' := J) (S' := S) am_e251 rfl rfl rfl rfl ?_
      refine w_st (i' := 12) (ls' := [.ref 99, .int p1]) (st' := [.int p1, .int ((I 99) 13), .ref 99]) (E' := E) (I' := (u_I I 99 (upd (I 99) 3 (nI 0)))) (J' := J) (S' := S) am_e251 rfl rfl rfl rfl ?_
      refine w_cI am_e251 rfl rfl (as := [.ref 99, .int ((I 99) 13), .int p1]) (rest := []) rfl rfl ?_
      show am_ww 245 0 [.ref 99, .int ((I 99) 13), .int p1] [] E (u_I I 99 (upd (I 99) 3 (nI 0))) J S _
      refine w_st (i' := 1) (ls' := [.ref 99, .int ((I 99) 13), .int p1]) (st' := [.ref 99]) (E' := E) (I' := (u_I I 99 (upd (I 99) 3 (nI 0)))) (J' := J) (S' := S) am_e245 rfl rfl rfl rfl ?_
      refine w_st (i' := 2) (ls' := [.ref 99, .int ((I 99) 13), .int p1]) (st' := [.ref 117]) (E' := E) (I' := (u_I I 99 (upd (I 99) 3 (nI 0)))) (J' := J) (S' := S) am_e245 rfl rfl rfl rfl ?_
      refine w_st (i' := 3) (ls' := [.ref 99, .int ((I 99) 13), .int p1]) (st' := [.int (nI 51), .ref 117]) (E' := E) (I' := (u_I I 99 (upd (I 99) 3 (nI 0)))) (J' := J) (S' := S) am_e245 rfl rfl rfl rfl ?_
      refine w_st (i' := 4) (ls' := [.ref 99, .int ((I 99) 13), .int p1]) (st' := [.int ((I 99) 13), .int (nI 51), .ref 117]) (E' := E) (I' := (u_I I 99 (upd (I 99) 3 (nI 0)))) (J' := J) (S' := S) am_e245 rfl rfl rfl rfl ?_
      refine w_st (i' := 5) (ls' := [.ref 99, .int ((I 99) 13), .int p1]) (st' := [.int ((nI 51) * ((I 99) 13)), .ref 117]) (E' := E) (I' := (u_I I 99 (upd (I 99) 3 (nI 0)))) (J' := J) (S' := S) am_e245 rfl rfl rfl rfl ?_
      refine w_st (i' := 6) (ls' := [.ref 99, .int ((I 99) 13), .int p1]) (st' := [.int p1, .int ((nI 51) * ((I 99) 13)), .ref 117]) (E' := E) (I' := (u_I I 99 (upd (I 99) 3 (nI 0)))) (J' := J) (S' := S) am_e245 rfl rfl rfl rfl ?_
      refine w_st (i' := 7) (ls' := [.ref 99, .int ((I 99) 13), .int p1]) (st' := [.int (((nI 51) * ((I 99) 13)) + p1), .ref 117]) (E' := E) (I' := (u_I I 99 (upd (I 99) 3 (nI 0)))) (J' := J) (S' := S) am_e245 rfl rfl rfl rfl ?_
      have hf1 := h.1
      replace h := h.2
      refine w_ia (k := 117) (n := 20451) (jn := (((nI 51) * ((I 99) 13)) + p1).toNatClampNeg) am_e245 rfl rfl (by decide) hf1 rfl ?_
      show am_ww 245 8 [.ref 99, .int ((I 99) 13), .int p1] [.int ((I 117) ((((nI 51) * ((I 99) 13)) + p1).toNatClampNeg))] E (u_I I 99 (upd (I 99) 3 (nI 0))) J S _
      refine w_ri am_e245 rfl rfl (q_mkI ?_)
      show am_ww 251 13 [.ref 99, .int p1] [.int ((I 117) ((((nI 51) * ((I 99) 13)) + p1).toNatClampNeg))] E (u_I I 99 (upd (I 99) 3 (nI 0))) J S _
      refine w_var (fun w2 => am_ww 251 13 [.ref 99, .int p1] [.int w2] E (u_I I 99 (upd (I 99) 3 (nI 0))) J S _) ((I 117) ((((nI 51) * ((I 99) 13)) + p1).toNatClampNeg)) (fun w2 hw2 => ?_)
      replace h := h w2 hw2
      refine w_st (i' := 17) (ls' := [.ref 99, .int p1]) (st' := [.int w2]) (E' := E) (I' := (u_I I 99 (upd (I 99) 3 (nI 0)))) (J' := J) (S' := S) am_e251 rfl rfl rfl rfl ?_
      exact w_ri am_e251 rfl rfl h
-- 252 thread
theorem g252_0 {p1 : Int32} {p2 : Int32} {E : am_Ev} {I : Nat → Nat → Int32} {J : Nat → Nat → Int64} {S : Nat → Nat → Option Nat} {Q : am_Qt}  (h : (p1 < (nI 0) → (Q (.inl (some (.int (nI 0)))) E (u_I I 99 (upd (upd (I 99) 3 (nI 0)) 3 (nI 1))) J S)) ∧ (¬ p1 < (nI 0) → (((((I 103) 4) - (nI 1)) < p1 → (Q (.inl (some (.int (nI 0)))) E (u_I I 99 (upd (upd (I 99) 3 (nI 0)) 3 (nI 1))) J S)) ∧ (¬ (((I 103) 4) - (nI 1)) < p1 → ((p2 < (nI 0) → (Q (.inl (some (.int (nI 0)))) E (u_I I 99 (upd (upd (I 99) 3 (nI 0)) 3 (nI 1))) J S)) ∧ (¬ p2 < (nI 0) → (((nI 7) < p2 → (Q (.inl (some (.int (nI 0)))) E (u_I I 99 (upd (upd (I 99) 3 (nI 0)) 3 (nI 1))) J S)) ∧ (¬ (nI 7) < p2 → (((nI 6) ≤ p2 → ((p2 = (nI 6) → (∀ w7 : Int32, w7 = (((nI 16) + ((nI 6) * p1)) + (nI 4)) → (vp_in (((nI 51) * ((I 99) 13)) + w7) 20451 ∧ (∀ w9 : Int32, w9 = ((I 117) ((((nI 51) * ((I 99) 13)) + w7).toNatClampNeg)) → (vp_in p1 8 ∧ (∀ w12 : Int32, w12 = (if w9 < ((I 105) p1.toNatClampNeg) then nI 0 else nI 1) → (∀ w14 : Int32, w14 = (if w12 = 0 then nI 0 else nI 1) → (Q (.inl (some (.int w14))) E (u_I I 99 (upd (I 99) 3 (nI 0))) J S)))))))) ∧ (¬ p2 = (nI 6) → (vp_in (((nI 51) * ((I 99) 13)) + (nI 44)) 20451 ∧ (∀ w2 : Int32, w2 = ((I 117) ((((nI 51) * ((I 99) 13)) + (nI 44)).toNatClampNeg)) → (∀ w4 : Int32, w4 = (if w2 = p1 then nI 1 else nI 0) → (∀ w6 : Int32, w6 = (if w4 = 0 then nI 0 else nI 1) → (Q (.inl (some (.int w6))) E (u_I I 99 (upd (I 99) 3 (nI 0))) J S)))))))) ∧ (¬ (nI 6) ≤ p2 → (∀ w15 : Int32, w15 = (((nI 16) + ((nI 6) * p1)) + p2) → (vp_in (((nI 51) * ((I 99) 13)) + w15) 20451 ∧ (∀ w17 : Int32, w17 = ((I 117) ((((nI 51) * ((I 99) 13)) + w15).toNatClampNeg)) → (Q (.inl (some (.int w17))) E (u_I I 99 (upd (I 99) 3 (nI 0))) J S)))))))))))))) : am_ww 252 0 [.ref 99, .int p1, .int p2, am_U] [] E I J S Q := by
  refine w_st (i' := 1) (ls' := [.ref 99, .int p1, .int p2, am_U]) (st' := [.ref 99]) (E' := E) (I' := I) (J' := J) (S' := S) am_e252 rfl rfl rfl rfl ?_
  refine w_st (i' := 2) (ls' := [.ref 99, .int p1, .int p2, am_U]) (st' := [.int (nI 0), .ref 99]) (E' := E) (I' := I) (J' := J) (S' := S) am_e252 rfl rfl rfl rfl ?_
  refine w_st (i' := 3) (ls' := [.ref 99, .int p1, .int p2, am_U]) (st' := []) (E' := E) (I' := (u_I I 99 (upd (I 99) 3 (nI 0)))) (J' := J) (S' := S) am_e252 rfl rfl rfl rfl ?_
  refine w_st (i' := 4) (ls' := [.ref 99, .int p1, .int p2, am_U]) (st' := [.int p1]) (E' := E) (I' := (u_I I 99 (upd (I 99) 3 (nI 0)))) (J' := J) (S' := S) am_e252 rfl rfl rfl rfl ?_
  refine w_st (i' := 5) (ls' := [.ref 99, .int p1, .int p2, am_U]) (st' := [.int (nI 0), .int p1]) (E' := E) (I' := (u_I I 99 (upd (I 99) 3 (nI 0)))) (J' := J) (S' := S) am_e252 rfl rfl rfl rfl ?_
  refine w_st (i' := 6) (ls' := [.ref 99, .int p1, .int p2, am_U]) (st' := [.ref 99, .int (nI 0), .int p1]) (E' := E) (I' := (u_I I 99 (upd (I 99) 3 (nI 0)))) (J' := J) (S' := S) am_e252 rfl rfl rfl rfl ?_
  refine w_st (i' := 7) (ls' := [.ref 99, .int p1, .int p2, am_U]) (st' := [.ref 103, .int (nI 0), .int p1]) (E' := E) (I' := (u_I I 99 (upd (I 99) 3 (nI 0)))) (J' := J) (S' := S) am_e252 rfl rfl rfl rfl ?_
  refine w_st (i' := 8) (ls' := [.ref 99, .int p1, .int p2, am_U]) (st' := [.int (nI 4), .ref 103, .int (nI 0), .int p1]) (E' := E) (I' := (u_I I 99 (upd (I 99) 3 (nI 0)))) (J' := J) (S' := S) am_e252 rfl rfl rfl rfl ?_
  refine w_ia (k := 103) (n := 10) (jn := 4) am_e252 rfl rfl (by decide) (vp_in_nI (by decide) (by decide)) rfl ?_
  show am_ww 252 9 [.ref 99, .int p1, .int p2, am_U] [.int ((I 103) 4), .int (nI 0), .int p1] E (u_I I 99 (upd (I 99) 3 (nI 0))) J S _
  refine w_st (i' := 10) (ls' := [.ref 99, .int p1, .int p2, am_U]) (st' := [.int (nI 1), .int ((I 103) 4), .int (nI 0), .int p1]) (E' := E) (I' := (u_I I 99 (upd (I 99) 3 (nI 0)))) (J' := J) (S' := S) am_e252 rfl rfl rfl rfl ?_
  refine w_st (i' := 11) (ls' := [.ref 99, .int p1, .int p2, am_U]) (st' := [.int (((I 103) 4) - (nI 1)), .int (nI 0), .int p1]) (E' := E) (I' := (u_I I 99 (upd (I 99) 3 (nI 0)))) (J' := J) (S' := S) am_e252 rfl rfl rfl rfl ?_
  refine w_cI am_e252 rfl rfl (as := [.int p1, .int (nI 0), .int (((I 103) 4) - (nI 1))]) (rest := []) rfl rfl ?_
  show am_ww 232 0 [.int p1, .int (nI 0), .int (((I 103) 4) - (nI 1))] [] E (u_I I 99 (upd (I 99) 3 (nI 0))) J S _
  refine w_st (i' := 1) (ls' := [.int p1, .int (nI 0), .int (((I 103) 4) - (nI 1))]) (st' := [.int p1]) (E' := E) (I' := (u_I I 99 (upd (I 99) 3 (nI 0)))) (J' := J) (S' := S) am_e232 rfl rfl rfl rfl ?_
  refine w_st (i' := 2) (ls' := [.int p1, .int (nI 0), .int (((I 103) 4) - (nI 1))]) (st' := [.int (nI 0), .int p1]) (E' := E) (I' := (u_I I 99 (upd (I 99) 3 (nI 0)))) (J' := J) (S' := S) am_e232 rfl rfl rfl rfl ?_
  refine w_if2 am_e232 rfl rfl (fun c => ?_) (fun c => ?_)
  · replace h := h.1 (of_decide_eq_true c)
    refine w_st (i' := 9) (ls' := [.int p1, .int (nI 0), .int (((I 103) 4) - (nI 1))]) (st' := [.int (nI 0)]) (E' := E) (I' := (u_I I 99 (upd (I 99) 3 (nI 0)))) (J' := J) (S' := S) am_e232 rfl rfl rfl rfl ?_
    refine w_end (E' := E) (I' := (u_I I 99 (upd (I 99) 3 (nI 0)))) (J' := J) (S' := S) am_e232 rfl rfl rfl (q_mkI ?_)
    show am_ww 252 12 [.ref 99, .int p1, .int p2, am_U] [.int (nI 0)] E (u_I I 99 (upd (I 99) 3 (nI 0))) J S _
    refine w_st (i' := 18) (ls' := [.ref 99, .int p1, .int p2, am_U]) (st' := []) (E' := E) (I' := (u_I I 99 (upd (I 99) 3 (nI 0)))) (J' := J) (S' := S) am_e252 rfl rfl rfl rfl ?_
    refine w_st (i' := 19) (ls' := [.ref 99, .int p1, .int p2, am_U]) (st' := [.ref 99]) (E' := E) (I' := (u_I I 99 (upd (I 99) 3 (nI 0)))) (J' := J) (S' := S) am_e252 rfl rfl rfl rfl ?_
    refine w_st (i' := 20) (ls' := [.ref 99, .int p1, .int p2, am_U]) (st' := [.int (nI 1), .ref 99]) (E' := E) (I' := (u_I I 99 (upd (I 99) 3 (nI 0)))) (J' := J) (S' := S) am_e252 rfl rfl rfl rfl ?_
    refine w_cI am_e252 rfl rfl (as := [.ref 99, .int (nI 1)]) (rest := []) rfl rfl ?_
    show am_ww 189 0 [.ref 99, .int (nI 1)] [] E (u_I I 99 (upd (I 99) 3 (nI 0))) J S _
    refine w_st (i' := 1) (ls' := [.ref 99, .int (nI 1)]) (st' := [.ref 99]) (E' := E) (I' := (u_I I 99 (upd (I 99) 3 (nI 0)))) (J' := J) (S' := S) am_e189 rfl rfl rfl rfl ?_
    refine w_st (i' := 2) (ls' := [.ref 99, .int (nI 1)]) (st' := [.int (nI 1), .ref 99]) (E' := E) (I' := (u_I I 99 (upd (I 99) 3 (nI 0)))) (J' := J) (S' := S) am_e189 rfl rfl rfl rfl ?_
    refine w_st (i' := 3) (ls' := [.ref 99, .int (nI 1)]) (st' := []) (E' := E) (I' := (u_I (u_I I 99 (upd (I 99) 3 (nI 0))) 99 (upd (upd (I 99) 3 (nI 0)) 3 (nI 1)))) (J' := J) (S' := S) am_e189 rfl rfl rfl rfl ?_
    refine w_eI (uI_0 ..) ?_
    show am_ww 189 3 [.ref 99, .int (nI 1)] [] E (u_I I 99 (upd (upd (I 99) 3 (nI 0)) 3 (nI 1))) J S _
    refine w_st (i' := 4) (ls' := [.ref 99, .int (nI 1)]) (st' := [.int (nI 0)]) (E' := E) (I' := (u_I I 99 (upd (upd (I 99) 3 (nI 0)) 3 (nI 1)))) (J' := J) (S' := S) am_e189 rfl rfl rfl rfl ?_
    refine w_end (E' := E) (I' := (u_I I 99 (upd (upd (I 99) 3 (nI 0)) 3 (nI 1)))) (J' := J) (S' := S) am_e189 rfl rfl rfl (q_mkI ?_)
    show am_ww 252 21 [.ref 99, .int p1, .int p2, am_U] [.int (nI 0)] E (u_I I 99 (upd (upd (I 99) 3 (nI 0)) 3 (nI 1))) J S _
    exact w_end am_e252 rfl rfl rfl h
  · replace h := h.2 (of_decide_eq_false c)
    refine w_st (i' := 4) (ls' := [.int p1, .int (nI 0), .int (((I 103) 4) - (nI 1))]) (st' := [.int p1]) (E' := E) (I' := (u_I I 99 (upd (I 99) 3 (nI 0)))) (J' := J) (S' := S) am_e232 rfl rfl rfl rfl ?_
    refine w_st (i' := 5) (ls' := [.int p1, .int (nI 0), .int (((I 103) 4) - (nI 1))]) (st' := [.int (((I 103) 4) - (nI 1)), .int p1]) (E' := E) (I' := (u_I I 99 (upd (I 99) 3 (nI 0)))) (J' := J) (S' := S) am_e232 rfl rfl rfl rfl ?_
    refine w_if2 am_e232 rfl rfl (fun c => ?_) (fun c => ?_)
    · replace h := h.1 (of_decide_eq_true c)
      refine w_st (i' := 9) (ls' := [.int p1, .int (nI 0), .int (((I 103) 4) - (nI 1))]) (st' := [.int (nI 0)]) (E' := E) (I' := (u_I I 99 (upd (I 99) 3 (nI 0)))) (J' := J) (S' := S) am_e232 rfl rfl rfl rfl ?_
      refine w_end (E' := E) (I' := (u_I I 99 (upd (I 99) 3 (nI 0)))) (J' := J) (S' := S) am_e232 rfl rfl rfl (q_mkI ?_)
      show am_ww 252 12 [.ref 99, .int p1, .int p2, am_U] [.int (nI 0)] E (u_I I 99 (upd (I 99) 3 (nI 0))) J S _
      refine w_st (i' := 18) (ls' := [.ref 99, .int p1, .int p2, am_U]) (st' := []) (E' := E) (I' := (u_I I 99 (upd (I 99) 3 (nI 0)))) (J' := J) (S' := S) am_e252 rfl rfl rfl rfl ?_
      refine w_st (i' := 19) (ls' := [.ref 99, .int p1, .int p2, am_U]) (st' := [.ref 99]) (E' := E) (I' := (u_I I 99 (upd (I 99) 3 (nI 0)))) (J' := J) (S' := S) am_e252 rfl rfl rfl rfl ?_
      refine w_st (i' := 20) (ls' := [.ref 99, .int p1, .int p2, am_U]) (st' := [.int (nI 1), .ref 99]) (E' := E) (I' := (u_I I 99 (upd (I 99) 3 (nI 0)))) (J' := J) (S' := S) am_e252 rfl rfl rfl rfl ?_
      refine w_cI am_e252 rfl rfl (as := [.ref 99, .int (nI 1)]) (rest := []) rfl rfl ?_
      show am_ww 189 0 [.ref 99, .int (nI 1)] [] E (u_I I 99 (upd (I 99) 3 (nI 0))) J S _
      refine w_st (i' := 1) (ls' := [.ref 99, .int (nI 1)]) (st' := [.ref 99]) (E' := E) (I' := (u_I I 99 (upd (I 99) 3 (nI 0)))) (J' := J) (S' := S) am_e189 rfl rfl rfl rfl ?_
      refine w_st (i' := 2) (ls' := [.ref 99, .int (nI 1)]) (st' := [.int (nI 1), .ref 99]) (E' := E) (I' := (u_I I 99 (upd (I 99) 3 (nI 0)))) (J' := J) (S' := S) am_e189 rfl rfl rfl rfl ?_
      refine w_st (i' := 3) (ls' := [.ref 99, .int (nI 1)]) (st' := []) (E' := E) (I' := (u_I (u_I I 99 (upd (I 99) 3 (nI 0))) 99 (upd (upd (I 99) 3 (nI 0)) 3 (nI 1)))) (J' := J) (S' := S) am_e189 rfl rfl rfl rfl ?_
      refine w_eI (uI_0 ..) ?_
      show am_ww 189 3 [.ref 99, .int (nI 1)] [] E (u_I I 99 (upd (upd (I 99) 3 (nI 0)) 3 (nI 1))) J S _
      refine w_st (i' := 4) (ls' := [.ref 99, .int (nI 1)]) (st' := [.int (nI 0)]) (E' := E) (I' := (u_I I 99 (upd (upd (I 99) 3 (nI 0)) 3 (nI 1)))) (J' := J) (S' := S) am_e189 rfl rfl rfl rfl ?_
      refine w_end (E' := E) (I' := (u_I I 99 (upd (upd (I 99) 3 (nI 0)) 3 (nI 1)))) (J' := J) (S' := S) am_e189 rfl rfl rfl (q_mkI ?_)
      show am_ww 252 21 [.ref 99, .int p1, .int p2, am_U] [.int (nI 0)] E (u_I I 99 (upd (upd (I 99) 3 (nI 0)) 3 (nI 1))) J S _
      exact w_end am_e252 rfl rfl rfl h
    · replace h := h.2 (of_decide_eq_false c)
      refine w_st (i' := 7) (ls' := [.int p1, .int (nI 0), .int (((I 103) 4) - (nI 1))]) (st' := [.int (nI 1)]) (E' := E) (I' := (u_I I 99 (upd (I 99) 3 (nI 0)))) (J' := J) (S' := S) am_e232 rfl rfl rfl rfl ?_
      refine w_st (i' := 9) (ls' := [.int p1, .int (nI 0), .int (((I 103) 4) - (nI 1))]) (st' := [.int (nI 1)]) (E' := E) (I' := (u_I I 99 (upd (I 99) 3 (nI 0)))) (J' := J) (S' := S) am_e232 rfl rfl rfl rfl ?_
      refine w_end (E' := E) (I' := (u_I I 99 (upd (I 99) 3 (nI 0)))) (J' := J) (S' := S) am_e232 rfl rfl rfl (q_mkI ?_)
      show am_ww 252 12 [.ref 99, .int p1, .int p2, am_U] [.int (nI 1)] E (u_I I 99 (upd (I 99) 3 (nI 0))) J S _
      refine w_st (i' := 13) (ls' := [.ref 99, .int p1, .int p2, am_U]) (st' := []) (E' := E) (I' := (u_I I 99 (upd (I 99) 3 (nI 0)))) (J' := J) (S' := S) am_e252 rfl rfl rfl rfl ?_
      refine w_st (i' := 14) (ls' := [.ref 99, .int p1, .int p2, am_U]) (st' := [.int p2]) (E' := E) (I' := (u_I I 99 (upd (I 99) 3 (nI 0)))) (J' := J) (S' := S) am_e252 rfl rfl rfl rfl ?_
      refine w_st (i' := 15) (ls' := [.ref 99, .int p1, .int p2, am_U]) (st' := [.int (nI 0), .int p2]) (E' := E) (I' := (u_I I 99 (upd (I 99) 3 (nI 0)))) (J' := J) (S' := S) am_e252 rfl rfl rfl rfl ?_
      refine w_st (i' := 16) (ls' := [.ref 99, .int p1, .int p2, am_U]) (st' := [.int (nI 7), .int (nI 0), .int p2]) (E' := E) (I' := (u_I I 99 (upd (I 99) 3 (nI 0)))) (J' := J) (S' := S) am_e252 rfl rfl rfl rfl ?_
      refine w_cI am_e252 rfl rfl (as := [.int p2, .int (nI 0), .int (nI 7)]) (rest := []) rfl rfl ?_
      show am_ww 232 0 [.int p2, .int (nI 0), .int (nI 7)] [] E (u_I I 99 (upd (I 99) 3 (nI 0))) J S _
      refine w_st (i' := 1) (ls' := [.int p2, .int (nI 0), .int (nI 7)]) (st' := [.int p2]) (E' := E) (I' := (u_I I 99 (upd (I 99) 3 (nI 0)))) (J' := J) (S' := S) am_e232 rfl rfl rfl rfl ?_
      refine w_st (i' := 2) (ls' := [.int p2, .int (nI 0), .int (nI 7)]) (st' := [.int (nI 0), .int p2]) (E' := E) (I' := (u_I I 99 (upd (I 99) 3 (nI 0)))) (J' := J) (S' := S) am_e232 rfl rfl rfl rfl ?_
      refine w_if2 am_e232 rfl rfl (fun c => ?_) (fun c => ?_)
      · replace h := h.1 (of_decide_eq_true c)
        refine w_st (i' := 9) (ls' := [.int p2, .int (nI 0), .int (nI 7)]) (st' := [.int (nI 0)]) (E' := E) (I' := (u_I I 99 (upd (I 99) 3 (nI 0)))) (J' := J) (S' := S) am_e232 rfl rfl rfl rfl ?_
        refine w_end (E' := E) (I' := (u_I I 99 (upd (I 99) 3 (nI 0)))) (J' := J) (S' := S) am_e232 rfl rfl rfl (q_mkI ?_)
        show am_ww 252 17 [.ref 99, .int p1, .int p2, am_U] [.int (nI 0)] E (u_I I 99 (upd (I 99) 3 (nI 0))) J S _
        refine w_st (i' := 18) (ls' := [.ref 99, .int p1, .int p2, am_U]) (st' := []) (E' := E) (I' := (u_I I 99 (upd (I 99) 3 (nI 0)))) (J' := J) (S' := S) am_e252 rfl rfl rfl rfl ?_
        refine w_st (i' := 19) (ls' := [.ref 99, .int p1, .int p2, am_U]) (st' := [.ref 99]) (E' := E) (I' := (u_I I 99 (upd (I 99) 3 (nI 0)))) (J' := J) (S' := S) am_e252 rfl rfl rfl rfl ?_
        refine w_st (i' := 20) (ls' := [.ref 99, .int p1, .int p2, am_U]) (st' := [.int (nI 1), .ref 99]) (E' := E) (I' := (u_I I 99 (upd (I 99) 3 (nI 0)))) (J' := J) (S' := S) am_e252 rfl rfl rfl rfl ?_
        refine w_cI am_e252 rfl rfl (as := [.ref 99, .int (nI 1)]) (rest := []) rfl rfl ?_
        show am_ww 189 0 [.ref 99, .int (nI 1)] [] E (u_I I 99 (upd (I 99) 3 (nI 0))) J S _
        refine w_st (i' := 1) (ls' := [.ref 99, .int (nI 1)]) (st' := [.ref 99]) (E' := E) (I' := (u_I I 99 (upd (I 99) 3 (nI 0)))) (J' := J) (S' := S) am_e189 rfl rfl rfl rfl ?_
        refine w_st (i' := 2) (ls' := [.ref 99, .int (nI 1)]) (st' := [.int (nI 1), .ref 99]) (E' := E) (I' := (u_I I 99 (upd (I 99) 3 (nI 0)))) (J' := J) (S' := S) am_e189 rfl rfl rfl rfl ?_
        refine w_st (i' := 3) (ls' := [.ref 99, .int (nI 1)]) (st' := []) (E' := E) (I' := (u_I (u_I I 99 (upd (I 99) 3 (nI 0))) 99 (upd (upd (I 99) 3 (nI 0)) 3 (nI 1)))) (J' := J) (S' := S) am_e189 rfl rfl rfl rfl ?_
        refine w_eI (uI_0 ..) ?_
        show am_ww 189 3 [.ref 99, .int (nI 1)] [] E (u_I I 99 (upd (upd (I 99) 3 (nI 0)) 3 (nI 1))) J S _
        refine w_st (i' := 4) (ls' := [.ref 99, .int (nI 1)]) (st' := [.int (nI 0)]) (E' := E) (I' := (u_I I 99 (upd (upd (I 99) 3 (nI 0)) 3 (nI 1)))) (J' := J) (S' := S) am_e189 rfl rfl rfl rfl ?_
        refine w_end (E' := E) (I' := (u_I I 99 (upd (upd (I 99) 3 (nI 0)) 3 (nI 1)))) (J' := J) (S' := S) am_e189 rfl rfl rfl (q_mkI ?_)
        show am_ww 252 21 [.ref 99, .int p1, .int p2, am_U] [.int (nI 0)] E (u_I I 99 (upd (upd (I 99) 3 (nI 0)) 3 (nI 1))) J S _
        exact w_end am_e252 rfl rfl rfl h
      · replace h := h.2 (of_decide_eq_false c)
        refine w_st (i' := 4) (ls' := [.int p2, .int (nI 0), .int (nI 7)]) (st' := [.int p2]) (E' := E) (I' := (u_I I 99 (upd (I 99) 3 (nI 0)))) (J' := J) (S' := S) am_e232 rfl rfl rfl rfl ?_
        refine w_st (i' := 5) (ls' := [.int p2, .int (nI 0), .int (nI 7)]) (st' := [.int (nI 7), .int p2]) (E' := E) (I' := (u_I I 99 (upd (I 99) 3 (nI 0)))) (J' := J) (S' := S) am_e232 rfl rfl rfl rfl ?_
        refine w_if2 am_e232 rfl rfl (fun c => ?_) (fun c => ?_)
        · replace h := h.1 (of_decide_eq_true c)
          refine w_st (i' := 9) (ls' := [.int p2, .int (nI 0), .int (nI 7)]) (st' := [.int (nI 0)]) (E' := E) (I' := (u_I I 99 (upd (I 99) 3 (nI 0)))) (J' := J) (S' := S) am_e232 rfl rfl rfl rfl ?_
          refine w_end (E' := E) (I' := (u_I I 99 (upd (I 99) 3 (nI 0)))) (J' := J) (S' := S) am_e232 rfl rfl rfl (q_mkI ?_)
          show am_ww 252 17 [.ref 99, .int p1, .int p2, am_U] [.int (nI 0)] E (u_I I 99 (upd (I 99) 3 (nI 0))) J S _
          refine w_st (i' := 18) (ls' := [.ref 99, .int p1, .int p2, am_U]) (st' := []) (E' := E) (I' := (u_I I 99 (upd (I 99) 3 (nI 0)))) (J' := J) (S' := S) am_e252 rfl rfl rfl rfl ?_
          refine w_st (i' := 19) (ls' := [.ref 99, .int p1, .int p2, am_U]) (st' := [.ref 99]) (E' := E) (I' := (u_I I 99 (upd (I 99) 3 (nI 0)))) (J' := J) (S' := S) am_e252 rfl rfl rfl rfl ?_
          refine w_st (i' := 20) (ls' := [.ref 99, .int p1, .int p2, am_U]) (st' := [.int (nI 1), .ref 99]) (E' := E) (I' := (u_I I 99 (upd (I 99) 3 (nI 0)))) (J' := J) (S' := S) am_e252 rfl rfl rfl rfl ?_
          refine w_cI am_e252 rfl rfl (as := [.ref 99, .int (nI 1)]) (rest := []) rfl rfl ?_
          show am_ww 189 0 [.ref 99, .int (nI 1)] [] E (u_I I 99 (upd (I 99) 3 (nI 0))) J S _
          refine w_st (i' := 1) (ls' := [.ref 99, .int (nI 1)]) (st' := [.ref 99]) (E' := E) (I' := (u_I I 99 (upd (I 99) 3 (nI 0)))) (J' := J) (S' := S) am_e189 rfl rfl rfl rfl ?_
          refine w_st (i' := 2) (ls' := [.ref 99, .int (nI 1)]) (st' := [.int (nI 1), .ref 99]) (E' := E) (I' := (u_I I 99 (upd (I 99) 3 (nI 0)))) (J' := J) (S' := S) am_e189 rfl rfl rfl rfl ?_
          refine w_st (i' := 3) (ls' := [.ref 99, .int (nI 1)]) (st' := []) (E' := E) (I' := (u_I (u_I I 99 (upd (I 99) 3 (nI 0))) 99 (upd (upd (I 99) 3 (nI 0)) 3 (nI 1)))) (J' := J) (S' := S) am_e189 rfl rfl rfl rfl ?_
          refine w_eI (uI_0 ..) ?_
          show am_ww 189 3 [.ref 99, .int (nI 1)] [] E (u_I I 99 (upd (upd (I 99) 3 (nI 0)) 3 (nI 1))) J S _
          refine w_st (i' := 4) (ls' := [.ref 99, .int (nI 1)]) (st' := [.int (nI 0)]) (E' := E) (I' := (u_I I 99 (upd (upd (I 99) 3 (nI 0)) 3 (nI 1)))) (J' := J) (S' := S) am_e189 rfl rfl rfl rfl ?_
          refine w_end (E' := E) (I' := (u_I I 99 (upd (upd (I 99) 3 (nI 0)) 3 (nI 1)))) (J' := J) (S' := S) am_e189 rfl rfl rfl (q_mkI ?_)
          show am_ww 252 21 [.ref 99, .int p1, .int p2, am_U] [.int (nI 0)] E (u_I I 99 (upd (upd (I 99) 3 (nI 0)) 3 (nI 1))) J S _
          exact w_end am_e252 rfl rfl rfl h
        · replace h := h.2 (of_decide_eq_false c)
          refine w_st (i' := 7) (ls' := [.int p2, .int (nI 0), .int (nI 7)]) (st' := [.int (nI 1)]) (E' := E) (I' := (u_I I 99 (upd (I 99) 3 (nI 0)))) (J' := J) (S' := S) am_e232 rfl rfl rfl rfl ?_
          refine w_st (i' := 9) (ls' := [.int p2, .int (nI 0), .int (nI 7)]) (st' := [.int (nI 1)]) (E' := E) (I' := (u_I I 99 (upd (I 99) 3 (nI 0)))) (J' := J) (S' := S) am_e232 rfl rfl rfl rfl ?_
          refine w_end (E' := E) (I' := (u_I I 99 (upd (I 99) 3 (nI 0)))) (J' := J) (S' := S) am_e232 rfl rfl rfl (q_mkI ?_)
          show am_ww 252 17 [.ref 99, .int p1, .int p2, am_U] [.int (nI 1)] E (u_I I 99 (upd (I 99) 3 (nI 0))) J S _
          refine w_st (i' := 22) (ls' := [.ref 99, .int p1, .int p2, am_U]) (st' := []) (E' := E) (I' := (u_I I 99 (upd (I 99) 3 (nI 0)))) (J' := J) (S' := S) am_e252 rfl rfl rfl rfl ?_
          refine w_st (i' := 23) (ls' := [.ref 99, .int p1, .int p2, am_U]) (st' := [.int p2]) (E' := E) (I' := (u_I I 99 (upd (I 99) 3 (nI 0)))) (J' := J) (S' := S) am_e252 rfl rfl rfl rfl ?_
          refine w_st (i' := 24) (ls' := [.ref 99, .int p1, .int p2, am_U]) (st' := [.int (nI 6), .int p2]) (E' := E) (I' := (u_I I 99 (upd (I 99) 3 (nI 0)))) (J' := J) (S' := S) am_e252 rfl rfl rfl rfl ?_
          refine w_if2 am_e252 rfl rfl (fun c => ?_) (fun c => ?_)
          · replace h := h.1 (of_decide_eq_true c)
            refine w_st (i' := 34) (ls' := [.ref 99, .int p1, .int p2, am_U]) (st' := [.int p2]) (E' := E) (I' := (u_I I 99 (upd (I 99) 3 (nI 0)))) (J' := J) (S' := S) am_e252 rfl rfl rfl rfl ?_
            refine w_st (i' := 35) (ls' := [.ref 99, .int p1, .int p2, am_U]) (st' := [.int (nI 6), .int p2]) (E' := E) (I' := (u_I I 99 (upd (I 99) 3 (nI 0)))) (J' := J) (S' := S) am_e252 rfl rfl rfl rfl ?_
            refine w_if2 am_e252 rfl rfl (fun c => ?_) (fun c => ?_)
            · replace h := h.2 (of_decide_eq_true c)
              refine w_st (i' := 53) (ls' := [.ref 99, .int p1, .int p2, am_U]) (st' := [.ref 99]) (E' := E) (I' := (u_I I 99 (upd (I 99) 3 (nI 0)))) (J' := J) (S' := S) am_e252 rfl rfl rfl rfl ?_
              refine w_st (i' := 54) (ls' := [.ref 99, .int p1, .int p2, am_U]) (st' := [.ref 99, .ref 99]) (E' := E) (I' := (u_I I 99 (upd (I 99) 3 (nI 0)))) (J' := J) (S' := S) am_e252 rfl rfl rfl rfl ?_
              refine w_st (i' := 55) (ls' := [.ref 99, .int p1, .int p2, am_U]) (st' := [.int ((I 99) 13), .ref 99]) (E' := E) (I' := (u_I I 99 (upd (I 99) 3 (nI 0)))) (J' := J) (S' := S) am_e252 rfl rfl rfl rfl ?_
              refine w_st (i' := 56) (ls' := [.ref 99, .int p1, .int p2, am_U]) (st' := [.int (nI 44), .int ((I 99) 13), .ref 99]) (E' := E) (I' := (u_I I 99 (upd (I 99) 3 (nI 0)))) (J' := J) (S' := S) am_e252 rfl rfl rfl rfl ?_
              refine w_cI am_e252 rfl rfl (as := [.ref 99, .int ((I 99) 13), .int (nI 44)]) (rest := []) rfl rfl ?_
              show am_ww 245 0 [.ref 99, .int ((I 99) 13), .int (nI 44)] [] E (u_I I 99 (upd (I 99) 3 (nI 0))) J S _
              refine w_st (i' := 1) (ls' := [.ref 99, .int ((I 99) 13), .int (nI 44)]) (st' := [.ref 99]) (E' := E) (I' := (u_I I 99 (upd (I 99) 3 (nI 0)))) (J' := J) (S' := S) am_e245 rfl rfl rfl rfl ?_
              refine w_st (i' := 2) (ls' := [.ref 99, .int ((I 99) 13), .int (nI 44)]) (st' := [.ref 117]) (E' := E) (I' := (u_I I 99 (upd (I 99) 3 (nI 0)))) (J' := J) (S' := S) am_e245 rfl rfl rfl rfl ?_
              refine w_st (i' := 3) (ls' := [.ref 99, .int ((I 99) 13), .int (nI 44)]) (st' := [.int (nI 51), .ref 117]) (E' := E) (I' := (u_I I 99 (upd (I 99) 3 (nI 0)))) (J' := J) (S' := S) am_e245 rfl rfl rfl rfl ?_
              refine w_st (i' := 4) (ls' := [.ref 99, .int ((I 99) 13), .int (nI 44)]) (st' := [.int ((I 99) 13), .int (nI 51), .ref 117]) (E' := E) (I' := (u_I I 99 (upd (I 99) 3 (nI 0)))) (J' := J) (S' := S) am_e245 rfl rfl rfl rfl ?_
              refine w_st (i' := 5) (ls' := [.ref 99, .int ((I 99) 13), .int (nI 44)]) (st' := [.int ((nI 51) * ((I 99) 13)), .ref 117]) (E' := E) (I' := (u_I I 99 (upd (I 99) 3 (nI 0)))) (J' := J) (S' := S) am_e245 rfl rfl rfl rfl ?_
              refine w_st (i' := 6) (ls' := [.ref 99, .int ((I 99) 13), .int (nI 44)]) (st' := [.int (nI 44), .int ((nI 51) * ((I 99) 13)), .ref 117]) (E' := E) (I' := (u_I I 99 (upd (I 99) 3 (nI 0)))) (J' := J) (S' := S) am_e245 rfl rfl rfl rfl ?_
              refine w_st (i' := 7) (ls' := [.ref 99, .int ((I 99) 13), .int (nI 44)]) (st' := [.int (((nI 51) * ((I 99) 13)) + (nI 44)), .ref 117]) (E' := E) (I' := (u_I I 99 (upd (I 99) 3 (nI 0)))) (J' := J) (S' := S) am_e245 rfl rfl rfl rfl ?_
              have hf1 := h.1
              replace h := h.2
              refine w_ia (k := 117) (n := 20451) (jn := (((nI 51) * ((I 99) 13)) + (nI 44)).toNatClampNeg) am_e245 rfl rfl (by decide) hf1 rfl ?_
              show am_ww 245 8 [.ref 99, .int ((I 99) 13), .int (nI 44)] [.int ((I 117) ((((nI 51) * ((I 99) 13)) + (nI 44)).toNatClampNeg))] E (u_I I 99 (upd (I 99) 3 (nI 0))) J S _
              refine w_ri am_e245 rfl rfl (q_mkI ?_)
              show am_ww 252 57 [.ref 99, .int p1, .int p2, am_U] [.int ((I 117) ((((nI 51) * ((I 99) 13)) + (nI 44)).toNatClampNeg))] E (u_I I 99 (upd (I 99) 3 (nI 0))) J S _
              refine w_var (fun w2 => am_ww 252 57 [.ref 99, .int p1, .int p2, am_U] [.int w2] E (u_I I 99 (upd (I 99) 3 (nI 0))) J S _) ((I 117) ((((nI 51) * ((I 99) 13)) + (nI 44)).toNatClampNeg)) (fun w2 hw2 => ?_)
              replace h := h w2 hw2
              refine w_st (i' := 58) (ls' := [.ref 99, .int p1, .int p2, am_U]) (st' := [.int p1, .int w2]) (E' := E) (I' := (u_I I 99 (upd (I 99) 3 (nI 0)))) (J' := J) (S' := S) am_e252 rfl rfl rfl rfl ?_
              refine w_mg (i := 62) (ls' := [.ref 99, .int p1, .int p2, am_U]) (st' := [.int (if w2 = p1 then nI 1 else nI 0)]) (fun hm => ?_) ?_
              · clear h
                refine w_if2 am_e252 rfl rfl (fun c => ?_) (fun c => ?_)
                · have m3 : ¬ (w2 = p1) := (of_decide_eq_true c)
                  refine w_st (i' := 62) (ls' := [.ref 99, .int p1, .int p2, am_U]) (st' := [.int (nI 0)]) (E' := E) (I' := (u_I I 99 (upd (I 99) 3 (nI 0)))) (J' := J) (S' := S) am_e252 rfl rfl rfl rfl ?_
                  first | exact hm | (simp only [if_neg m3] at hm; exact hm)
                · have m3 : w2 = p1 := (Decidable.not_not.mp (of_decide_eq_false c))
                  refine w_st (i' := 60) (ls' := [.ref 99, .int p1, .int p2, am_U]) (st' := [.int (nI 1)]) (E' := E) (I' := (u_I I 99 (upd (I 99) 3 (nI 0)))) (J' := J) (S' := S) am_e252 rfl rfl rfl rfl ?_
                  refine w_st (i' := 62) (ls' := [.ref 99, .int p1, .int p2, am_U]) (st' := [.int (nI 1)]) (E' := E) (I' := (u_I I 99 (upd (I 99) 3 (nI 0)))) (J' := J) (S' := S) am_e252 rfl rfl rfl rfl ?_
                  first | exact hm | (simp only [if_pos m3] at hm; exact hm)
              refine w_var (fun w4 => am_ww 252 62 [.ref 99, .int p1, .int p2, am_U] [.int w4] E (u_I I 99 (upd (I 99) 3 (nI 0))) J S _) (if w2 = p1 then nI 1 else nI 0) (fun w4 hw4 => ?_)
              replace h := h w4 hw4
              refine w_st (i' := 63) (ls' := [.ref 99, .int p1, .int p2, .int w4]) (st' := []) (E' := E) (I' := (u_I I 99 (upd (I 99) 3 (nI 0)))) (J' := J) (S' := S) am_e252 rfl rfl rfl rfl ?_
              refine w_st (i' := 64) (ls' := [.ref 99, .int p1, .int p2, .int w4]) (st' := [.int w4]) (E' := E) (I' := (u_I I 99 (upd (I 99) 3 (nI 0)))) (J' := J) (S' := S) am_e252 rfl rfl rfl rfl ?_
              refine w_mg (i := 68) (ls' := [.ref 99, .int p1, .int p2, .int w4]) (st' := [.int (if w4 = 0 then nI 0 else nI 1)]) (fun hm => ?_) ?_
              · clear h
                refine w_if1 am_e252 rfl rfl (fun c => ?_) (fun c => ?_)
                · have m5 : w4 = 0 := (of_decide_eq_true c)
                  refine w_st (i' := 68) (ls' := [.ref 99, .int p1, .int p2, .int w4]) (st' := [.int (nI 0)]) (E' := E) (I' := (u_I I 99 (upd (I 99) 3 (nI 0)))) (J' := J) (S' := S) am_e252 rfl rfl rfl rfl ?_
                  first | exact hm | (simp only [if_pos m5] at hm; exact hm)
                · have m5 : ¬ (w4 = 0) := (of_decide_eq_false c)
                  refine w_st (i' := 66) (ls' := [.ref 99, .int p1, .int p2, .int w4]) (st' := [.int (nI 1)]) (E' := E) (I' := (u_I I 99 (upd (I 99) 3 (nI 0)))) (J' := J) (S' := S) am_e252 rfl rfl rfl rfl ?_
                  refine w_st (i' := 68) (ls' := [.ref 99, .int p1, .int p2, .int w4]) (st' := [.int (nI 1)]) (E' := E) (I' := (u_I I 99 (upd (I 99) 3 (nI 0)))) (J' := J) (S' := S) am_e252 rfl rfl rfl rfl ?_
                  first | exact hm | (simp only [if_neg m5] at hm; exact hm)
              refine w_var (fun w6 => am_ww 252 68 [.ref 99, .int p1, .int p2, .int w4] [.int w6] E (u_I I 99 (upd (I 99) 3 (nI 0))) J S _) (if w4 = 0 then nI 0 else nI 1) (fun w6 hw6 => ?_)
              replace h := h w6 hw6
              exact w_ri am_e252 rfl rfl h
            · replace h := h.1 (Decidable.not_not.mp (of_decide_eq_false c))
              refine w_st (i' := 37) (ls' := [.ref 99, .int p1, .int p2, am_U]) (st' := [.ref 99]) (E' := E) (I' := (u_I I 99 (upd (I 99) 3 (nI 0)))) (J' := J) (S' := S) am_e252 rfl rfl rfl rfl ?_
              refine w_st (i' := 38) (ls' := [.ref 99, .int p1, .int p2, am_U]) (st' := [.ref 99, .ref 99]) (E' := E) (I' := (u_I I 99 (upd (I 99) 3 (nI 0)))) (J' := J) (S' := S) am_e252 rfl rfl rfl rfl ?_
              refine w_st (i' := 39) (ls' := [.ref 99, .int p1, .int p2, am_U]) (st' := [.int ((I 99) 13), .ref 99]) (E' := E) (I' := (u_I I 99 (upd (I 99) 3 (nI 0)))) (J' := J) (S' := S) am_e252 rfl rfl rfl rfl ?_
              refine w_st (i' := 40) (ls' := [.ref 99, .int p1, .int p2, am_U]) (st' := [.int p1, .int ((I 99) 13), .ref 99]) (E' := E) (I' := (u_I I 99 (upd (I 99) 3 (nI 0)))) (J' := J) (S' := S) am_e252 rfl rfl rfl rfl ?_
              refine w_st (i' := 41) (ls' := [.ref 99, .int p1, .int p2, am_U]) (st' := [.int (nI 4), .int p1, .int ((I 99) 13), .ref 99]) (E' := E) (I' := (u_I I 99 (upd (I 99) 3 (nI 0)))) (J' := J) (S' := S) am_e252 rfl rfl rfl rfl ?_
              refine w_cI am_e252 rfl rfl (as := [.int p1, .int (nI 4)]) (rest := [.int ((I 99) 13), .ref 99]) rfl rfl ?_
              show am_ww 222 0 [.int p1, .int (nI 4)] [] E (u_I I 99 (upd (I 99) 3 (nI 0))) J S _
              refine w_st (i' := 1) (ls' := [.int p1, .int (nI 4)]) (st' := [.int (nI 16)]) (E' := E) (I' := (u_I I 99 (upd (I 99) 3 (nI 0)))) (J' := J) (S' := S) am_e222 rfl rfl rfl rfl ?_
              refine w_st (i' := 2) (ls' := [.int p1, .int (nI 4)]) (st' := [.int (nI 6), .int (nI 16)]) (E' := E) (I' := (u_I I 99 (upd (I 99) 3 (nI 0)))) (J' := J) (S' := S) am_e222 rfl rfl rfl rfl ?_
              refine w_st (i' := 3) (ls' := [.int p1, .int (nI 4)]) (st' := [.int p1, .int (nI 6), .int (nI 16)]) (E' := E) (I' := (u_I I 99 (upd (I 99) 3 (nI 0)))) (J' := J) (S' := S) am_e222 rfl rfl rfl rfl ?_
              refine w_st (i' := 4) (ls' := [.int p1, .int (nI 4)]) (st' := [.int ((nI 6) * p1), .int (nI 16)]) (E' := E) (I' := (u_I I 99 (upd (I 99) 3 (nI 0)))) (J' := J) (S' := S) am_e222 rfl rfl rfl rfl ?_
              refine w_st (i' := 5) (ls' := [.int p1, .int (nI 4)]) (st' := [.int ((nI 16) + ((nI 6) * p1))]) (E' := E) (I' := (u_I I 99 (upd (I 99) 3 (nI 0)))) (J' := J) (S' := S) am_e222 rfl rfl rfl rfl ?_
              refine w_st (i' := 6) (ls' := [.int p1, .int (nI 4)]) (st' := [.int (nI 4), .int ((nI 16) + ((nI 6) * p1))]) (E' := E) (I' := (u_I I 99 (upd (I 99) 3 (nI 0)))) (J' := J) (S' := S) am_e222 rfl rfl rfl rfl ?_
              refine w_st (i' := 7) (ls' := [.int p1, .int (nI 4)]) (st' := [.int (((nI 16) + ((nI 6) * p1)) + (nI 4))]) (E' := E) (I' := (u_I I 99 (upd (I 99) 3 (nI 0)))) (J' := J) (S' := S) am_e222 rfl rfl rfl rfl ?_
              refine w_ri am_e222 rfl rfl (q_mkI ?_)
              show am_ww 252 42 [.ref 99, .int p1, .int p2, am_U] [.int (((nI 16) + ((nI 6) * p1)) + (nI 4)), .int ((I 99) 13), .ref 99] E (u_I I 99 (upd (I 99) 3 (nI 0))) J S _
              refine w_var (fun w7 => am_ww 252 42 [.ref 99, .int p1, .int p2, am_U] [.int w7, .int ((I 99) 13), .ref 99] E (u_I I 99 (upd (I 99) 3 (nI 0))) J S _) (((nI 16) + ((nI 6) * p1)) + (nI 4)) (fun w7 hw7 => ?_)
              replace h := h w7 hw7
              refine w_cI am_e252 rfl rfl (as := [.ref 99, .int ((I 99) 13), .int w7]) (rest := []) rfl rfl ?_
              show am_ww 245 0 [.ref 99, .int ((I 99) 13), .int w7] [] E (u_I I 99 (upd (I 99) 3 (nI 0))) J S _
              refine w_st (i' := 1) (ls' := [.ref 99, .int ((I 99) 13), .int w7]) (st' := [.ref 99]) (E' := E) (I' := (u_I I 99 (upd (I 99) 3 (nI 0)))) (J' := J) (S' := S) am_e245 rfl rfl rfl rfl ?_
              refine w_st (i' := 2) (ls' := [.ref 99, .int ((I 99) 13), .int w7]) (st' := [.ref 117]) (E' := E) (I' := (u_I I 99 (upd (I 99) 3 (nI 0)))) (J' := J) (S' := S) am_e245 rfl rfl rfl rfl ?_
              refine w_st (i' := 3) (ls' := [.ref 99, .int ((I 99) 13), .int w7]) (st' := [.int (nI 51), .ref 117]) (E' := E) (I' := (u_I I 99 (upd (I 99) 3 (nI 0)))) (J' := J) (S' := S) am_e245 rfl rfl rfl rfl ?_
              refine w_st (i' := 4) (ls' := [.ref 99, .int ((I 99) 13), .int w7]) (st' := [.int ((I 99) 13), .int (nI 51), .ref 117]) (E' := E) (I' := (u_I I 99 (upd (I 99) 3 (nI 0)))) (J' := J) (S' := S) am_e245 rfl rfl rfl rfl ?_
              refine w_st (i' := 5) (ls' := [.ref 99, .int ((I 99) 13), .int w7]) (st' := [.int ((nI 51) * ((I 99) 13)), .ref 117]) (E' := E) (I' := (u_I I 99 (upd (I 99) 3 (nI 0)))) (J' := J) (S' := S) am_e245 rfl rfl rfl rfl ?_
              refine w_st (i' := 6) (ls' := [.ref 99, .int ((I 99) 13), .int w7]) (st' := [.int w7, .int ((nI 51) * ((I 99) 13)), .ref 117]) (E' := E) (I' := (u_I I 99 (upd (I 99) 3 (nI 0)))) (J' := J) (S' := S) am_e245 rfl rfl rfl rfl ?_
              refine w_st (i' := 7) (ls' := [.ref 99, .int ((I 99) 13), .int w7]) (st' := [.int (((nI 51) * ((I 99) 13)) + w7), .ref 117]) (E' := E) (I' := (u_I I 99 (upd (I 99) 3 (nI 0)))) (J' := J) (S' := S) am_e245 rfl rfl rfl rfl ?_
              have hf8 := h.1
              replace h := h.2
              refine w_ia (k := 117) (n := 20451) (jn := (((nI 51) * ((I 99) 13)) + w7).toNatClampNeg) am_e245 rfl rfl (by decide) hf8 rfl ?_
              show am_ww 245 8 [.ref 99, .int ((I 99) 13), .int w7] [.int ((I 117) ((((nI 51) * ((I 99) 13)) + w7).toNatClampNeg))] E (u_I I 99 (upd (I 99) 3 (nI 0))) J S _
              refine w_ri am_e245 rfl rfl (q_mkI ?_)
              show am_ww 252 43 [.ref 99, .int p1, .int p2, am_U] [.int ((I 117) ((((nI 51) * ((I 99) 13)) + w7).toNatClampNeg))] E (u_I I 99 (upd (I 99) 3 (nI 0))) J S _
              refine w_var (fun w9 => am_ww 252 43 [.ref 99, .int p1, .int p2, am_U] [.int w9] E (u_I I 99 (upd (I 99) 3 (nI 0))) J S _) ((I 117) ((((nI 51) * ((I 99) 13)) + w7).toNatClampNeg)) (fun w9 hw9 => ?_)
              replace h := h w9 hw9
              refine w_st (i' := 44) (ls' := [.ref 99, .int p1, .int p2, am_U]) (st' := [.ref 99, .int w9]) (E' := E) (I' := (u_I I 99 (upd (I 99) 3 (nI 0)))) (J' := J) (S' := S) am_e252 rfl rfl rfl rfl ?_
              refine w_st (i' := 45) (ls' := [.ref 99, .int p1, .int p2, am_U]) (st' := [.ref 105, .int w9]) (E' := E) (I' := (u_I I 99 (upd (I 99) 3 (nI 0)))) (J' := J) (S' := S) am_e252 rfl rfl rfl rfl ?_
              refine w_st (i' := 46) (ls' := [.ref 99, .int p1, .int p2, am_U]) (st' := [.int p1, .ref 105, .int w9]) (E' := E) (I' := (u_I I 99 (upd (I 99) 3 (nI 0)))) (J' := J) (S' := S) am_e252 rfl rfl rfl rfl ?_
              have hf10 := h.1
              replace h := h.2
              refine w_ia (k := 105) (n := 8) (jn := p1.toNatClampNeg) am_e252 rfl rfl (by decide) hf10 rfl ?_
              show am_ww 252 47 [.ref 99, .int p1, .int p2, am_U] [.int ((I 105) p1.toNatClampNeg), .int w9] E (u_I I 99 (upd (I 99) 3 (nI 0))) J S _
              refine w_mg (i := 62) (ls' := [.ref 99, .int p1, .int p2, am_U]) (st' := [.int (if w9 < ((I 105) p1.toNatClampNeg) then nI 0 else nI 1)]) (fun hm => ?_) ?_
              · clear h
                refine w_if2 am_e252 rfl rfl (fun c => ?_) (fun c => ?_)
                · have m11 : w9 < ((I 105) p1.toNatClampNeg) := (of_decide_eq_true c)
                  refine w_st (i' := 51) (ls' := [.ref 99, .int p1, .int p2, am_U]) (st' := [.int (nI 0)]) (E' := E) (I' := (u_I I 99 (upd (I 99) 3 (nI 0)))) (J' := J) (S' := S) am_e252 rfl rfl rfl rfl ?_
                  refine w_st (i' := 62) (ls' := [.ref 99, .int p1, .int p2, am_U]) (st' := [.int (nI 0)]) (E' := E) (I' := (u_I I 99 (upd (I 99) 3 (nI 0)))) (J' := J) (S' := S) am_e252 rfl rfl rfl rfl ?_
                  first | exact hm | (simp only [if_pos m11] at hm; exact hm)
                · have m11 : ¬ (w9 < ((I 105) p1.toNatClampNeg)) := (of_decide_eq_false c)
                  refine w_st (i' := 49) (ls' := [.ref 99, .int p1, .int p2, am_U]) (st' := [.int (nI 1)]) (E' := E) (I' := (u_I I 99 (upd (I 99) 3 (nI 0)))) (J' := J) (S' := S) am_e252 rfl rfl rfl rfl ?_
                  refine w_st (i' := 62) (ls' := [.ref 99, .int p1, .int p2, am_U]) (st' := [.int (nI 1)]) (E' := E) (I' := (u_I I 99 (upd (I 99) 3 (nI 0)))) (J' := J) (S' := S) am_e252 rfl rfl rfl rfl ?_
                  first | exact hm | (simp only [if_neg m11] at hm; exact hm)
              refine w_var (fun w12 => am_ww 252 62 [.ref 99, .int p1, .int p2, am_U] [.int w12] E (u_I I 99 (upd (I 99) 3 (nI 0))) J S _) (if w9 < ((I 105) p1.toNatClampNeg) then nI 0 else nI 1) (fun w12 hw12 => ?_)
              replace h := h w12 hw12
              refine w_st (i' := 63) (ls' := [.ref 99, .int p1, .int p2, .int w12]) (st' := []) (E' := E) (I' := (u_I I 99 (upd (I 99) 3 (nI 0)))) (J' := J) (S' := S) am_e252 rfl rfl rfl rfl ?_
              refine w_st (i' := 64) (ls' := [.ref 99, .int p1, .int p2, .int w12]) (st' := [.int w12]) (E' := E) (I' := (u_I I 99 (upd (I 99) 3 (nI 0)))) (J' := J) (S' := S) am_e252 rfl rfl rfl rfl ?_
              refine w_mg (i := 68) (ls' := [.ref 99, .int p1, .int p2, .int w12]) (st' := [.int (if w12 = 0 then nI 0 else nI 1)]) (fun hm => ?_) ?_
              · clear h
                refine w_if1 am_e252 rfl rfl (fun c => ?_) (fun c => ?_)
                · have m13 : w12 = 0 := (of_decide_eq_true c)
                  refine w_st (i' := 68) (ls' := [.ref 99, .int p1, .int p2, .int w12]) (st' := [.int (nI 0)]) (E' := E) (I' := (u_I I 99 (upd (I 99) 3 (nI 0)))) (J' := J) (S' := S) am_e252 rfl rfl rfl rfl ?_
                  first | exact hm | (simp only [if_pos m13] at hm; exact hm)
                · have m13 : ¬ (w12 = 0) := (of_decide_eq_false c)
                  refine w_st (i' := 66) (ls' := [.ref 99, .int p1, .int p2, .int w12]) (st' := [.int (nI 1)]) (E' := E) (I' := (u_I I 99 (upd (I 99) 3 (nI 0)))) (J' := J) (S' := S) am_e252 rfl rfl rfl rfl ?_
                  refine w_st (i' := 68) (ls' := [.ref 99, .int p1, .int p2, .int w12]) (st' := [.int (nI 1)]) (E' := E) (I' := (u_I I 99 (upd (I 99) 3 (nI 0)))) (J' := J) (S' := S) am_e252 rfl rfl rfl rfl ?_
                  first | exact hm | (simp only [if_neg m13] at hm; exact hm)
              refine w_var (fun w14 => am_ww 252 68 [.ref 99, .int p1, .int p2, .int w12] [.int w14] E (u_I I 99 (upd (I 99) 3 (nI 0))) J S _) (if w12 = 0 then nI 0 else nI 1) (fun w14 hw14 => ?_)
              replace h := h w14 hw14
              exact w_ri am_e252 rfl rfl h
          · replace h := h.2 (of_decide_eq_false c)
            refine w_st (i' := 26) (ls' := [.ref 99, .int p1, .int p2, am_U]) (st' := [.ref 99]) (E' := E) (I' := (u_I I 99 (upd (I 99) 3 (nI 0)))) (J' := J) (S' := S) am_e252 rfl rfl rfl rfl ?_
            refine w_st (i' := 27) (ls' := [.ref 99, .int p1, .int p2, am_U]) (st' := [.ref 99, .ref 99]) (E' := E) (I' := (u_I I 99 (upd (I 99) 3 (nI 0)))) (J' := J) (S' := S) am_e252 rfl rfl rfl rfl ?_
            refine w_st (i' := 28) (ls' := [.ref 99, .int p1, .int p2, am_U]) (st' := [.int ((I 99) 13), .ref 99]) (E' := E) (I' := (u_I I 99 (upd (I 99) 3 (nI 0)))) (J' := J) (S' := S) am_e252 rfl rfl rfl rfl ?_
            refine w_st (i' := 29) (ls' := [.ref 99, .int p1, .int p2, am_U]) (st' := [.int p1, .int ((I 99) 13), .ref 99]) (E' := E) (I' := (u_I I 99 (upd (I 99) 3 (nI 0)))) (J' := J) (S' := S) am_e252 rfl rfl rfl rfl ?_
            refine w_st (i' := 30) (ls' := [.ref 99, .int p1, .int p2, am_U]) (st' := [.int p2, .int p1, .int ((I 99) 13), .ref 99]) (E' := E) (I' := (u_I I 99 (upd (I 99) 3 (nI 0)))) (J' := J) (S' := S) am_e252 rfl rfl rfl rfl ?_
            refine w_cI am_e252 rfl rfl (as := [.int p1, .int p2]) (rest := [.int ((I 99) 13), .ref 99]) rfl rfl ?_
            show am_ww 222 0 [.int p1, .int p2] [] E (u_I I 99 (upd (I 99) 3 (nI 0))) J S _
            refine w_st (i' := 1) (ls' := [.int p1, .int p2]) (st' := [.int (nI 16)]) (E' := E) (I' := (u_I I 99 (upd (I 99) 3 (nI 0)))) (J' := J) (S' := S) am_e222 rfl rfl rfl rfl ?_
            refine w_st (i' := 2) (ls' := [.int p1, .int p2]) (st' := [.int (nI 6), .int (nI 16)]) (E' := E) (I' := (u_I I 99 (upd (I 99) 3 (nI 0)))) (J' := J) (S' := S) am_e222 rfl rfl rfl rfl ?_
            refine w_st (i' := 3) (ls' := [.int p1, .int p2]) (st' := [.int p1, .int (nI 6), .int (nI 16)]) (E' := E) (I' := (u_I I 99 (upd (I 99) 3 (nI 0)))) (J' := J) (S' := S) am_e222 rfl rfl rfl rfl ?_
            refine w_st (i' := 4) (ls' := [.int p1, .int p2]) (st' := [.int ((nI 6) * p1), .int (nI 16)]) (E' := E) (I' := (u_I I 99 (upd (I 99) 3 (nI 0)))) (J' := J) (S' := S) am_e222 rfl rfl rfl rfl ?_
            refine w_st (i' := 5) (ls' := [.int p1, .int p2]) (st' := [.int ((nI 16) + ((nI 6) * p1))]) (E' := E) (I' := (u_I I 99 (upd (I 99) 3 (nI 0)))) (J' := J) (S' := S) am_e222 rfl rfl rfl rfl ?_
            refine w_st (i' := 6) (ls' := [.int p1, .int p2]) (st' := [.int p2, .int ((nI 16) + ((nI 6) * p1))]) (E' := E) (I' := (u_I I 99 (upd (I 99) 3 (nI 0)))) (J' := J) (S' := S) am_e222 rfl rfl rfl rfl ?_
            refine w_st (i' := 7) (ls' := [.int p1, .int p2]) (st' := [.int (((nI 16) + ((nI 6) * p1)) + p2)]) (E' := E) (I' := (u_I I 99 (upd (I 99) 3 (nI 0)))) (J' := J) (S' := S) am_e222 rfl rfl rfl rfl ?_
            refine w_ri am_e222 rfl rfl (q_mkI ?_)
            show am_ww 252 31 [.ref 99, .int p1, .int p2, am_U] [.int (((nI 16) + ((nI 6) * p1)) + p2), .int ((I 99) 13), .ref 99] E (u_I I 99 (upd (I 99) 3 (nI 0))) J S _
            refine w_var (fun w15 => am_ww 252 31 [.ref 99, .int p1, .int p2, am_U] [.int w15, .int ((I 99) 13), .ref 99] E (u_I I 99 (upd (I 99) 3 (nI 0))) J S _) (((nI 16) + ((nI 6) * p1)) + p2) (fun w15 hw15 => ?_)
            replace h := h w15 hw15
            refine w_cI am_e252 rfl rfl (as := [.ref 99, .int ((I 99) 13), .int w15]) (rest := []) rfl rfl ?_
            show am_ww 245 0 [.ref 99, .int ((I 99) 13), .int w15] [] E (u_I I 99 (upd (I 99) 3 (nI 0))) J S _
            refine w_st (i' := 1) (ls' := [.ref 99, .int ((I 99) 13), .int w15]) (st' := [.ref 99]) (E' := E) (I' := (u_I I 99 (upd (I 99) 3 (nI 0)))) (J' := J) (S' := S) am_e245 rfl rfl rfl rfl ?_
            refine w_st (i' := 2) (ls' := [.ref 99, .int ((I 99) 13), .int w15]) (st' := [.ref 117]) (E' := E) (I' := (u_I I 99 (upd (I 99) 3 (nI 0)))) (J' := J) (S' := S) am_e245 rfl rfl rfl rfl ?_
            refine w_st (i' := 3) (ls' := [.ref 99, .int ((I 99) 13), .int w15]) (st' := [.int (nI 51), .ref 117]) (E' := E) (I' := (u_I I 99 (upd (I 99) 3 (nI 0)))) (J' := J) (S' := S) am_e245 rfl rfl rfl rfl ?_
            refine w_st (i' := 4) (ls' := [.ref 99, .int ((I 99) 13), .int w15]) (st' := [.int ((I 99) 13), .int (nI 51), .ref 117]) (E' := E) (I' := (u_I I 99 (upd (I 99) 3 (nI 0)))) (J' := J) (S' := S) am_e245 rfl rfl rfl rfl ?_
            refine w_st (i' := 5) (ls' := [.ref 99, .int ((I 99) 13), .int w15]) (st' := [.int ((nI 51) * ((I 99) 13)), .ref 117]) (E' := E) (I' := (u_I I 99 (upd (I 99) 3 (nI 0)))) (J' := J) (S' := S) am_e245 rfl rfl rfl rfl ?_
            refine w_st (i' := 6) (ls' := [.ref 99, .int ((I 99) 13), .int w15]) (st' := [.int w15, .int ((nI 51) * ((I 99) 13)), .ref 117]) (E' := E) (I' := (u_I I 99 (upd (I 99) 3 (nI 0)))) (J' := J) (S' := S) am_e245 rfl rfl rfl rfl ?_
            refine w_st (i' := 7) (ls' := [.ref 99, .int ((I 99) 13), .int w15]) (st' := [.int (((nI 51) * ((I 99) 13)) + w15), .ref 117]) (E' := E) (I' := (u_I I 99 (upd (I 99) 3 (nI 0)))) (J' := J) (S' := S) am_e245 rfl rfl rfl rfl ?_
            have hf16 := h.1
            replace h := h.2
            refine w_ia (k := 117) (n := 20451) (jn := (((nI 51) * ((I 99) 13)) + w15).toNatClampNeg) am_e245 rfl rfl (by decide) hf16 rfl ?_
            show am_ww 245 8 [.ref 99, .int ((I 99) 13), .int w15] [.int ((I 117) ((((nI 51) * ((I 99) 13)) + w15).toNatClampNeg))] E (u_I I 99 (upd (I 99) 3 (nI 0))) J S _
            refine w_ri am_e245 rfl rfl (q_mkI ?_)
            show am_ww 252 32 [.ref 99, .int p1, .int p2, am_U] [.int ((I 117) ((((nI 51) * ((I 99) 13)) + w15).toNatClampNeg))] E (u_I I 99 (upd (I 99) 3 (nI 0))) J S _
            refine w_var (fun w17 => am_ww 252 32 [.ref 99, .int p1, .int p2, am_U] [.int w17] E (u_I I 99 (upd (I 99) 3 (nI 0))) J S _) ((I 117) ((((nI 51) * ((I 99) 13)) + w15).toNatClampNeg)) (fun w17 hw17 => ?_)
            replace h := h w17 hw17
            exact w_ri am_e252 rfl rfl h
-- 253 lock
theorem g253_0 {p1 : Int32} {E : am_Ev} {I : Nat → Nat → Int32} {J : Nat → Nat → Int64} {S : Nat → Nat → Option Nat} {Q : am_Qt}  (h : (p1 < (nI 0) → (Q (.inl (some (.int (nI 0)))) E (u_I I 99 (upd (upd (I 99) 3 (nI 0)) 3 (nI 1))) J S)) ∧ (¬ p1 < (nI 0) → (((nI 3) < p1 → (Q (.inl (some (.int (nI 0)))) E (u_I I 99 (upd (upd (I 99) 3 (nI 0)) 3 (nI 1))) J S)) ∧ (¬ (nI 3) < p1 → (vp_in (((nI 51) * ((I 99) 13)) + ((nI 40) + p1)) 20451 ∧ (∀ w2 : Int32, w2 = ((I 117) ((((nI 51) * ((I 99) 13)) + ((nI 40) + p1)).toNatClampNeg)) → (Q (.inl (some (.int w2))) E (u_I I 99 (upd (I 99) 3 (nI 0))) J S))))))) : am_ww 253 0 [.ref 99, .int p1] [] E I J S Q := by
  refine w_st (i' := 1) (ls' := [.ref 99, .int p1]) (st' := [.ref 99]) (E' := E) (I' := I) (J' := J) (S' := S) am_e253 rfl rfl rfl rfl ?_
  refine w_st (i' := 2) (ls' := [.ref 99, .int p1]) (st' := [.int (nI 0), .ref 99]) (E' := E) (I' := I) (J' := J) (S' := S) am_e253 rfl rfl rfl rfl ?_
  refine w_st (i' := 3) (ls' := [.ref 99, .int p1]) (st' := []) (E' := E) (I' := (u_I I 99 (upd (I 99) 3 (nI 0)))) (J' := J) (S' := S) am_e253 rfl rfl rfl rfl ?_
  refine w_st (i' := 4) (ls' := [.ref 99, .int p1]) (st' := [.int p1]) (E' := E) (I' := (u_I I 99 (upd (I 99) 3 (nI 0)))) (J' := J) (S' := S) am_e253 rfl rfl rfl rfl ?_
  refine w_st (i' := 5) (ls' := [.ref 99, .int p1]) (st' := [.int (nI 0), .int p1]) (E' := E) (I' := (u_I I 99 (upd (I 99) 3 (nI 0)))) (J' := J) (S' := S) am_e253 rfl rfl rfl rfl ?_
  refine w_st (i' := 6) (ls' := [.ref 99, .int p1]) (st' := [.int (nI 3), .int (nI 0), .int p1]) (E' := E) (I' := (u_I I 99 (upd (I 99) 3 (nI 0)))) (J' := J) (S' := S) am_e253 rfl rfl rfl rfl ?_
  refine w_cI am_e253 rfl rfl (as := [.int p1, .int (nI 0), .int (nI 3)]) (rest := []) rfl rfl ?_
  show am_ww 232 0 [.int p1, .int (nI 0), .int (nI 3)] [] E (u_I I 99 (upd (I 99) 3 (nI 0))) J S _
  refine w_st (i' := 1) (ls' := [.int p1, .int (nI 0), .int (nI 3)]) (st' := [.int p1]) (E' := E) (I' := (u_I I 99 (upd (I 99) 3 (nI 0)))) (J' := J) (S' := S) am_e232 rfl rfl rfl rfl ?_
  refine w_st (i' := 2) (ls' := [.int p1, .int (nI 0), .int (nI 3)]) (st' := [.int (nI 0), .int p1]) (E' := E) (I' := (u_I I 99 (upd (I 99) 3 (nI 0)))) (J' := J) (S' := S) am_e232 rfl rfl rfl rfl ?_
  refine w_if2 am_e232 rfl rfl (fun c => ?_) (fun c => ?_)
  · replace h := h.1 (of_decide_eq_true c)
    refine w_st (i' := 9) (ls' := [.int p1, .int (nI 0), .int (nI 3)]) (st' := [.int (nI 0)]) (E' := E) (I' := (u_I I 99 (upd (I 99) 3 (nI 0)))) (J' := J) (S' := S) am_e232 rfl rfl rfl rfl ?_
    refine w_end (E' := E) (I' := (u_I I 99 (upd (I 99) 3 (nI 0)))) (J' := J) (S' := S) am_e232 rfl rfl rfl (q_mkI ?_)
    show am_ww 253 7 [.ref 99, .int p1] [.int (nI 0)] E (u_I I 99 (upd (I 99) 3 (nI 0))) J S _
    refine w_st (i' := 16) (ls' := [.ref 99, .int p1]) (st' := []) (E' := E) (I' := (u_I I 99 (upd (I 99) 3 (nI 0)))) (J' := J) (S' := S) am_e253 rfl rfl rfl rfl ?_
    refine w_st (i' := 17) (ls' := [.ref 99, .int p1]) (st' := [.ref 99]) (E' := E) (I' := (u_I I 99 (upd (I 99) 3 (nI 0)))) (J' := J) (S' := S) am_e253 rfl rfl rfl rfl ?_
    refine w_st (i' := 18) (ls' := [.ref 99, .int p1]) (st' := [.int (nI 1), .ref 99]) (E' := E) (I' := (u_I I 99 (upd (I 99) 3 (nI 0)))) (J' := J) (S' := S) am_e253 rfl rfl rfl rfl ?_
    refine w_cI am_e253 rfl rfl (as := [.ref 99, .int (nI 1)]) (rest := []) rfl rfl ?_
    show am_ww 189 0 [.ref 99, .int (nI 1)] [] E (u_I I 99 (upd (I 99) 3 (nI 0))) J S _
    refine w_st (i' := 1) (ls' := [.ref 99, .int (nI 1)]) (st' := [.ref 99]) (E' := E) (I' := (u_I I 99 (upd (I 99) 3 (nI 0)))) (J' := J) (S' := S) am_e189 rfl rfl rfl rfl ?_
    refine w_st (i' := 2) (ls' := [.ref 99, .int (nI 1)]) (st' := [.int (nI 1), .ref 99]) (E' := E) (I' := (u_I I 99 (upd (I 99) 3 (nI 0)))) (J' := J) (S' := S) am_e189 rfl rfl rfl rfl ?_
    refine w_st (i' := 3) (ls' := [.ref 99, .int (nI 1)]) (st' := []) (E' := E) (I' := (u_I (u_I I 99 (upd (I 99) 3 (nI 0))) 99 (upd (upd (I 99) 3 (nI 0)) 3 (nI 1)))) (J' := J) (S' := S) am_e189 rfl rfl rfl rfl ?_
    refine w_eI (uI_0 ..) ?_
    show am_ww 189 3 [.ref 99, .int (nI 1)] [] E (u_I I 99 (upd (upd (I 99) 3 (nI 0)) 3 (nI 1))) J S _
    refine w_st (i' := 4) (ls' := [.ref 99, .int (nI 1)]) (st' := [.int (nI 0)]) (E' := E) (I' := (u_I I 99 (upd (upd (I 99) 3 (nI 0)) 3 (nI 1)))) (J' := J) (S' := S) am_e189 rfl rfl rfl rfl ?_
    refine w_end (E' := E) (I' := (u_I I 99 (upd (upd (I 99) 3 (nI 0)) 3 (nI 1)))) (J' := J) (S' := S) am_e189 rfl rfl rfl (q_mkI ?_)
    show am_ww 253 19 [.ref 99, .int p1] [.int (nI 0)] E (u_I I 99 (upd (upd (I 99) 3 (nI 0)) 3 (nI 1))) J S _
    exact w_end am_e253 rfl rfl rfl h
  · replace h := h.2 (of_decide_eq_false c)
    refine w_st (i' := 4) (ls' := [.int p1, .int (nI 0), .int (nI 3)]) (st' := [.int p1]) (E' := E) (I' := (u_I I 99 (upd (I 99) 3 (nI 0)))) (J' := J) (S' := S) am_e232 rfl rfl rfl rfl ?_
    refine w_st (i' := 5) (ls' := [.int p1, .int (nI 0), .int (nI 3)]) (st' := [.int (nI 3), .int p1]) (E' := E) (I' := (u_I I 99 (upd (I 99) 3 (nI 0)))) (J' := J) (S' := S) am_e232 rfl rfl rfl rfl ?_
    refine w_if2 am_e232 rfl rfl (fun c => ?_) (fun c => ?_)
    · replace h := h.1 (of_decide_eq_true c)
      refine w_st (i' := 9) (ls' := [.int p1, .int (nI 0), .int (nI 3)]) (st' := [.int (nI 0)]) (E' := E) (I' := (u_I I 99 (upd (I 99) 3 (nI 0)))) (J' := J) (S' := S) am_e232 rfl rfl rfl rfl ?_
      refine w_end (E' := E) (I' := (u_I I 99 (upd (I 99) 3 (nI 0)))) (J' := J) (S' := S) am_e232 rfl rfl rfl (q_mkI ?_)
      show am_ww 253 7 [.ref 99, .int p1] [.int (nI 0)] E (u_I I 99 (upd (I 99) 3 (nI 0))) J S _
      refine w_st (i' := 16) (ls' := [.ref 99, .int p1]) (st' := []) (E' := E) (I' := (u_I I 99 (upd (I 99) 3 (nI 0)))) (J' := J) (S' := S) am_e253 rfl rfl rfl rfl ?_
      refine w_st (i' := 17) (ls' := [.ref 99, .int p1]) (st' := [.ref 99]) (E' := E) (I' := (u_I I 99 (upd (I 99) 3 (nI 0)))) (J' := J) (S' := S) am_e253 rfl rfl rfl rfl ?_
      refine w_st (i' := 18) (ls' := [.ref 99, .int p1]) (st' := [.int (nI 1), .ref 99]) (E' := E) (I' := (u_I I 99 (upd (I 99) 3 (nI 0)))) (J' := J) (S' := S) am_e253 rfl rfl rfl rfl ?_
      refine w_cI am_e253 rfl rfl (as := [.ref 99, .int (nI 1)]) (rest := []) rfl rfl ?_
      show am_ww 189 0 [.ref 99, .int (nI 1)] [] E (u_I I 99 (upd (I 99) 3 (nI 0))) J S _
      refine w_st (i' := 1) (ls' := [.ref 99, .int (nI 1)]) (st' := [.ref 99]) (E' := E) (I' := (u_I I 99 (upd (I 99) 3 (nI 0)))) (J' := J) (S' := S) am_e189 rfl rfl rfl rfl ?_
      refine w_st (i' := 2) (ls' := [.ref 99, .int (nI 1)]) (st' := [.int (nI 1), .ref 99]) (E' := E) (I' := (u_I I 99 (upd (I 99) 3 (nI 0)))) (J' := J) (S' := S) am_e189 rfl rfl rfl rfl ?_
      refine w_st (i' := 3) (ls' := [.ref 99, .int (nI 1)]) (st' := []) (E' := E) (I' := (u_I (u_I I 99 (upd (I 99) 3 (nI 0))) 99 (upd (upd (I 99) 3 (nI 0)) 3 (nI 1)))) (J' := J) (S' := S) am_e189 rfl rfl rfl rfl ?_
      refine w_eI (uI_0 ..) ?_
      show am_ww 189 3 [.ref 99, .int (nI 1)] [] E (u_I I 99 (upd (upd (I 99) 3 (nI 0)) 3 (nI 1))) J S _
      refine w_st (i' := 4) (ls' := [.ref 99, .int (nI 1)]) (st' := [.int (nI 0)]) (E' := E) (I' := (u_I I 99 (upd (upd (I 99) 3 (nI 0)) 3 (nI 1)))) (J' := J) (S' := S) am_e189 rfl rfl rfl rfl ?_
      refine w_end (E' := E) (I' := (u_I I 99 (upd (upd (I 99) 3 (nI 0)) 3 (nI 1)))) (J' := J) (S' := S) am_e189 rfl rfl rfl (q_mkI ?_)
      show am_ww 253 19 [.ref 99, .int p1] [.int (nI 0)] E (u_I I 99 (upd (upd (I 99) 3 (nI 0)) 3 (nI 1))) J S _
      exact w_end am_e253 rfl rfl rfl h
    · replace h := h.2 (of_decide_eq_false c)
      refine w_st (i' := 7) (ls' := [.int p1, .int (nI 0), .int (nI 3)]) (st' := [.int (nI 1)]) (E' := E) (I' := (u_I I 99 (upd (I 99) 3 (nI 0)))) (J' := J) (S' := S) am_e232 rfl rfl rfl rfl ?_
      refine w_st (i' := 9) (ls' := [.int p1, .int (nI 0), .int (nI 3)]) (st' := [.int (nI 1)]) (E' := E) (I' := (u_I I 99 (upd (I 99) 3 (nI 0)))) (J' := J) (S' := S) am_e232 rfl rfl rfl rfl ?_
      refine w_end (E' := E) (I' := (u_I I 99 (upd (I 99) 3 (nI 0)))) (J' := J) (S' := S) am_e232 rfl rfl rfl (q_mkI ?_)
      show am_ww 253 7 [.ref 99, .int p1] [.int (nI 1)] E (u_I I 99 (upd (I 99) 3 (nI 0))) J S _
      refine w_st (i' := 8) (ls' := [.ref 99, .int p1]) (st' := []) (E' := E) (I' := (u_I I 99 (upd (I 99) 3 (nI 0)))) (J' := J) (S' := S) am_e253 rfl rfl rfl rfl ?_
      refine w_st (i' := 9) (ls' := [.ref 99, .int p1]) (st' := [.ref 99]) (E' := E) (I' := (u_I I 99 (upd (I 99) 3 (nI 0)))) (J' := J) (S' := S) am_e253 rfl rfl rfl rfl ?_
      refine w_st (i' := 10) (ls' := [.ref 99, .int p1]) (st' := [.ref 99, .ref 99]) (E' := E) (I' := (u_I I 99 (upd (I 99) 3 (nI 0)))) (J' := J) (S' := S) am_e253 rfl rfl rfl rfl ?_
      refine w_st (i' := 11) (ls' := [.ref 99, .int p1]) (st' := [.int ((I 99) 13), .ref 99]) (E' := E) (I' := (u_I I 99 (upd (I 99) 3 (nI 0)))) (J' := J) (S' := S) am_e253 rfl rfl rfl rfl ?_
      refine w_st (i' := 12) (ls' := [.ref 99, .int p1]) (st' := [.int (nI 40), .int ((I 99) 13), .ref 99]) (E' := E) (I' := (u_I I 99 (upd (I 99) 3 (nI 0)))) (J' := J) (S' := S) am_e253 rfl rfl rfl rfl ?_
      refine w_st (i' := 13) (ls' := [.ref 99, .int p1]) (st' := [.int p1, .int (nI 40), .int ((I 99) 13), .ref 99]) (E' := E) (I' := (u_I I 99 (upd (I 99) 3 (nI 0)))) (J' := J) (S' := S) am_e253 rfl rfl rfl rfl ?_
      refine w_st (i' := 14) (ls' := [.ref 99, .int p1]) (st' := [.int ((nI 40) + p1), .int ((I 99) 13), .ref 99]) (E' := E) (I' := (u_I I 99 (upd (I 99) 3 (nI 0)))) (J' := J) (S' := S) am_e253 rfl rfl rfl rfl ?_
      refine w_cI am_e253 rfl rfl (as := [.ref 99, .int ((I 99) 13), .int ((nI 40) + p1)]) (rest := []) rfl rfl ?_
      show am_ww 245 0 [.ref 99, .int ((I 99) 13), .int ((nI 40) + p1)] [] E (u_I I 99 (upd (I 99) 3 (nI 0))) J S _
      refine w_st (i' := 1) (ls' := [.ref 99, .int ((I 99) 13), .int ((nI 40) + p1)]) (st' := [.ref 99]) (E' := E) (I' := (u_I I 99 (upd (I 99) 3 (nI 0)))) (J' := J) (S' := S) am_e245 rfl rfl rfl rfl ?_
      refine w_st (i' := 2) (ls' := [.ref 99, .int ((I 99) 13), .int ((nI 40) + p1)]) (st' := [.ref 117]) (E' := E) (I' := (u_I I 99 (upd (I 99) 3 (nI 0)))) (J' := J) (S' := S) am_e245 rfl rfl rfl rfl ?_
      refine w_st (i' := 3) (ls' := [.ref 99, .int ((I 99) 13), .int ((nI 40) + p1)]) (st' := [.int (nI 51), .ref 117]) (E' := E) (I' := (u_I I 99 (upd (I 99) 3 (nI 0)))) (J' := J) (S' := S) am_e245 rfl rfl rfl rfl ?_
      refine w_st (i' := 4) (ls' := [.ref 99, .int ((I 99) 13), .int ((nI 40) + p1)]) (st' := [.int ((I 99) 13), .int (nI 51), .ref 117]) (E' := E) (I' := (u_I I 99 (upd (I 99) 3 (nI 0)))) (J' := J) (S' := S) am_e245 rfl rfl rfl rfl ?_
      refine w_st (i' := 5) (ls' := [.ref 99, .int ((I 99) 13), .int ((nI 40) + p1)]) (st' := [.int ((nI 51) * ((I 99) 13)), .ref 117]) (E' := E) (I' := (u_I I 99 (upd (I 99) 3 (nI 0)))) (J' := J) (S' := S) am_e245 rfl rfl rfl rfl ?_
      refine w_st (i' := 6) (ls' := [.ref 99, .int ((I 99) 13), .int ((nI 40) + p1)]) (st' := [.int ((nI 40) + p1), .int ((nI 51) * ((I 99) 13)), .ref 117]) (E' := E) (I' := (u_I I 99 (upd (I 99) 3 (nI 0)))) (J' := J) (S' := S) am_e245 rfl rfl rfl rfl ?_
      refine w_st (i' := 7) (ls' := [.ref 99, .int ((I 99) 13), .int ((nI 40) + p1)]) (st' := [.int (((nI 51) * ((I 99) 13)) + ((nI 40) + p1)), .ref 117]) (E' := E) (I' := (u_I I 99 (upd (I 99) 3 (nI 0)))) (J' := J) (S' := S) am_e245 rfl rfl rfl rfl ?_
      have hf1 := h.1
      replace h := h.2
      refine w_ia (k := 117) (n := 20451) (jn := (((nI 51) * ((I 99) 13)) + ((nI 40) + p1)).toNatClampNeg) am_e245 rfl rfl (by decide) hf1 rfl ?_
      show am_ww 245 8 [.ref 99, .int ((I 99) 13), .int ((nI 40) + p1)] [.int ((I 117) ((((nI 51) * ((I 99) 13)) + ((nI 40) + p1)).toNatClampNeg))] E (u_I I 99 (upd (I 99) 3 (nI 0))) J S _
      refine w_ri am_e245 rfl rfl (q_mkI ?_)
      show am_ww 253 15 [.ref 99, .int p1] [.int ((I 117) ((((nI 51) * ((I 99) 13)) + ((nI 40) + p1)).toNatClampNeg))] E (u_I I 99 (upd (I 99) 3 (nI 0))) J S _
      refine w_var (fun w2 => am_ww 253 15 [.ref 99, .int p1] [.int w2] E (u_I I 99 (upd (I 99) 3 (nI 0))) J S _) ((I 117) ((((nI 51) * ((I 99) 13)) + ((nI 40) + p1)).toNatClampNeg)) (fun w2 hw2 => ?_)
      replace h := h w2 hw2
      refine w_st (i' := 19) (ls' := [.ref 99, .int p1]) (st' := [.int w2]) (E' := E) (I' := (u_I I 99 (upd (I 99) 3 (nI 0)))) (J' := J) (S' := S) am_e253 rfl rfl rfl rfl ?_
      exact w_ri am_e253 rfl rfl h
-- 254 mark
theorem g254_0  {E : am_Ev} {I : Nat → Nat → Int32} {J : Nat → Nat → Int64} {S : Nat → Nat → Option Nat} {Q : am_Qt}  (h : am_cl 248 [.ref 99, .int ((I 99) 13)] E (u_I I 99 (upd (I 99) 3 (nI 0))) J S (q_I fun v1 E1 I1 J1 S1 => Q (.inl (some (.int v1))) E1 I1 J1 S1)) : am_ww 254 0 [.ref 99] [] E I J S Q := by
  refine w_st (i' := 1) (ls' := [.ref 99]) (st' := [.ref 99]) (E' := E) (I' := I) (J' := J) (S' := S) am_e254 rfl rfl rfl rfl ?_
  refine w_st (i' := 2) (ls' := [.ref 99]) (st' := [.int (nI 0), .ref 99]) (E' := E) (I' := I) (J' := J) (S' := S) am_e254 rfl rfl rfl rfl ?_
  refine w_st (i' := 3) (ls' := [.ref 99]) (st' := []) (E' := E) (I' := (u_I I 99 (upd (I 99) 3 (nI 0)))) (J' := J) (S' := S) am_e254 rfl rfl rfl rfl ?_
  refine w_st (i' := 4) (ls' := [.ref 99]) (st' := [.ref 99]) (E' := E) (I' := (u_I I 99 (upd (I 99) 3 (nI 0)))) (J' := J) (S' := S) am_e254 rfl rfl rfl rfl ?_
  refine w_st (i' := 5) (ls' := [.ref 99]) (st' := [.ref 99, .ref 99]) (E' := E) (I' := (u_I I 99 (upd (I 99) 3 (nI 0)))) (J' := J) (S' := S) am_e254 rfl rfl rfl rfl ?_
  refine w_st (i' := 6) (ls' := [.ref 99]) (st' := [.int ((I 99) 13), .ref 99]) (E' := E) (I' := (u_I I 99 (upd (I 99) 3 (nI 0)))) (J' := J) (S' := S) am_e254 rfl rfl rfl rfl ?_
  refine w_cI am_e254 rfl rfl (as := [.ref 99, .int ((I 99) 13)]) (rest := []) rfl rfl (am_ww.mono h ?_)
  rintro _ E1 I1 J1 S1 ⟨v1, rfl, h⟩
  refine q_mkI ?_
  exact w_ri am_e254 rfl rfl h
-- 255 back
theorem g255_0 {p1 : Int32} {p2 : Int32} {E : am_Ev} {I : Nat → Nat → Int32} {J : Nat → Nat → Int64} {S : Nat → Nat → Option Nat} {Q : am_Qt}  (h : (p1 < (nI 0) → (Q (.inl (some (.int (nI 0)))) E (u_I I 99 (upd (upd (I 99) 3 (nI 0)) 3 (nI 1))) J S)) ∧ (¬ p1 < (nI 0) → (((((I 103) 4) - (nI 1)) < p1 → (Q (.inl (some (.int (nI 0)))) E (u_I I 99 (upd (upd (I 99) 3 (nI 0)) 3 (nI 1))) J S)) ∧ (¬ (((I 103) 4) - (nI 1)) < p1 → (vp_in p1 8 ∧ (∀ w2 : Int32, w2 = (((I 105) p1.toNatClampNeg) - (nI 1)) → ((p2 < (nI 0) → (Q (.inl (some (.int (nI 0)))) E (u_I I 99 (upd (upd (I 99) 3 (nI 0)) 3 (nI 1))) J S)) ∧ (¬ p2 < (nI 0) → ((w2 < p2 → (Q (.inl (some (.int (nI 0)))) E (u_I I 99 (upd (upd (I 99) 3 (nI 0)) 3 (nI 1))) J S)) ∧ (¬ w2 < p2 → (am_ww 255 15 [.ref 99, .int p1, .int p2, .int ((I 99) 13)] [] E (u_I I 99 (upd (I 99) 3 (nI 0))) J S Q))))))))))) : am_ww 255 0 [.ref 99, .int p1, .int p2, am_U] [] E I J S Q := by
  refine w_st (i' := 1) (ls' := [.ref 99, .int p1, .int p2, am_U]) (st' := [.ref 99]) (E' := E) (I' := I) (J' := J) (S' := S) am_e255 rfl rfl rfl rfl ?_
  refine w_st (i' := 2) (ls' := [.ref 99, .int p1, .int p2, am_U]) (st' := [.int (nI 0), .ref 99]) (E' := E) (I' := I) (J' := J) (S' := S) am_e255 rfl rfl rfl rfl ?_
  refine w_st (i' := 3) (ls' := [.ref 99, .int p1, .int p2, am_U]) (st' := []) (E' := E) (I' := (u_I I 99 (upd (I 99) 3 (nI 0)))) (J' := J) (S' := S) am_e255 rfl rfl rfl rfl ?_
  refine w_st (i' := 4) (ls' := [.ref 99, .int p1, .int p2, am_U]) (st' := [.ref 99]) (E' := E) (I' := (u_I I 99 (upd (I 99) 3 (nI 0)))) (J' := J) (S' := S) am_e255 rfl rfl rfl rfl ?_
  refine w_st (i' := 5) (ls' := [.ref 99, .int p1, .int p2, am_U]) (st' := [.int p1, .ref 99]) (E' := E) (I' := (u_I I 99 (upd (I 99) 3 (nI 0)))) (J' := J) (S' := S) am_e255 rfl rfl rfl rfl ?_
  refine w_st (i' := 6) (ls' := [.ref 99, .int p1, .int p2, am_U]) (st' := [.int p2, .int p1, .ref 99]) (E' := E) (I' := (u_I I 99 (upd (I 99) 3 (nI 0)))) (J' := J) (S' := S) am_e255 rfl rfl rfl rfl ?_
  refine w_cI am_e255 rfl rfl (as := [.ref 99, .int p1, .int p2]) (rest := []) rfl rfl ?_
  show am_ww 256 0 [.ref 99, .int p1, .int p2] [] E (u_I I 99 (upd (I 99) 3 (nI 0))) J S _
  refine w_st (i' := 1) (ls' := [.ref 99, .int p1, .int p2]) (st' := [.int p1]) (E' := E) (I' := (u_I I 99 (upd (I 99) 3 (nI 0)))) (J' := J) (S' := S) am_e256 rfl rfl rfl rfl ?_
  refine w_st (i' := 2) (ls' := [.ref 99, .int p1, .int p2]) (st' := [.int (nI 0), .int p1]) (E' := E) (I' := (u_I I 99 (upd (I 99) 3 (nI 0)))) (J' := J) (S' := S) am_e256 rfl rfl rfl rfl ?_
  refine w_st (i' := 3) (ls' := [.ref 99, .int p1, .int p2]) (st' := [.ref 99, .int (nI 0), .int p1]) (E' := E) (I' := (u_I I 99 (upd (I 99) 3 (nI 0)))) (J' := J) (S' := S) am_e256 rfl rfl rfl rfl ?_
  refine w_st (i' := 4) (ls' := [.ref 99, .int p1, .int p2]) (st' := [.ref 103, .int (nI 0), .int p1]) (E' := E) (I' := (u_I I 99 (upd (I 99) 3 (nI 0)))) (J' := J) (S' := S) am_e256 rfl rfl rfl rfl ?_
  refine w_st (i' := 5) (ls' := [.ref 99, .int p1, .int p2]) (st' := [.int (nI 4), .ref 103, .int (nI 0), .int p1]) (E' := E) (I' := (u_I I 99 (upd (I 99) 3 (nI 0)))) (J' := J) (S' := S) am_e256 rfl rfl rfl rfl ?_
  refine w_ia (k := 103) (n := 10) (jn := 4) am_e256 rfl rfl (by decide) (vp_in_nI (by decide) (by decide)) rfl ?_
  show am_ww 256 6 [.ref 99, .int p1, .int p2] [.int ((I 103) 4), .int (nI 0), .int p1] E (u_I I 99 (upd (I 99) 3 (nI 0))) J S _
  refine w_st (i' := 7) (ls' := [.ref 99, .int p1, .int p2]) (st' := [.int (nI 1), .int ((I 103) 4), .int (nI 0), .int p1]) (E' := E) (I' := (u_I I 99 (upd (I 99) 3 (nI 0)))) (J' := J) (S' := S) am_e256 rfl rfl rfl rfl ?_
  refine w_st (i' := 8) (ls' := [.ref 99, .int p1, .int p2]) (st' := [.int (((I 103) 4) - (nI 1)), .int (nI 0), .int p1]) (E' := E) (I' := (u_I I 99 (upd (I 99) 3 (nI 0)))) (J' := J) (S' := S) am_e256 rfl rfl rfl rfl ?_
  refine w_cI am_e256 rfl rfl (as := [.int p1, .int (nI 0), .int (((I 103) 4) - (nI 1))]) (rest := []) rfl rfl ?_
  show am_ww 232 0 [.int p1, .int (nI 0), .int (((I 103) 4) - (nI 1))] [] E (u_I I 99 (upd (I 99) 3 (nI 0))) J S _
  refine w_st (i' := 1) (ls' := [.int p1, .int (nI 0), .int (((I 103) 4) - (nI 1))]) (st' := [.int p1]) (E' := E) (I' := (u_I I 99 (upd (I 99) 3 (nI 0)))) (J' := J) (S' := S) am_e232 rfl rfl rfl rfl ?_
  refine w_st (i' := 2) (ls' := [.int p1, .int (nI 0), .int (((I 103) 4) - (nI 1))]) (st' := [.int (nI 0), .int p1]) (E' := E) (I' := (u_I I 99 (upd (I 99) 3 (nI 0)))) (J' := J) (S' := S) am_e232 rfl rfl rfl rfl ?_
  refine w_if2 am_e232 rfl rfl (fun c => ?_) (fun c => ?_)
  · replace h := h.1 (of_decide_eq_true c)
    refine w_st (i' := 9) (ls' := [.int p1, .int (nI 0), .int (((I 103) 4) - (nI 1))]) (st' := [.int (nI 0)]) (E' := E) (I' := (u_I I 99 (upd (I 99) 3 (nI 0)))) (J' := J) (S' := S) am_e232 rfl rfl rfl rfl ?_
    refine w_end (E' := E) (I' := (u_I I 99 (upd (I 99) 3 (nI 0)))) (J' := J) (S' := S) am_e232 rfl rfl rfl (q_mkI ?_)
    show am_ww 256 9 [.ref 99, .int p1, .int p2] [.int (nI 0)] E (u_I I 99 (upd (I 99) 3 (nI 0))) J S _
    refine w_st (i' := 22) (ls' := [.ref 99, .int p1, .int p2]) (st' := []) (E' := E) (I' := (u_I I 99 (upd (I 99) 3 (nI 0)))) (J' := J) (S' := S) am_e256 rfl rfl rfl rfl ?_
    refine w_st (i' := 23) (ls' := [.ref 99, .int p1, .int p2]) (st' := [.int (nI 0)]) (E' := E) (I' := (u_I I 99 (upd (I 99) 3 (nI 0)))) (J' := J) (S' := S) am_e256 rfl rfl rfl rfl ?_
    refine w_end (E' := E) (I' := (u_I I 99 (upd (I 99) 3 (nI 0)))) (J' := J) (S' := S) am_e256 rfl rfl rfl (q_mkI ?_)
    show am_ww 255 7 [.ref 99, .int p1, .int p2, am_U] [.int (nI 0)] E (u_I I 99 (upd (I 99) 3 (nI 0))) J S _
    refine w_st (i' := 8) (ls' := [.ref 99, .int p1, .int p2, am_U]) (st' := []) (E' := E) (I' := (u_I I 99 (upd (I 99) 3 (nI 0)))) (J' := J) (S' := S) am_e255 rfl rfl rfl rfl ?_
    refine w_st (i' := 9) (ls' := [.ref 99, .int p1, .int p2, am_U]) (st' := [.ref 99]) (E' := E) (I' := (u_I I 99 (upd (I 99) 3 (nI 0)))) (J' := J) (S' := S) am_e255 rfl rfl rfl rfl ?_
    refine w_st (i' := 10) (ls' := [.ref 99, .int p1, .int p2, am_U]) (st' := [.int (nI 1), .ref 99]) (E' := E) (I' := (u_I I 99 (upd (I 99) 3 (nI 0)))) (J' := J) (S' := S) am_e255 rfl rfl rfl rfl ?_
    refine w_cI am_e255 rfl rfl (as := [.ref 99, .int (nI 1)]) (rest := []) rfl rfl ?_
    show am_ww 189 0 [.ref 99, .int (nI 1)] [] E (u_I I 99 (upd (I 99) 3 (nI 0))) J S _
    refine w_st (i' := 1) (ls' := [.ref 99, .int (nI 1)]) (st' := [.ref 99]) (E' := E) (I' := (u_I I 99 (upd (I 99) 3 (nI 0)))) (J' := J) (S' := S) am_e189 rfl rfl rfl rfl ?_
    refine w_st (i' := 2) (ls' := [.ref 99, .int (nI 1)]) (st' := [.int (nI 1), .ref 99]) (E' := E) (I' := (u_I I 99 (upd (I 99) 3 (nI 0)))) (J' := J) (S' := S) am_e189 rfl rfl rfl rfl ?_
    refine w_st (i' := 3) (ls' := [.ref 99, .int (nI 1)]) (st' := []) (E' := E) (I' := (u_I (u_I I 99 (upd (I 99) 3 (nI 0))) 99 (upd (upd (I 99) 3 (nI 0)) 3 (nI 1)))) (J' := J) (S' := S) am_e189 rfl rfl rfl rfl ?_
    refine w_eI (uI_0 ..) ?_
    show am_ww 189 3 [.ref 99, .int (nI 1)] [] E (u_I I 99 (upd (upd (I 99) 3 (nI 0)) 3 (nI 1))) J S _
    refine w_st (i' := 4) (ls' := [.ref 99, .int (nI 1)]) (st' := [.int (nI 0)]) (E' := E) (I' := (u_I I 99 (upd (upd (I 99) 3 (nI 0)) 3 (nI 1)))) (J' := J) (S' := S) am_e189 rfl rfl rfl rfl ?_
    refine w_end (E' := E) (I' := (u_I I 99 (upd (upd (I 99) 3 (nI 0)) 3 (nI 1)))) (J' := J) (S' := S) am_e189 rfl rfl rfl (q_mkI ?_)
    show am_ww 255 11 [.ref 99, .int p1, .int p2, am_U] [.int (nI 0)] E (u_I I 99 (upd (upd (I 99) 3 (nI 0)) 3 (nI 1))) J S _
    exact w_end am_e255 rfl rfl rfl h
  · replace h := h.2 (of_decide_eq_false c)
    refine w_st (i' := 4) (ls' := [.int p1, .int (nI 0), .int (((I 103) 4) - (nI 1))]) (st' := [.int p1]) (E' := E) (I' := (u_I I 99 (upd (I 99) 3 (nI 0)))) (J' := J) (S' := S) am_e232 rfl rfl rfl rfl ?_
    refine w_st (i' := 5) (ls' := [.int p1, .int (nI 0), .int (((I 103) 4) - (nI 1))]) (st' := [.int (((I 103) 4) - (nI 1)), .int p1]) (E' := E) (I' := (u_I I 99 (upd (I 99) 3 (nI 0)))) (J' := J) (S' := S) am_e232 rfl rfl rfl rfl ?_
    refine w_if2 am_e232 rfl rfl (fun c => ?_) (fun c => ?_)
    · replace h := h.1 (of_decide_eq_true c)
      refine w_st (i' := 9) (ls' := [.int p1, .int (nI 0), .int (((I 103) 4) - (nI 1))]) (st' := [.int (nI 0)]) (E' := E) (I' := (u_I I 99 (upd (I 99) 3 (nI 0)))) (J' := J) (S' := S) am_e232 rfl rfl rfl rfl ?_
      refine w_end (E' := E) (I' := (u_I I 99 (upd (I 99) 3 (nI 0)))) (J' := J) (S' := S) am_e232 rfl rfl rfl (q_mkI ?_)
      show am_ww 256 9 [.ref 99, .int p1, .int p2] [.int (nI 0)] E (u_I I 99 (upd (I 99) 3 (nI 0))) J S _
      refine w_st (i' := 22) (ls' := [.ref 99, .int p1, .int p2]) (st' := []) (E' := E) (I' := (u_I I 99 (upd (I 99) 3 (nI 0)))) (J' := J) (S' := S) am_e256 rfl rfl rfl rfl ?_
      refine w_st (i' := 23) (ls' := [.ref 99, .int p1, .int p2]) (st' := [.int (nI 0)]) (E' := E) (I' := (u_I I 99 (upd (I 99) 3 (nI 0)))) (J' := J) (S' := S) am_e256 rfl rfl rfl rfl ?_
      refine w_end (E' := E) (I' := (u_I I 99 (upd (I 99) 3 (nI 0)))) (J' := J) (S' := S) am_e256 rfl rfl rfl (q_mkI ?_)
      show am_ww 255 7 [.ref 99, .int p1, .int p2, am_U] [.int (nI 0)] E (u_I I 99 (upd (I 99) 3 (nI 0))) J S _
      refine w_st (i' := 8) (ls' := [.ref 99, .int p1, .int p2, am_U]) (st' := []) (E' := E) (I' := (u_I I 99 (upd (I 99) 3 (nI 0)))) (J' := J) (S' := S) am_e255 rfl rfl rfl rfl ?_
      refine w_st (i' := 9) (ls' := [.ref 99, .int p1, .int p2, am_U]) (st' := [.ref 99]) (E' := E) (I' := (u_I I 99 (upd (I 99) 3 (nI 0)))) (J' := J) (S' := S) am_e255 rfl rfl rfl rfl ?_
      refine w_st (i' := 10) (ls' := [.ref 99, .int p1, .int p2, am_U]) (st' := [.int (nI 1), .ref 99]) (E' := E) (I' := (u_I I 99 (upd (I 99) 3 (nI 0)))) (J' := J) (S' := S) am_e255 rfl rfl rfl rfl ?_
      refine w_cI am_e255 rfl rfl (as := [.ref 99, .int (nI 1)]) (rest := []) rfl rfl ?_
      show am_ww 189 0 [.ref 99, .int (nI 1)] [] E (u_I I 99 (upd (I 99) 3 (nI 0))) J S _
      refine w_st (i' := 1) (ls' := [.ref 99, .int (nI 1)]) (st' := [.ref 99]) (E' := E) (I' := (u_I I 99 (upd (I 99) 3 (nI 0)))) (J' := J) (S' := S) am_e189 rfl rfl rfl rfl ?_
      refine w_st (i' := 2) (ls' := [.ref 99, .int (nI 1)]) (st' := [.int (nI 1), .ref 99]) (E' := E) (I' := (u_I I 99 (upd (I 99) 3 (nI 0)))) (J' := J) (S' := S) am_e189 rfl rfl rfl rfl ?_
      refine w_st (i' := 3) (ls' := [.ref 99, .int (nI 1)]) (st' := []) (E' := E) (I' := (u_I (u_I I 99 (upd (I 99) 3 (nI 0))) 99 (upd (upd (I 99) 3 (nI 0)) 3 (nI 1)))) (J' := J) (S' := S) am_e189 rfl rfl rfl rfl ?_
      refine w_eI (uI_0 ..) ?_
      show am_ww 189 3 [.ref 99, .int (nI 1)] [] E (u_I I 99 (upd (upd (I 99) 3 (nI 0)) 3 (nI 1))) J S _
      refine w_st (i' := 4) (ls' := [.ref 99, .int (nI 1)]) (st' := [.int (nI 0)]) (E' := E) (I' := (u_I I 99 (upd (upd (I 99) 3 (nI 0)) 3 (nI 1)))) (J' := J) (S' := S) am_e189 rfl rfl rfl rfl ?_
      refine w_end (E' := E) (I' := (u_I I 99 (upd (upd (I 99) 3 (nI 0)) 3 (nI 1)))) (J' := J) (S' := S) am_e189 rfl rfl rfl (q_mkI ?_)
      show am_ww 255 11 [.ref 99, .int p1, .int p2, am_U] [.int (nI 0)] E (u_I I 99 (upd (upd (I 99) 3 (nI 0)) 3 (nI 1))) J S _
      exact w_end am_e255 rfl rfl rfl h
    · replace h := h.2 (of_decide_eq_false c)
      refine w_st (i' := 7) (ls' := [.int p1, .int (nI 0), .int (((I 103) 4) - (nI 1))]) (st' := [.int (nI 1)]) (E' := E) (I' := (u_I I 99 (upd (I 99) 3 (nI 0)))) (J' := J) (S' := S) am_e232 rfl rfl rfl rfl ?_
      refine w_st (i' := 9) (ls' := [.int p1, .int (nI 0), .int (((I 103) 4) - (nI 1))]) (st' := [.int (nI 1)]) (E' := E) (I' := (u_I I 99 (upd (I 99) 3 (nI 0)))) (J' := J) (S' := S) am_e232 rfl rfl rfl rfl ?_
      refine w_end (E' := E) (I' := (u_I I 99 (upd (I 99) 3 (nI 0)))) (J' := J) (S' := S) am_e232 rfl rfl rfl (q_mkI ?_)
      show am_ww 256 9 [.ref 99, .int p1, .int p2] [.int (nI 1)] E (u_I I 99 (upd (I 99) 3 (nI 0))) J S _
      refine w_st (i' := 10) (ls' := [.ref 99, .int p1, .int p2]) (st' := []) (E' := E) (I' := (u_I I 99 (upd (I 99) 3 (nI 0)))) (J' := J) (S' := S) am_e256 rfl rfl rfl rfl ?_
      refine w_st (i' := 11) (ls' := [.ref 99, .int p1, .int p2]) (st' := [.int p2]) (E' := E) (I' := (u_I I 99 (upd (I 99) 3 (nI 0)))) (J' := J) (S' := S) am_e256 rfl rfl rfl rfl ?_
      refine w_st (i' := 12) (ls' := [.ref 99, .int p1, .int p2]) (st' := [.int (nI 0), .int p2]) (E' := E) (I' := (u_I I 99 (upd (I 99) 3 (nI 0)))) (J' := J) (S' := S) am_e256 rfl rfl rfl rfl ?_
      refine w_st (i' := 13) (ls' := [.ref 99, .int p1, .int p2]) (st' := [.ref 99, .int (nI 0), .int p2]) (E' := E) (I' := (u_I I 99 (upd (I 99) 3 (nI 0)))) (J' := J) (S' := S) am_e256 rfl rfl rfl rfl ?_
      refine w_st (i' := 14) (ls' := [.ref 99, .int p1, .int p2]) (st' := [.ref 105, .int (nI 0), .int p2]) (E' := E) (I' := (u_I I 99 (upd (I 99) 3 (nI 0)))) (J' := J) (S' := S) am_e256 rfl rfl rfl rfl ?_
      refine w_st (i' := 15) (ls' := [.ref 99, .int p1, .int p2]) (st' := [.int p1, .ref 105, .int (nI 0), .int p2]) (E' := E) (I' := (u_I I 99 (upd (I 99) 3 (nI 0)))) (J' := J) (S' := S) am_e256 rfl rfl rfl rfl ?_
      have hf1 := h.1
      replace h := h.2
      refine w_ia (k := 105) (n := 8) (jn := p1.toNatClampNeg) am_e256 rfl rfl (by decide) hf1 rfl ?_
      show am_ww 256 16 [.ref 99, .int p1, .int p2] [.int ((I 105) p1.toNatClampNeg), .int (nI 0), .int p2] E (u_I I 99 (upd (I 99) 3 (nI 0))) J S _
      refine w_st (i' := 17) (ls' := [.ref 99, .int p1, .int p2]) (st' := [.int (nI 1), .int ((I 105) p1.toNatClampNeg), .int (nI 0), .int p2]) (E' := E) (I' := (u_I I 99 (upd (I 99) 3 (nI 0)))) (J' := J) (S' := S) am_e256 rfl rfl rfl rfl ?_
      refine w_st (i' := 18) (ls' := [.ref 99, .int p1, .int p2]) (st' := [.int (((I 105) p1.toNatClampNeg) - (nI 1)), .int (nI 0), .int p2]) (E' := E) (I' := (u_I I 99 (upd (I 99) 3 (nI 0)))) (J' := J) (S' := S) am_e256 rfl rfl rfl rfl ?_
      refine w_cI am_e256 rfl rfl (as := [.int p2, .int (nI 0), .int (((I 105) p1.toNatClampNeg) - (nI 1))]) (rest := []) rfl rfl ?_
      show am_ww 232 0 [.int p2, .int (nI 0), .int (((I 105) p1.toNatClampNeg) - (nI 1))] [] E (u_I I 99 (upd (I 99) 3 (nI 0))) J S _
      refine w_var (fun w2 => am_ww 232 0 [.int p2, .int (nI 0), .int w2] [] E (u_I I 99 (upd (I 99) 3 (nI 0))) J S _) (((I 105) p1.toNatClampNeg) - (nI 1)) (fun w2 hw2 => ?_)
      replace h := h w2 hw2
      refine w_st (i' := 1) (ls' := [.int p2, .int (nI 0), .int w2]) (st' := [.int p2]) (E' := E) (I' := (u_I I 99 (upd (I 99) 3 (nI 0)))) (J' := J) (S' := S) am_e232 rfl rfl rfl rfl ?_
      refine w_st (i' := 2) (ls' := [.int p2, .int (nI 0), .int w2]) (st' := [.int (nI 0), .int p2]) (E' := E) (I' := (u_I I 99 (upd (I 99) 3 (nI 0)))) (J' := J) (S' := S) am_e232 rfl rfl rfl rfl ?_
      refine w_if2 am_e232 rfl rfl (fun c => ?_) (fun c => ?_)
      · replace h := h.1 (of_decide_eq_true c)
        refine w_st (i' := 9) (ls' := [.int p2, .int (nI 0), .int w2]) (st' := [.int (nI 0)]) (E' := E) (I' := (u_I I 99 (upd (I 99) 3 (nI 0)))) (J' := J) (S' := S) am_e232 rfl rfl rfl rfl ?_
        refine w_end (E' := E) (I' := (u_I I 99 (upd (I 99) 3 (nI 0)))) (J' := J) (S' := S) am_e232 rfl rfl rfl (q_mkI ?_)
        show am_ww 256 19 [.ref 99, .int p1, .int p2] [.int (nI 0)] E (u_I I 99 (upd (I 99) 3 (nI 0))) J S _
        refine w_st (i' := 22) (ls' := [.ref 99, .int p1, .int p2]) (st' := []) (E' := E) (I' := (u_I I 99 (upd (I 99) 3 (nI 0)))) (J' := J) (S' := S) am_e256 rfl rfl rfl rfl ?_
        refine w_st (i' := 23) (ls' := [.ref 99, .int p1, .int p2]) (st' := [.int (nI 0)]) (E' := E) (I' := (u_I I 99 (upd (I 99) 3 (nI 0)))) (J' := J) (S' := S) am_e256 rfl rfl rfl rfl ?_
        refine w_end (E' := E) (I' := (u_I I 99 (upd (I 99) 3 (nI 0)))) (J' := J) (S' := S) am_e256 rfl rfl rfl (q_mkI ?_)
        show am_ww 255 7 [.ref 99, .int p1, .int p2, am_U] [.int (nI 0)] E (u_I I 99 (upd (I 99) 3 (nI 0))) J S _
        refine w_st (i' := 8) (ls' := [.ref 99, .int p1, .int p2, am_U]) (st' := []) (E' := E) (I' := (u_I I 99 (upd (I 99) 3 (nI 0)))) (J' := J) (S' := S) am_e255 rfl rfl rfl rfl ?_
        refine w_st (i' := 9) (ls' := [.ref 99, .int p1, .int p2, am_U]) (st' := [.ref 99]) (E' := E) (I' := (u_I I 99 (upd (I 99) 3 (nI 0)))) (J' := J) (S' := S) am_e255 rfl rfl rfl rfl ?_
        refine w_st (i' := 10) (ls' := [.ref 99, .int p1, .int p2, am_U]) (st' := [.int (nI 1), .ref 99]) (E' := E) (I' := (u_I I 99 (upd (I 99) 3 (nI 0)))) (J' := J) (S' := S) am_e255 rfl rfl rfl rfl ?_
        refine w_cI am_e255 rfl rfl (as := [.ref 99, .int (nI 1)]) (rest := []) rfl rfl ?_
        show am_ww 189 0 [.ref 99, .int (nI 1)] [] E (u_I I 99 (upd (I 99) 3 (nI 0))) J S _
        refine w_st (i' := 1) (ls' := [.ref 99, .int (nI 1)]) (st' := [.ref 99]) (E' := E) (I' := (u_I I 99 (upd (I 99) 3 (nI 0)))) (J' := J) (S' := S) am_e189 rfl rfl rfl rfl ?_
        refine w_st (i' := 2) (ls' := [.ref 99, .int (nI 1)]) (st' := [.int (nI 1), .ref 99]) (E' := E) (I' := (u_I I 99 (upd (I 99) 3 (nI 0)))) (J' := J) (S' := S) am_e189 rfl rfl rfl rfl ?_
        refine w_st (i' := 3) (ls' := [.ref 99, .int (nI 1)]) (st' := []) (E' := E) (I' := (u_I (u_I I 99 (upd (I 99) 3 (nI 0))) 99 (upd (upd (I 99) 3 (nI 0)) 3 (nI 1)))) (J' := J) (S' := S) am_e189 rfl rfl rfl rfl ?_
        refine w_eI (uI_0 ..) ?_
        show am_ww 189 3 [.ref 99, .int (nI 1)] [] E (u_I I 99 (upd (upd (I 99) 3 (nI 0)) 3 (nI 1))) J S _
        refine w_st (i' := 4) (ls' := [.ref 99, .int (nI 1)]) (st' := [.int (nI 0)]) (E' := E) (I' := (u_I I 99 (upd (upd (I 99) 3 (nI 0)) 3 (nI 1)))) (J' := J) (S' := S) am_e189 rfl rfl rfl rfl ?_
        refine w_end (E' := E) (I' := (u_I I 99 (upd (upd (I 99) 3 (nI 0)) 3 (nI 1)))) (J' := J) (S' := S) am_e189 rfl rfl rfl (q_mkI ?_)
        show am_ww 255 11 [.ref 99, .int p1, .int p2, am_U] [.int (nI 0)] E (u_I I 99 (upd (upd (I 99) 3 (nI 0)) 3 (nI 1))) J S _
        exact w_end am_e255 rfl rfl rfl h
      · replace h := h.2 (of_decide_eq_false c)
        refine w_st (i' := 4) (ls' := [.int p2, .int (nI 0), .int w2]) (st' := [.int p2]) (E' := E) (I' := (u_I I 99 (upd (I 99) 3 (nI 0)))) (J' := J) (S' := S) am_e232 rfl rfl rfl rfl ?_
        refine w_st (i' := 5) (ls' := [.int p2, .int (nI 0), .int w2]) (st' := [.int w2, .int p2]) (E' := E) (I' := (u_I I 99 (upd (I 99) 3 (nI 0)))) (J' := J) (S' := S) am_e232 rfl rfl rfl rfl ?_
        refine w_if2 am_e232 rfl rfl (fun c => ?_) (fun c => ?_)
        · replace h := h.1 (of_decide_eq_true c)
          refine w_st (i' := 9) (ls' := [.int p2, .int (nI 0), .int w2]) (st' := [.int (nI 0)]) (E' := E) (I' := (u_I I 99 (upd (I 99) 3 (nI 0)))) (J' := J) (S' := S) am_e232 rfl rfl rfl rfl ?_
          refine w_end (E' := E) (I' := (u_I I 99 (upd (I 99) 3 (nI 0)))) (J' := J) (S' := S) am_e232 rfl rfl rfl (q_mkI ?_)
          show am_ww 256 19 [.ref 99, .int p1, .int p2] [.int (nI 0)] E (u_I I 99 (upd (I 99) 3 (nI 0))) J S _
          refine w_st (i' := 22) (ls' := [.ref 99, .int p1, .int p2]) (st' := []) (E' := E) (I' := (u_I I 99 (upd (I 99) 3 (nI 0)))) (J' := J) (S' := S) am_e256 rfl rfl rfl rfl ?_
          refine w_st (i' := 23) (ls' := [.ref 99, .int p1, .int p2]) (st' := [.int (nI 0)]) (E' := E) (I' := (u_I I 99 (upd (I 99) 3 (nI 0)))) (J' := J) (S' := S) am_e256 rfl rfl rfl rfl ?_
          refine w_end (E' := E) (I' := (u_I I 99 (upd (I 99) 3 (nI 0)))) (J' := J) (S' := S) am_e256 rfl rfl rfl (q_mkI ?_)
          show am_ww 255 7 [.ref 99, .int p1, .int p2, am_U] [.int (nI 0)] E (u_I I 99 (upd (I 99) 3 (nI 0))) J S _
          refine w_st (i' := 8) (ls' := [.ref 99, .int p1, .int p2, am_U]) (st' := []) (E' := E) (I' := (u_I I 99 (upd (I 99) 3 (nI 0)))) (J' := J) (S' := S) am_e255 rfl rfl rfl rfl ?_
          refine w_st (i' := 9) (ls' := [.ref 99, .int p1, .int p2, am_U]) (st' := [.ref 99]) (E' := E) (I' := (u_I I 99 (upd (I 99) 3 (nI 0)))) (J' := J) (S' := S) am_e255 rfl rfl rfl rfl ?_
          refine w_st (i' := 10) (ls' := [.ref 99, .int p1, .int p2, am_U]) (st' := [.int (nI 1), .ref 99]) (E' := E) (I' := (u_I I 99 (upd (I 99) 3 (nI 0)))) (J' := J) (S' := S) am_e255 rfl rfl rfl rfl ?_
          refine w_cI am_e255 rfl rfl (as := [.ref 99, .int (nI 1)]) (rest := []) rfl rfl ?_
          show am_ww 189 0 [.ref 99, .int (nI 1)] [] E (u_I I 99 (upd (I 99) 3 (nI 0))) J S _
          refine w_st (i' := 1) (ls' := [.ref 99, .int (nI 1)]) (st' := [.ref 99]) (E' := E) (I' := (u_I I 99 (upd (I 99) 3 (nI 0)))) (J' := J) (S' := S) am_e189 rfl rfl rfl rfl ?_
          refine w_st (i' := 2) (ls' := [.ref 99, .int (nI 1)]) (st' := [.int (nI 1), .ref 99]) (E' := E) (I' := (u_I I 99 (upd (I 99) 3 (nI 0)))) (J' := J) (S' := S) am_e189 rfl rfl rfl rfl ?_
          refine w_st (i' := 3) (ls' := [.ref 99, .int (nI 1)]) (st' := []) (E' := E) (I' := (u_I (u_I I 99 (upd (I 99) 3 (nI 0))) 99 (upd (upd (I 99) 3 (nI 0)) 3 (nI 1)))) (J' := J) (S' := S) am_e189 rfl rfl rfl rfl ?_
          refine w_eI (uI_0 ..) ?_
          show am_ww 189 3 [.ref 99, .int (nI 1)] [] E (u_I I 99 (upd (upd (I 99) 3 (nI 0)) 3 (nI 1))) J S _
          refine w_st (i' := 4) (ls' := [.ref 99, .int (nI 1)]) (st' := [.int (nI 0)]) (E' := E) (I' := (u_I I 99 (upd (upd (I 99) 3 (nI 0)) 3 (nI 1)))) (J' := J) (S' := S) am_e189 rfl rfl rfl rfl ?_
          refine w_end (E' := E) (I' := (u_I I 99 (upd (upd (I 99) 3 (nI 0)) 3 (nI 1)))) (J' := J) (S' := S) am_e189 rfl rfl rfl (q_mkI ?_)
          show am_ww 255 11 [.ref 99, .int p1, .int p2, am_U] [.int (nI 0)] E (u_I I 99 (upd (upd (I 99) 3 (nI 0)) 3 (nI 1))) J S _
          exact w_end am_e255 rfl rfl rfl h
        · replace h := h.2 (of_decide_eq_false c)
          refine w_st (i' := 7) (ls' := [.int p2, .int (nI 0), .int w2]) (st' := [.int (nI 1)]) (E' := E) (I' := (u_I I 99 (upd (I 99) 3 (nI 0)))) (J' := J) (S' := S) am_e232 rfl rfl rfl rfl ?_
          refine w_st (i' := 9) (ls' := [.int p2, .int (nI 0), .int w2]) (st' := [.int (nI 1)]) (E' := E) (I' := (u_I I 99 (upd (I 99) 3 (nI 0)))) (J' := J) (S' := S) am_e232 rfl rfl rfl rfl ?_
          refine w_end (E' := E) (I' := (u_I I 99 (upd (I 99) 3 (nI 0)))) (J' := J) (S' := S) am_e232 rfl rfl rfl (q_mkI ?_)
          show am_ww 256 19 [.ref 99, .int p1, .int p2] [.int (nI 1)] E (u_I I 99 (upd (I 99) 3 (nI 0))) J S _
          refine w_st (i' := 20) (ls' := [.ref 99, .int p1, .int p2]) (st' := []) (E' := E) (I' := (u_I I 99 (upd (I 99) 3 (nI 0)))) (J' := J) (S' := S) am_e256 rfl rfl rfl rfl ?_
          refine w_st (i' := 21) (ls' := [.ref 99, .int p1, .int p2]) (st' := [.int (nI 1)]) (E' := E) (I' := (u_I I 99 (upd (I 99) 3 (nI 0)))) (J' := J) (S' := S) am_e256 rfl rfl rfl rfl ?_
          refine w_st (i' := 23) (ls' := [.ref 99, .int p1, .int p2]) (st' := [.int (nI 1)]) (E' := E) (I' := (u_I I 99 (upd (I 99) 3 (nI 0)))) (J' := J) (S' := S) am_e256 rfl rfl rfl rfl ?_
          refine w_end (E' := E) (I' := (u_I I 99 (upd (I 99) 3 (nI 0)))) (J' := J) (S' := S) am_e256 rfl rfl rfl (q_mkI ?_)
          show am_ww 255 7 [.ref 99, .int p1, .int p2, am_U] [.int (nI 1)] E (u_I I 99 (upd (I 99) 3 (nI 0))) J S _
          refine w_st (i' := 12) (ls' := [.ref 99, .int p1, .int p2, am_U]) (st' := []) (E' := E) (I' := (u_I I 99 (upd (I 99) 3 (nI 0)))) (J' := J) (S' := S) am_e255 rfl rfl rfl rfl ?_
          refine w_st (i' := 13) (ls' := [.ref 99, .int p1, .int p2, am_U]) (st' := [.ref 99]) (E' := E) (I' := (u_I I 99 (upd (I 99) 3 (nI 0)))) (J' := J) (S' := S) am_e255 rfl rfl rfl rfl ?_
          refine w_st (i' := 14) (ls' := [.ref 99, .int p1, .int p2, am_U]) (st' := [.int ((I 99) 13)]) (E' := E) (I' := (u_I I 99 (upd (I 99) 3 (nI 0)))) (J' := J) (S' := S) am_e255 rfl rfl rfl rfl ?_
          refine w_st (i' := 15) (ls' := [.ref 99, .int p1, .int p2, .int ((I 99) 13)]) (st' := []) (E' := E) (I' := (u_I I 99 (upd (I 99) 3 (nI 0)))) (J' := J) (S' := S) am_e255 rfl rfl rfl rfl ?_
          exact h
theorem g255_15 {x1 : Int32} {x2 : Int32} {x3 : Int32} {E : am_Ev} {I : Nat → Nat → Int32} {J : Nat → Nat → Int64} {S : Nat → Nat → Option Nat} {Q : am_Qt}  (h : (x3 ≤ 0 → (Q (.inl (some (.int (-1)))) E I J S)) ∧ (¬ x3 ≤ 0 → (vp_in x3 401 ∧ ((((I 119) x3.toNatClampNeg) = (((nI 16) * x1) + x2) → (Q (.inl (some (.int x3))) E (u_I I 99 (upd (I 99) 13 (x3 - (nI 1)))) J S)) ∧ (¬ ((I 119) x3.toNatClampNeg) = (((nI 16) * x1) + x2) → (am_ww 255 15 [.ref 99, .int x1, .int x2, .int (x3 - nI 1)] [] E I J S Q)))))) : am_ww 255 15 [.ref 99, .int x1, .int x2, .int x3] [] E I J S Q := by
  refine w_st (i' := 16) (ls' := [.ref 99, .int x1, .int x2, .int x3]) (st' := [.int x3]) (E' := E) (I' := I) (J' := J) (S' := S) am_e255 rfl rfl rfl rfl ?_
  refine w_if1 am_e255 rfl rfl (fun c => ?_) (fun c => ?_)
  · replace h := h.1 (of_decide_eq_true c)
    refine w_st (i' := 38) (ls' := [.ref 99, .int x1, .int x2, .int x3]) (st' := [.int (-1)]) (E' := E) (I' := I) (J' := J) (S' := S) am_e255 rfl rfl rfl rfl ?_
    exact w_end am_e255 rfl rfl rfl h
  · replace h := h.2 (of_decide_eq_false c)
    refine w_st (i' := 18) (ls' := [.ref 99, .int x1, .int x2, .int x3]) (st' := [.ref 99]) (E' := E) (I' := I) (J' := J) (S' := S) am_e255 rfl rfl rfl rfl ?_
    refine w_st (i' := 19) (ls' := [.ref 99, .int x1, .int x2, .int x3]) (st' := [.ref 119]) (E' := E) (I' := I) (J' := J) (S' := S) am_e255 rfl rfl rfl rfl ?_
    refine w_st (i' := 20) (ls' := [.ref 99, .int x1, .int x2, .int x3]) (st' := [.int x3, .ref 119]) (E' := E) (I' := I) (J' := J) (S' := S) am_e255 rfl rfl rfl rfl ?_
    have hf1 := h.1
    replace h := h.2
    refine w_ia (k := 119) (n := 401) (jn := x3.toNatClampNeg) am_e255 rfl rfl (by decide) hf1 rfl ?_
    refine w_st (i' := 22) (ls' := [.ref 99, .int x1, .int x2, .int x3]) (st' := [.int (nI 16), .int ((I 119) x3.toNatClampNeg)]) (E' := E) (I' := I) (J' := J) (S' := S) am_e255 rfl rfl rfl rfl ?_
    refine w_st (i' := 23) (ls' := [.ref 99, .int x1, .int x2, .int x3]) (st' := [.int x1, .int (nI 16), .int ((I 119) x3.toNatClampNeg)]) (E' := E) (I' := I) (J' := J) (S' := S) am_e255 rfl rfl rfl rfl ?_
    refine w_st (i' := 24) (ls' := [.ref 99, .int x1, .int x2, .int x3]) (st' := [.int ((nI 16) * x1), .int ((I 119) x3.toNatClampNeg)]) (E' := E) (I' := I) (J' := J) (S' := S) am_e255 rfl rfl rfl rfl ?_
    refine w_st (i' := 25) (ls' := [.ref 99, .int x1, .int x2, .int x3]) (st' := [.int x2, .int ((nI 16) * x1), .int ((I 119) x3.toNatClampNeg)]) (E' := E) (I' := I) (J' := J) (S' := S) am_e255 rfl rfl rfl rfl ?_
    refine w_st (i' := 26) (ls' := [.ref 99, .int x1, .int x2, .int x3]) (st' := [.int (((nI 16) * x1) + x2), .int ((I 119) x3.toNatClampNeg)]) (E' := E) (I' := I) (J' := J) (S' := S) am_e255 rfl rfl rfl rfl ?_
    refine w_if2 am_e255 rfl rfl (fun c => ?_) (fun c => ?_)
    · replace h := h.1 (of_decide_eq_true c)
      refine w_st (i' := 29) (ls' := [.ref 99, .int x1, .int x2, .int x3]) (st' := [.ref 99]) (E' := E) (I' := I) (J' := J) (S' := S) am_e255 rfl rfl rfl rfl ?_
      refine w_st (i' := 30) (ls' := [.ref 99, .int x1, .int x2, .int x3]) (st' := [.int x3, .ref 99]) (E' := E) (I' := I) (J' := J) (S' := S) am_e255 rfl rfl rfl rfl ?_
      refine w_st (i' := 31) (ls' := [.ref 99, .int x1, .int x2, .int x3]) (st' := [.int (nI 1), .int x3, .ref 99]) (E' := E) (I' := I) (J' := J) (S' := S) am_e255 rfl rfl rfl rfl ?_
      refine w_st (i' := 32) (ls' := [.ref 99, .int x1, .int x2, .int x3]) (st' := [.int (x3 - (nI 1)), .ref 99]) (E' := E) (I' := I) (J' := J) (S' := S) am_e255 rfl rfl rfl rfl ?_
      refine w_st (i' := 33) (ls' := [.ref 99, .int x1, .int x2, .int x3]) (st' := []) (E' := E) (I' := (u_I I 99 (upd (I 99) 13 (x3 - (nI 1))))) (J' := J) (S' := S) am_e255 rfl rfl rfl rfl ?_
      refine w_st (i' := 34) (ls' := [.ref 99, .int x1, .int x2, .int x3]) (st' := [.int x3]) (E' := E) (I' := (u_I I 99 (upd (I 99) 13 (x3 - (nI 1))))) (J' := J) (S' := S) am_e255 rfl rfl rfl rfl ?_
      exact w_ri am_e255 rfl rfl h
    · replace h := h.2 (of_decide_eq_false c)
      refine w_st (i' := 35) (ls' := [.ref 99, .int x1, .int x2, .int x3]) (st' := []) (E' := E) (I' := I) (J' := J) (S' := S) am_e255 rfl rfl rfl rfl ?_
      refine w_st (i' := 36) (ls' := [.ref 99, .int x1, .int x2, .int (x3 - nI 1)]) (st' := []) (E' := E) (I' := I) (J' := J) (S' := S) am_e255 rfl rfl rfl rfl ?_
      refine w_st (i' := 15) (ls' := [.ref 99, .int x1, .int x2, .int (x3 - nI 1)]) (st' := []) (E' := E) (I' := I) (J' := J) (S' := S) am_e255 rfl rfl rfl rfl ?_
      exact h
-- 257 on
theorem g257_0 {p1 : Int32} {p2 : Int32} {E : am_Ev} {I : Nat → Nat → Int32} {J : Nat → Nat → Int64} {S : Nat → Nat → Option Nat} {Q : am_Qt}  (h : (p1 < (nI 0) → (Q (.inl (some (.int (nI 0)))) E (u_I I 99 (upd (upd (I 99) 3 (nI 0)) 3 (nI 1))) J S)) ∧ (¬ p1 < (nI 0) → (((((I 103) 4) - (nI 1)) < p1 → (Q (.inl (some (.int (nI 0)))) E (u_I I 99 (upd (upd (I 99) 3 (nI 0)) 3 (nI 1))) J S)) ∧ (¬ (((I 103) 4) - (nI 1)) < p1 → (vp_in p1 8 ∧ (∀ w2 : Int32, w2 = (((I 105) p1.toNatClampNeg) - (nI 1)) → ((p2 < (nI 0) → (Q (.inl (some (.int (nI 0)))) E (u_I I 99 (upd (upd (I 99) 3 (nI 0)) 3 (nI 1))) J S)) ∧ (¬ p2 < (nI 0) → ((w2 < p2 → (Q (.inl (some (.int (nI 0)))) E (u_I I 99 (upd (upd (I 99) 3 (nI 0)) 3 (nI 1))) J S)) ∧ (¬ w2 < p2 → (am_ww 257 17 [.ref 99, .int p1, .int p2, .int (((I 99) 13) + (nI 1))] [] E (u_I I 99 (upd (I 99) 3 (nI 0))) J S Q))))))))))) : am_ww 257 0 [.ref 99, .int p1, .int p2, am_U] [] E I J S Q := by
  refine w_st (i' := 1) (ls' := [.ref 99, .int p1, .int p2, am_U]) (st' := [.ref 99]) (E' := E) (I' := I) (J' := J) (S' := S) am_e257 rfl rfl rfl rfl ?_
  refine w_st (i' := 2) (ls' := [.ref 99, .int p1, .int p2, am_U]) (st' := [.int (nI 0), .ref 99]) (E' := E) (I' := I) (J' := J) (S' := S) am_e257 rfl rfl rfl rfl ?_
  refine w_st (i' := 3) (ls' := [.ref 99, .int p1, .int p2, am_U]) (st' := []) (E' := E) (I' := (u_I I 99 (upd (I 99) 3 (nI 0)))) (J' := J) (S' := S) am_e257 rfl rfl rfl rfl ?_
  refine w_st (i' := 4) (ls' := [.ref 99, .int p1, .int p2, am_U]) (st' := [.ref 99]) (E' := E) (I' := (u_I I 99 (upd (I 99) 3 (nI 0)))) (J' := J) (S' := S) am_e257 rfl rfl rfl rfl ?_
  refine w_st (i' := 5) (ls' := [.ref 99, .int p1, .int p2, am_U]) (st' := [.int p1, .ref 99]) (E' := E) (I' := (u_I I 99 (upd (I 99) 3 (nI 0)))) (J' := J) (S' := S) am_e257 rfl rfl rfl rfl ?_
  refine w_st (i' := 6) (ls' := [.ref 99, .int p1, .int p2, am_U]) (st' := [.int p2, .int p1, .ref 99]) (E' := E) (I' := (u_I I 99 (upd (I 99) 3 (nI 0)))) (J' := J) (S' := S) am_e257 rfl rfl rfl rfl ?_
  refine w_cI am_e257 rfl rfl (as := [.ref 99, .int p1, .int p2]) (rest := []) rfl rfl ?_
  show am_ww 256 0 [.ref 99, .int p1, .int p2] [] E (u_I I 99 (upd (I 99) 3 (nI 0))) J S _
  refine w_st (i' := 1) (ls' := [.ref 99, .int p1, .int p2]) (st' := [.int p1]) (E' := E) (I' := (u_I I 99 (upd (I 99) 3 (nI 0)))) (J' := J) (S' := S) am_e256 rfl rfl rfl rfl ?_
  refine w_st (i' := 2) (ls' := [.ref 99, .int p1, .int p2]) (st' := [.int (nI 0), .int p1]) (E' := E) (I' := (u_I I 99 (upd (I 99) 3 (nI 0)))) (J' := J) (S' := S) am_e256 rfl rfl rfl rfl ?_
  refine w_st (i' := 3) (ls' := [.ref 99, .int p1, .int p2]) (st' := [.ref 99, .int (nI 0), .int p1]) (E' := E) (I' := (u_I I 99 (upd (I 99) 3 (nI 0)))) (J' := J) (S' := S) am_e256 rfl rfl rfl rfl ?_
  refine w_st (i' := 4) (ls' := [.ref 99, .int p1, .int p2]) (st' := [.ref 103, .int (nI 0), .int p1]) (E' := E) (I' := (u_I I 99 (upd (I 99) 3 (nI 0)))) (J' := J) (S' := S) am_e256 rfl rfl rfl rfl ?_
  refine w_st (i' := 5) (ls' := [.ref 99, .int p1, .int p2]) (st' := [.int (nI 4), .ref 103, .int (nI 0), .int p1]) (E' := E) (I' := (u_I I 99 (upd (I 99) 3 (nI 0)))) (J' := J) (S' := S) am_e256 rfl rfl rfl rfl ?_
  refine w_ia (k := 103) (n := 10) (jn := 4) am_e256 rfl rfl (by decide) (vp_in_nI (by decide) (by decide)) rfl ?_
  show am_ww 256 6 [.ref 99, .int p1, .int p2] [.int ((I 103) 4), .int (nI 0), .int p1] E (u_I I 99 (upd (I 99) 3 (nI 0))) J S _
  refine w_st (i' := 7) (ls' := [.ref 99, .int p1, .int p2]) (st' := [.int (nI 1), .int ((I 103) 4), .int (nI 0), .int p1]) (E' := E) (I' := (u_I I 99 (upd (I 99) 3 (nI 0)))) (J' := J) (S' := S) am_e256 rfl rfl rfl rfl ?_
  refine w_st (i' := 8) (ls' := [.ref 99, .int p1, .int p2]) (st' := [.int (((I 103) 4) - (nI 1)), .int (nI 0), .int p1]) (E' := E) (I' := (u_I I 99 (upd (I 99) 3 (nI 0)))) (J' := J) (S' := S) am_e256 rfl rfl rfl rfl ?_
  refine w_cI am_e256 rfl rfl (as := [.int p1, .int (nI 0), .int (((I 103) 4) - (nI 1))]) (rest := []) rfl rfl ?_
  show am_ww 232 0 [.int p1, .int (nI 0), .int (((I 103) 4) - (nI 1))] [] E (u_I I 99 (upd (I 99) 3 (nI 0))) J S _
  refine w_st (i' := 1) (ls' := [.int p1, .int (nI 0), .int (((I 103) 4) - (nI 1))]) (st' := [.int p1]) (E' := E) (I' := (u_I I 99 (upd (I 99) 3 (nI 0)))) (J' := J) (S' := S) am_e232 rfl rfl rfl rfl ?_
  refine w_st (i' := 2) (ls' := [.int p1, .int (nI 0), .int (((I 103) 4) - (nI 1))]) (st' := [.int (nI 0), .int p1]) (E' := E) (I' := (u_I I 99 (upd (I 99) 3 (nI 0)))) (J' := J) (S' := S) am_e232 rfl rfl rfl rfl ?_
  refine w_if2 am_e232 rfl rfl (fun c => ?_) (fun c => ?_)
  · replace h := h.1 (of_decide_eq_true c)
    refine w_st (i' := 9) (ls' := [.int p1, .int (nI 0), .int (((I 103) 4) - (nI 1))]) (st' := [.int (nI 0)]) (E' := E) (I' := (u_I I 99 (upd (I 99) 3 (nI 0)))) (J' := J) (S' := S) am_e232 rfl rfl rfl rfl ?_
    refine w_end (E' := E) (I' := (u_I I 99 (upd (I 99) 3 (nI 0)))) (J' := J) (S' := S) am_e232 rfl rfl rfl (q_mkI ?_)
    show am_ww 256 9 [.ref 99, .int p1, .int p2] [.int (nI 0)] E (u_I I 99 (upd (I 99) 3 (nI 0))) J S _
    refine w_st (i' := 22) (ls' := [.ref 99, .int p1, .int p2]) (st' := []) (E' := E) (I' := (u_I I 99 (upd (I 99) 3 (nI 0)))) (J' := J) (S' := S) am_e256 rfl rfl rfl rfl ?_
    refine w_st (i' := 23) (ls' := [.ref 99, .int p1, .int p2]) (st' := [.int (nI 0)]) (E' := E) (I' := (u_I I 99 (upd (I 99) 3 (nI 0)))) (J' := J) (S' := S) am_e256 rfl rfl rfl rfl ?_
    refine w_end (E' := E) (I' := (u_I I 99 (upd (I 99) 3 (nI 0)))) (J' := J) (S' := S) am_e256 rfl rfl rfl (q_mkI ?_)
    show am_ww 257 7 [.ref 99, .int p1, .int p2, am_U] [.int (nI 0)] E (u_I I 99 (upd (I 99) 3 (nI 0))) J S _
    refine w_st (i' := 8) (ls' := [.ref 99, .int p1, .int p2, am_U]) (st' := []) (E' := E) (I' := (u_I I 99 (upd (I 99) 3 (nI 0)))) (J' := J) (S' := S) am_e257 rfl rfl rfl rfl ?_
    refine w_st (i' := 9) (ls' := [.ref 99, .int p1, .int p2, am_U]) (st' := [.ref 99]) (E' := E) (I' := (u_I I 99 (upd (I 99) 3 (nI 0)))) (J' := J) (S' := S) am_e257 rfl rfl rfl rfl ?_
    refine w_st (i' := 10) (ls' := [.ref 99, .int p1, .int p2, am_U]) (st' := [.int (nI 1), .ref 99]) (E' := E) (I' := (u_I I 99 (upd (I 99) 3 (nI 0)))) (J' := J) (S' := S) am_e257 rfl rfl rfl rfl ?_
    refine w_cI am_e257 rfl rfl (as := [.ref 99, .int (nI 1)]) (rest := []) rfl rfl ?_
    show am_ww 189 0 [.ref 99, .int (nI 1)] [] E (u_I I 99 (upd (I 99) 3 (nI 0))) J S _
    refine w_st (i' := 1) (ls' := [.ref 99, .int (nI 1)]) (st' := [.ref 99]) (E' := E) (I' := (u_I I 99 (upd (I 99) 3 (nI 0)))) (J' := J) (S' := S) am_e189 rfl rfl rfl rfl ?_
    refine w_st (i' := 2) (ls' := [.ref 99, .int (nI 1)]) (st' := [.int (nI 1), .ref 99]) (E' := E) (I' := (u_I I 99 (upd (I 99) 3 (nI 0)))) (J' := J) (S' := S) am_e189 rfl rfl rfl rfl ?_
    refine w_st (i' := 3) (ls' := [.ref 99, .int (nI 1)]) (st' := []) (E' := E) (I' := (u_I (u_I I 99 (upd (I 99) 3 (nI 0))) 99 (upd (upd (I 99) 3 (nI 0)) 3 (nI 1)))) (J' := J) (S' := S) am_e189 rfl rfl rfl rfl ?_
    refine w_eI (uI_0 ..) ?_
    show am_ww 189 3 [.ref 99, .int (nI 1)] [] E (u_I I 99 (upd (upd (I 99) 3 (nI 0)) 3 (nI 1))) J S _
    refine w_st (i' := 4) (ls' := [.ref 99, .int (nI 1)]) (st' := [.int (nI 0)]) (E' := E) (I' := (u_I I 99 (upd (upd (I 99) 3 (nI 0)) 3 (nI 1)))) (J' := J) (S' := S) am_e189 rfl rfl rfl rfl ?_
    refine w_end (E' := E) (I' := (u_I I 99 (upd (upd (I 99) 3 (nI 0)) 3 (nI 1)))) (J' := J) (S' := S) am_e189 rfl rfl rfl (q_mkI ?_)
    show am_ww 257 11 [.ref 99, .int p1, .int p2, am_U] [.int (nI 0)] E (u_I I 99 (upd (upd (I 99) 3 (nI 0)) 3 (nI 1))) J S _
    exact w_end am_e257 rfl rfl rfl h
  · replace h := h.2 (of_decide_eq_false c)
    refine w_st (i' := 4) (ls' := [.int p1, .int (nI 0), .int (((I 103) 4) - (nI 1))]) (st' := [.int p1]) (E' := E) (I' := (u_I I 99 (upd (I 99) 3 (nI 0)))) (J' := J) (S' := S) am_e232 rfl rfl rfl rfl ?_
    refine w_st (i' := 5) (ls' := [.int p1, .int (nI 0), .int (((I 103) 4) - (nI 1))]) (st' := [.int (((I 103) 4) - (nI 1)), .int p1]) (E' := E) (I' := (u_I I 99 (upd (I 99) 3 (nI 0)))) (J' := J) (S' := S) am_e232 rfl rfl rfl rfl ?_
    refine w_if2 am_e232 rfl rfl (fun c => ?_) (fun c => ?_)
    · replace h := h.1 (of_decide_eq_true c)
      refine w_st (i' := 9) (ls' := [.int p1, .int (nI 0), .int (((I 103) 4) - (nI 1))]) (st' := [.int (nI 0)]) (E' := E) (I' := (u_I I 99 (upd (I 99) 3 (nI 0)))) (J' := J) (S' := S) am_e232 rfl rfl rfl rfl ?_
      refine w_end (E' := E) (I' := (u_I I 99 (upd (I 99) 3 (nI 0)))) (J' := J) (S' := S) am_e232 rfl rfl rfl (q_mkI ?_)
      show am_ww 256 9 [.ref 99, .int p1, .int p2] [.int (nI 0)] E (u_I I 99 (upd (I 99) 3 (nI 0))) J S _
      refine w_st (i' := 22) (ls' := [.ref 99, .int p1, .int p2]) (st' := []) (E' := E) (I' := (u_I I 99 (upd (I 99) 3 (nI 0)))) (J' := J) (S' := S) am_e256 rfl rfl rfl rfl ?_
      refine w_st (i' := 23) (ls' := [.ref 99, .int p1, .int p2]) (st' := [.int (nI 0)]) (E' := E) (I' := (u_I I 99 (upd (I 99) 3 (nI 0)))) (J' := J) (S' := S) am_e256 rfl rfl rfl rfl ?_
      refine w_end (E' := E) (I' := (u_I I 99 (upd (I 99) 3 (nI 0)))) (J' := J) (S' := S) am_e256 rfl rfl rfl (q_mkI ?_)
      show am_ww 257 7 [.ref 99, .int p1, .int p2, am_U] [.int (nI 0)] E (u_I I 99 (upd (I 99) 3 (nI 0))) J S _
      refine w_st (i' := 8) (ls' := [.ref 99, .int p1, .int p2, am_U]) (st' := []) (E' := E) (I' := (u_I I 99 (upd (I 99) 3 (nI 0)))) (J' := J) (S' := S) am_e257 rfl rfl rfl rfl ?_
      refine w_st (i' := 9) (ls' := [.ref 99, .int p1, .int p2, am_U]) (st' := [.ref 99]) (E' := E) (I' := (u_I I 99 (upd (I 99) 3 (nI 0)))) (J' := J) (S' := S) am_e257 rfl rfl rfl rfl ?_
      refine w_st (i' := 10) (ls' := [.ref 99, .int p1, .int p2, am_U]) (st' := [.int (nI 1), .ref 99]) (E' := E) (I' := (u_I I 99 (upd (I 99) 3 (nI 0)))) (J' := J) (S' := S) am_e257 rfl rfl rfl rfl ?_
      refine w_cI am_e257 rfl rfl (as := [.ref 99, .int (nI 1)]) (rest := []) rfl rfl ?_
      show am_ww 189 0 [.ref 99, .int (nI 1)] [] E (u_I I 99 (upd (I 99) 3 (nI 0))) J S _
      refine w_st (i' := 1) (ls' := [.ref 99, .int (nI 1)]) (st' := [.ref 99]) (E' := E) (I' := (u_I I 99 (upd (I 99) 3 (nI 0)))) (J' := J) (S' := S) am_e189 rfl rfl rfl rfl ?_
      refine w_st (i' := 2) (ls' := [.ref 99, .int (nI 1)]) (st' := [.int (nI 1), .ref 99]) (E' := E) (I' := (u_I I 99 (upd (I 99) 3 (nI 0)))) (J' := J) (S' := S) am_e189 rfl rfl rfl rfl ?_
      refine w_st (i' := 3) (ls' := [.ref 99, .int (nI 1)]) (st' := []) (E' := E) (I' := (u_I (u_I I 99 (upd (I 99) 3 (nI 0))) 99 (upd (upd (I 99) 3 (nI 0)) 3 (nI 1)))) (J' := J) (S' := S) am_e189 rfl rfl rfl rfl ?_
      refine w_eI (uI_0 ..) ?_
      show am_ww 189 3 [.ref 99, .int (nI 1)] [] E (u_I I 99 (upd (upd (I 99) 3 (nI 0)) 3 (nI 1))) J S _
      refine w_st (i' := 4) (ls' := [.ref 99, .int (nI 1)]) (st' := [.int (nI 0)]) (E' := E) (I' := (u_I I 99 (upd (upd (I 99) 3 (nI 0)) 3 (nI 1)))) (J' := J) (S' := S) am_e189 rfl rfl rfl rfl ?_
      refine w_end (E' := E) (I' := (u_I I 99 (upd (upd (I 99) 3 (nI 0)) 3 (nI 1)))) (J' := J) (S' := S) am_e189 rfl rfl rfl (q_mkI ?_)
      show am_ww 257 11 [.ref 99, .int p1, .int p2, am_U] [.int (nI 0)] E (u_I I 99 (upd (upd (I 99) 3 (nI 0)) 3 (nI 1))) J S _
      exact w_end am_e257 rfl rfl rfl h
    · replace h := h.2 (of_decide_eq_false c)
      refine w_st (i' := 7) (ls' := [.int p1, .int (nI 0), .int (((I 103) 4) - (nI 1))]) (st' := [.int (nI 1)]) (E' := E) (I' := (u_I I 99 (upd (I 99) 3 (nI 0)))) (J' := J) (S' := S) am_e232 rfl rfl rfl rfl ?_
      refine w_st (i' := 9) (ls' := [.int p1, .int (nI 0), .int (((I 103) 4) - (nI 1))]) (st' := [.int (nI 1)]) (E' := E) (I' := (u_I I 99 (upd (I 99) 3 (nI 0)))) (J' := J) (S' := S) am_e232 rfl rfl rfl rfl ?_
      refine w_end (E' := E) (I' := (u_I I 99 (upd (I 99) 3 (nI 0)))) (J' := J) (S' := S) am_e232 rfl rfl rfl (q_mkI ?_)
      show am_ww 256 9 [.ref 99, .int p1, .int p2] [.int (nI 1)] E (u_I I 99 (upd (I 99) 3 (nI 0))) J S _
      refine w_st (i' := 10) (ls' := [.ref 99, .int p1, .int p2]) (st' := []) (E' := E) (I' := (u_I I 99 (upd (I 99) 3 (nI 0)))) (J' := J) (S' := S) am_e256 rfl rfl rfl rfl ?_
      refine w_st (i' := 11) (ls' := [.ref 99, .int p1, .int p2]) (st' := [.int p2]) (E' := E) (I' := (u_I I 99 (upd (I 99) 3 (nI 0)))) (J' := J) (S' := S) am_e256 rfl rfl rfl rfl ?_
      refine w_st (i' := 12) (ls' := [.ref 99, .int p1, .int p2]) (st' := [.int (nI 0), .int p2]) (E' := E) (I' := (u_I I 99 (upd (I 99) 3 (nI 0)))) (J' := J) (S' := S) am_e256 rfl rfl rfl rfl ?_
      refine w_st (i' := 13) (ls' := [.ref 99, .int p1, .int p2]) (st' := [.ref 99, .int (nI 0), .int p2]) (E' := E) (I' := (u_I I 99 (upd (I 99) 3 (nI 0)))) (J' := J) (S' := S) am_e256 rfl rfl rfl rfl ?_
      refine w_st (i' := 14) (ls' := [.ref 99, .int p1, .int p2]) (st' := [.ref 105, .int (nI 0), .int p2]) (E' := E) (I' := (u_I I 99 (upd (I 99) 3 (nI 0)))) (J' := J) (S' := S) am_e256 rfl rfl rfl rfl ?_
      refine w_st (i' := 15) (ls' := [.ref 99, .int p1, .int p2]) (st' := [.int p1, .ref 105, .int (nI 0), .int p2]) (E' := E) (I' := (u_I I 99 (upd (I 99) 3 (nI 0)))) (J' := J) (S' := S) am_e256 rfl rfl rfl rfl ?_
      have hf1 := h.1
      replace h := h.2
      refine w_ia (k := 105) (n := 8) (jn := p1.toNatClampNeg) am_e256 rfl rfl (by decide) hf1 rfl ?_
      show am_ww 256 16 [.ref 99, .int p1, .int p2] [.int ((I 105) p1.toNatClampNeg), .int (nI 0), .int p2] E (u_I I 99 (upd (I 99) 3 (nI 0))) J S _
      refine w_st (i' := 17) (ls' := [.ref 99, .int p1, .int p2]) (st' := [.int (nI 1), .int ((I 105) p1.toNatClampNeg), .int (nI 0), .int p2]) (E' := E) (I' := (u_I I 99 (upd (I 99) 3 (nI 0)))) (J' := J) (S' := S) am_e256 rfl rfl rfl rfl ?_
      refine w_st (i' := 18) (ls' := [.ref 99, .int p1, .int p2]) (st' := [.int (((I 105) p1.toNatClampNeg) - (nI 1)), .int (nI 0), .int p2]) (E' := E) (I' := (u_I I 99 (upd (I 99) 3 (nI 0)))) (J' := J) (S' := S) am_e256 rfl rfl rfl rfl ?_
      refine w_cI am_e256 rfl rfl (as := [.int p2, .int (nI 0), .int (((I 105) p1.toNatClampNeg) - (nI 1))]) (rest := []) rfl rfl ?_
      show am_ww 232 0 [.int p2, .int (nI 0), .int (((I 105) p1.toNatClampNeg) - (nI 1))] [] E (u_I I 99 (upd (I 99) 3 (nI 0))) J S _
      refine w_var (fun w2 => am_ww 232 0 [.int p2, .int (nI 0), .int w2] [] E (u_I I 99 (upd (I 99) 3 (nI 0))) J S _) (((I 105) p1.toNatClampNeg) - (nI 1)) (fun w2 hw2 => ?_)
      replace h := h w2 hw2
      refine w_st (i' := 1) (ls' := [.int p2, .int (nI 0), .int w2]) (st' := [.int p2]) (E' := E) (I' := (u_I I 99 (upd (I 99) 3 (nI 0)))) (J' := J) (S' := S) am_e232 rfl rfl rfl rfl ?_
      refine w_st (i' := 2) (ls' := [.int p2, .int (nI 0), .int w2]) (st' := [.int (nI 0), .int p2]) (E' := E) (I' := (u_I I 99 (upd (I 99) 3 (nI 0)))) (J' := J) (S' := S) am_e232 rfl rfl rfl rfl ?_
      refine w_if2 am_e232 rfl rfl (fun c => ?_) (fun c => ?_)
      · replace h := h.1 (of_decide_eq_true c)
        refine w_st (i' := 9) (ls' := [.int p2, .int (nI 0), .int w2]) (st' := [.int (nI 0)]) (E' := E) (I' := (u_I I 99 (upd (I 99) 3 (nI 0)))) (J' := J) (S' := S) am_e232 rfl rfl rfl rfl ?_
        refine w_end (E' := E) (I' := (u_I I 99 (upd (I 99) 3 (nI 0)))) (J' := J) (S' := S) am_e232 rfl rfl rfl (q_mkI ?_)
        show am_ww 256 19 [.ref 99, .int p1, .int p2] [.int (nI 0)] E (u_I I 99 (upd (I 99) 3 (nI 0))) J S _
        refine w_st (i' := 22) (ls' := [.ref 99, .int p1, .int p2]) (st' := []) (E' := E) (I' := (u_I I 99 (upd (I 99) 3 (nI 0)))) (J' := J) (S' := S) am_e256 rfl rfl rfl rfl ?_
        refine w_st (i' := 23) (ls' := [.ref 99, .int p1, .int p2]) (st' := [.int (nI 0)]) (E' := E) (I' := (u_I I 99 (upd (I 99) 3 (nI 0)))) (J' := J) (S' := S) am_e256 rfl rfl rfl rfl ?_
        refine w_end (E' := E) (I' := (u_I I 99 (upd (I 99) 3 (nI 0)))) (J' := J) (S' := S) am_e256 rfl rfl rfl (q_mkI ?_)
        show am_ww 257 7 [.ref 99, .int p1, .int p2, am_U] [.int (nI 0)] E (u_I I 99 (upd (I 99) 3 (nI 0))) J S _
        refine w_st (i' := 8) (ls' := [.ref 99, .int p1, .int p2, am_U]) (st' := []) (E' := E) (I' := (u_I I 99 (upd (I 99) 3 (nI 0)))) (J' := J) (S' := S) am_e257 rfl rfl rfl rfl ?_
        refine w_st (i' := 9) (ls' := [.ref 99, .int p1, .int p2, am_U]) (st' := [.ref 99]) (E' := E) (I' := (u_I I 99 (upd (I 99) 3 (nI 0)))) (J' := J) (S' := S) am_e257 rfl rfl rfl rfl ?_
        refine w_st (i' := 10) (ls' := [.ref 99, .int p1, .int p2, am_U]) (st' := [.int (nI 1), .ref 99]) (E' := E) (I' := (u_I I 99 (upd (I 99) 3 (nI 0)))) (J' := J) (S' := S) am_e257 rfl rfl rfl rfl ?_
        refine w_cI am_e257 rfl rfl (as := [.ref 99, .int (nI 1)]) (rest := []) rfl rfl ?_
        show am_ww 189 0 [.ref 99, .int (nI 1)] [] E (u_I I 99 (upd (I 99) 3 (nI 0))) J S _
        refine w_st (i' := 1) (ls' := [.ref 99, .int (nI 1)]) (st' := [.ref 99]) (E' := E) (I' := (u_I I 99 (upd (I 99) 3 (nI 0)))) (J' := J) (S' := S) am_e189 rfl rfl rfl rfl ?_
        refine w_st (i' := 2) (ls' := [.ref 99, .int (nI 1)]) (st' := [.int (nI 1), .ref 99]) (E' := E) (I' := (u_I I 99 (upd (I 99) 3 (nI 0)))) (J' := J) (S' := S) am_e189 rfl rfl rfl rfl ?_
        refine w_st (i' := 3) (ls' := [.ref 99, .int (nI 1)]) (st' := []) (E' := E) (I' := (u_I (u_I I 99 (upd (I 99) 3 (nI 0))) 99 (upd (upd (I 99) 3 (nI 0)) 3 (nI 1)))) (J' := J) (S' := S) am_e189 rfl rfl rfl rfl ?_
        refine w_eI (uI_0 ..) ?_
        show am_ww 189 3 [.ref 99, .int (nI 1)] [] E (u_I I 99 (upd (upd (I 99) 3 (nI 0)) 3 (nI 1))) J S _
        refine w_st (i' := 4) (ls' := [.ref 99, .int (nI 1)]) (st' := [.int (nI 0)]) (E' := E) (I' := (u_I I 99 (upd (upd (I 99) 3 (nI 0)) 3 (nI 1)))) (J' := J) (S' := S) am_e189 rfl rfl rfl rfl ?_
        refine w_end (E' := E) (I' := (u_I I 99 (upd (upd (I 99) 3 (nI 0)) 3 (nI 1)))) (J' := J) (S' := S) am_e189 rfl rfl rfl (q_mkI ?_)
        show am_ww 257 11 [.ref 99, .int p1, .int p2, am_U] [.int (nI 0)] E (u_I I 99 (upd (upd (I 99) 3 (nI 0)) 3 (nI 1))) J S _
        exact w_end am_e257 rfl rfl rfl h
      · replace h := h.2 (of_decide_eq_false c)
        refine w_st (i' := 4) (ls' := [.int p2, .int (nI 0), .int w2]) (st' := [.int p2]) (E' := E) (I' := (u_I I 99 (upd (I 99) 3 (nI 0)))) (J' := J) (S' := S) am_e232 rfl rfl rfl rfl ?_
        refine w_st (i' := 5) (ls' := [.int p2, .int (nI 0), .int w2]) (st' := [.int w2, .int p2]) (E' := E) (I' := (u_I I 99 (upd (I 99) 3 (nI 0)))) (J' := J) (S' := S) am_e232 rfl rfl rfl rfl ?_
        refine w_if2 am_e232 rfl rfl (fun c => ?_) (fun c => ?_)
        · replace h := h.1 (of_decide_eq_true c)
          refine w_st (i' := 9) (ls' := [.int p2, .int (nI 0), .int w2]) (st' := [.int (nI 0)]) (E' := E) (I' := (u_I I 99 (upd (I 99) 3 (nI 0)))) (J' := J) (S' := S) am_e232 rfl rfl rfl rfl ?_
          refine w_end (E' := E) (I' := (u_I I 99 (upd (I 99) 3 (nI 0)))) (J' := J) (S' := S) am_e232 rfl rfl rfl (q_mkI ?_)
          show am_ww 256 19 [.ref 99, .int p1, .int p2] [.int (nI 0)] E (u_I I 99 (upd (I 99) 3 (nI 0))) J S _
          refine w_st (i' := 22) (ls' := [.ref 99, .int p1, .int p2]) (st' := []) (E' := E) (I' := (u_I I 99 (upd (I 99) 3 (nI 0)))) (J' := J) (S' := S) am_e256 rfl rfl rfl rfl ?_
          refine w_st (i' := 23) (ls' := [.ref 99, .int p1, .int p2]) (st' := [.int (nI 0)]) (E' := E) (I' := (u_I I 99 (upd (I 99) 3 (nI 0)))) (J' := J) (S' := S) am_e256 rfl rfl rfl rfl ?_
          refine w_end (E' := E) (I' := (u_I I 99 (upd (I 99) 3 (nI 0)))) (J' := J) (S' := S) am_e256 rfl rfl rfl (q_mkI ?_)
          show am_ww 257 7 [.ref 99, .int p1, .int p2, am_U] [.int (nI 0)] E (u_I I 99 (upd (I 99) 3 (nI 0))) J S _
          refine w_st (i' := 8) (ls' := [.ref 99, .int p1, .int p2, am_U]) (st' := []) (E' := E) (I' := (u_I I 99 (upd (I 99) 3 (nI 0)))) (J' := J) (S' := S) am_e257 rfl rfl rfl rfl ?_
          refine w_st (i' := 9) (ls' := [.ref 99, .int p1, .int p2, am_U]) (st' := [.ref 99]) (E' := E) (I' := (u_I I 99 (upd (I 99) 3 (nI 0)))) (J' := J) (S' := S) am_e257 rfl rfl rfl rfl ?_
          refine w_st (i' := 10) (ls' := [.ref 99, .int p1, .int p2, am_U]) (st' := [.int (nI 1), .ref 99]) (E' := E) (I' := (u_I I 99 (upd (I 99) 3 (nI 0)))) (J' := J) (S' := S) am_e257 rfl rfl rfl rfl ?_
          refine w_cI am_e257 rfl rfl (as := [.ref 99, .int (nI 1)]) (rest := []) rfl rfl ?_
          show am_ww 189 0 [.ref 99, .int (nI 1)] [] E (u_I I 99 (upd (I 99) 3 (nI 0))) J S _
          refine w_st (i' := 1) (ls' := [.ref 99, .int (nI 1)]) (st' := [.ref 99]) (E' := E) (I' := (u_I I 99 (upd (I 99) 3 (nI 0)))) (J' := J) (S' := S) am_e189 rfl rfl rfl rfl ?_
          refine w_st (i' := 2) (ls' := [.ref 99, .int (nI 1)]) (st' := [.int (nI 1), .ref 99]) (E' := E) (I' := (u_I I 99 (upd (I 99) 3 (nI 0)))) (J' := J) (S' := S) am_e189 rfl rfl rfl rfl ?_
          refine w_st (i' := 3) (ls' := [.ref 99, .int (nI 1)]) (st' := []) (E' := E) (I' := (u_I (u_I I 99 (upd (I 99) 3 (nI 0))) 99 (upd (upd (I 99) 3 (nI 0)) 3 (nI 1)))) (J' := J) (S' := S) am_e189 rfl rfl rfl rfl ?_
          refine w_eI (uI_0 ..) ?_
          show am_ww 189 3 [.ref 99, .int (nI 1)] [] E (u_I I 99 (upd (upd (I 99) 3 (nI 0)) 3 (nI 1))) J S _
          refine w_st (i' := 4) (ls' := [.ref 99, .int (nI 1)]) (st' := [.int (nI 0)]) (E' := E) (I' := (u_I I 99 (upd (upd (I 99) 3 (nI 0)) 3 (nI 1)))) (J' := J) (S' := S) am_e189 rfl rfl rfl rfl ?_
          refine w_end (E' := E) (I' := (u_I I 99 (upd (upd (I 99) 3 (nI 0)) 3 (nI 1)))) (J' := J) (S' := S) am_e189 rfl rfl rfl (q_mkI ?_)
          show am_ww 257 11 [.ref 99, .int p1, .int p2, am_U] [.int (nI 0)] E (u_I I 99 (upd (upd (I 99) 3 (nI 0)) 3 (nI 1))) J S _
          exact w_end am_e257 rfl rfl rfl h
        · replace h := h.2 (of_decide_eq_false c)
          refine w_st (i' := 7) (ls' := [.int p2, .int (nI 0), .int w2]) (st' := [.int (nI 1)]) (E' := E) (I' := (u_I I 99 (upd (I 99) 3 (nI 0)))) (J' := J) (S' := S) am_e232 rfl rfl rfl rfl ?_
          refine w_st (i' := 9) (ls' := [.int p2, .int (nI 0), .int w2]) (st' := [.int (nI 1)]) (E' := E) (I' := (u_I I 99 (upd (I 99) 3 (nI 0)))) (J' := J) (S' := S) am_e232 rfl rfl rfl rfl ?_
          refine w_end (E' := E) (I' := (u_I I 99 (upd (I 99) 3 (nI 0)))) (J' := J) (S' := S) am_e232 rfl rfl rfl (q_mkI ?_)
          show am_ww 256 19 [.ref 99, .int p1, .int p2] [.int (nI 1)] E (u_I I 99 (upd (I 99) 3 (nI 0))) J S _
          refine w_st (i' := 20) (ls' := [.ref 99, .int p1, .int p2]) (st' := []) (E' := E) (I' := (u_I I 99 (upd (I 99) 3 (nI 0)))) (J' := J) (S' := S) am_e256 rfl rfl rfl rfl ?_
          refine w_st (i' := 21) (ls' := [.ref 99, .int p1, .int p2]) (st' := [.int (nI 1)]) (E' := E) (I' := (u_I I 99 (upd (I 99) 3 (nI 0)))) (J' := J) (S' := S) am_e256 rfl rfl rfl rfl ?_
          refine w_st (i' := 23) (ls' := [.ref 99, .int p1, .int p2]) (st' := [.int (nI 1)]) (E' := E) (I' := (u_I I 99 (upd (I 99) 3 (nI 0)))) (J' := J) (S' := S) am_e256 rfl rfl rfl rfl ?_
          refine w_end (E' := E) (I' := (u_I I 99 (upd (I 99) 3 (nI 0)))) (J' := J) (S' := S) am_e256 rfl rfl rfl (q_mkI ?_)
          show am_ww 257 7 [.ref 99, .int p1, .int p2, am_U] [.int (nI 1)] E (u_I I 99 (upd (I 99) 3 (nI 0))) J S _
          refine w_st (i' := 12) (ls' := [.ref 99, .int p1, .int p2, am_U]) (st' := []) (E' := E) (I' := (u_I I 99 (upd (I 99) 3 (nI 0)))) (J' := J) (S' := S) am_e257 rfl rfl rfl rfl ?_
          refine w_st (i' := 13) (ls' := [.ref 99, .int p1, .int p2, am_U]) (st' := [.ref 99]) (E' := E) (I' := (u_I I 99 (upd (I 99) 3 (nI 0)))) (J' := J) (S' := S) am_e257 rfl rfl rfl rfl ?_
          refine w_st (i' := 14) (ls' := [.ref 99, .int p1, .int p2, am_U]) (st' := [.int ((I 99) 13)]) (E' := E) (I' := (u_I I 99 (upd (I 99) 3 (nI 0)))) (J' := J) (S' := S) am_e257 rfl rfl rfl rfl ?_
          refine w_st (i' := 15) (ls' := [.ref 99, .int p1, .int p2, am_U]) (st' := [.int (nI 1), .int ((I 99) 13)]) (E' := E) (I' := (u_I I 99 (upd (I 99) 3 (nI 0)))) (J' := J) (S' := S) am_e257 rfl rfl rfl rfl ?_
          refine w_st (i' := 16) (ls' := [.ref 99, .int p1, .int p2, am_U]) (st' := [.int (((I 99) 13) + (nI 1))]) (E' := E) (I' := (u_I I 99 (upd (I 99) 3 (nI 0)))) (J' := J) (S' := S) am_e257 rfl rfl rfl rfl ?_
          refine w_st (i' := 17) (ls' := [.ref 99, .int p1, .int p2, .int (((I 99) 13) + (nI 1))]) (st' := []) (E' := E) (I' := (u_I I 99 (upd (I 99) 3 (nI 0)))) (J' := J) (S' := S) am_e257 rfl rfl rfl rfl ?_
          exact h
theorem g257_17 {x1 : Int32} {x2 : Int32} {x3 : Int32} {E : am_Ev} {I : Nat → Nat → Int32} {J : Nat → Nat → Int64} {S : Nat → Nat → Option Nat} {Q : am_Qt}  (h : (((I 99) 12) < x3 → (Q (.inl (some (.int (-1)))) E I J S)) ∧ (¬ ((I 99) 12) < x3 → (vp_in x3 401 ∧ ((((I 119) x3.toNatClampNeg) = (((nI 16) * x1) + x2) → (Q (.inl (some (.int x3))) E (u_I I 99 (upd (I 99) 13 x3)) J S)) ∧ (¬ ((I 119) x3.toNatClampNeg) = (((nI 16) * x1) + x2) → (am_ww 257 17 [.ref 99, .int x1, .int x2, .int (x3 + nI 1)] [] E I J S Q)))))) : am_ww 257 17 [.ref 99, .int x1, .int x2, .int x3] [] E I J S Q := by
  refine w_st (i' := 18) (ls' := [.ref 99, .int x1, .int x2, .int x3]) (st' := [.int x3]) (E' := E) (I' := I) (J' := J) (S' := S) am_e257 rfl rfl rfl rfl ?_
  refine w_st (i' := 19) (ls' := [.ref 99, .int x1, .int x2, .int x3]) (st' := [.ref 99, .int x3]) (E' := E) (I' := I) (J' := J) (S' := S) am_e257 rfl rfl rfl rfl ?_
  refine w_st (i' := 20) (ls' := [.ref 99, .int x1, .int x2, .int x3]) (st' := [.int ((I 99) 12), .int x3]) (E' := E) (I' := I) (J' := J) (S' := S) am_e257 rfl rfl rfl rfl ?_
  refine w_if2 am_e257 rfl rfl (fun c => ?_) (fun c => ?_)
  · replace h := h.1 (of_decide_eq_true c)
    refine w_st (i' := 40) (ls' := [.ref 99, .int x1, .int x2, .int x3]) (st' := [.int (-1)]) (E' := E) (I' := I) (J' := J) (S' := S) am_e257 rfl rfl rfl rfl ?_
    exact w_end am_e257 rfl rfl rfl h
  · replace h := h.2 (of_decide_eq_false c)
    refine w_st (i' := 22) (ls' := [.ref 99, .int x1, .int x2, .int x3]) (st' := [.ref 99]) (E' := E) (I' := I) (J' := J) (S' := S) am_e257 rfl rfl rfl rfl ?_
    refine w_st (i' := 23) (ls' := [.ref 99, .int x1, .int x2, .int x3]) (st' := [.ref 119]) (E' := E) (I' := I) (J' := J) (S' := S) am_e257 rfl rfl rfl rfl ?_
    refine w_st (i' := 24) (ls' := [.ref 99, .int x1, .int x2, .int x3]) (st' := [.int x3, .ref 119]) (E' := E) (I' := I) (J' := J) (S' := S) am_e257 rfl rfl rfl rfl ?_
    have hf1 := h.1
    replace h := h.2
    refine w_ia (k := 119) (n := 401) (jn := x3.toNatClampNeg) am_e257 rfl rfl (by decide) hf1 rfl ?_
    refine w_st (i' := 26) (ls' := [.ref 99, .int x1, .int x2, .int x3]) (st' := [.int (nI 16), .int ((I 119) x3.toNatClampNeg)]) (E' := E) (I' := I) (J' := J) (S' := S) am_e257 rfl rfl rfl rfl ?_
    refine w_st (i' := 27) (ls' := [.ref 99, .int x1, .int x2, .int x3]) (st' := [.int x1, .int (nI 16), .int ((I 119) x3.toNatClampNeg)]) (E' := E) (I' := I) (J' := J) (S' := S) am_e257 rfl rfl rfl rfl ?_
    refine w_st (i' := 28) (ls' := [.ref 99, .int x1, .int x2, .int x3]) (st' := [.int ((nI 16) * x1), .int ((I 119) x3.toNatClampNeg)]) (E' := E) (I' := I) (J' := J) (S' := S) am_e257 rfl rfl rfl rfl ?_
    refine w_st (i' := 29) (ls' := [.ref 99, .int x1, .int x2, .int x3]) (st' := [.int x2, .int ((nI 16) * x1), .int ((I 119) x3.toNatClampNeg)]) (E' := E) (I' := I) (J' := J) (S' := S) am_e257 rfl rfl rfl rfl ?_
    refine w_st (i' := 30) (ls' := [.ref 99, .int x1, .int x2, .int x3]) (st' := [.int (((nI 16) * x1) + x2), .int ((I 119) x3.toNatClampNeg)]) (E' := E) (I' := I) (J' := J) (S' := S) am_e257 rfl rfl rfl rfl ?_
    refine w_if2 am_e257 rfl rfl (fun c => ?_) (fun c => ?_)
    · replace h := h.1 (of_decide_eq_true c)
      refine w_st (i' := 33) (ls' := [.ref 99, .int x1, .int x2, .int x3]) (st' := [.ref 99]) (E' := E) (I' := I) (J' := J) (S' := S) am_e257 rfl rfl rfl rfl ?_
      refine w_st (i' := 34) (ls' := [.ref 99, .int x1, .int x2, .int x3]) (st' := [.int x3, .ref 99]) (E' := E) (I' := I) (J' := J) (S' := S) am_e257 rfl rfl rfl rfl ?_
      refine w_st (i' := 35) (ls' := [.ref 99, .int x1, .int x2, .int x3]) (st' := []) (E' := E) (I' := (u_I I 99 (upd (I 99) 13 x3))) (J' := J) (S' := S) am_e257 rfl rfl rfl rfl ?_
      refine w_st (i' := 36) (ls' := [.ref 99, .int x1, .int x2, .int x3]) (st' := [.int x3]) (E' := E) (I' := (u_I I 99 (upd (I 99) 13 x3))) (J' := J) (S' := S) am_e257 rfl rfl rfl rfl ?_
      exact w_ri am_e257 rfl rfl h
    · replace h := h.2 (of_decide_eq_false c)
      refine w_st (i' := 37) (ls' := [.ref 99, .int x1, .int x2, .int x3]) (st' := []) (E' := E) (I' := I) (J' := J) (S' := S) am_e257 rfl rfl rfl rfl ?_
      refine w_st (i' := 38) (ls' := [.ref 99, .int x1, .int x2, .int (x3 + nI 1)]) (st' := []) (E' := E) (I' := I) (J' := J) (S' := S) am_e257 rfl rfl rfl rfl ?_
      refine w_st (i' := 17) (ls' := [.ref 99, .int x1, .int x2, .int (x3 + nI 1)]) (st' := []) (E' := E) (I' := I) (J' := J) (S' := S) am_e257 rfl rfl rfl rfl ?_
      exact h
-- 259 lastOf
theorem g259_0 {p1 : Int32} {E : am_Ev} {I : Nat → Nat → Int32} {J : Nat → Nat → Int64} {S : Nat → Nat → Option Nat} {Q : am_Qt}  (h : am_ww 259 3 [.ref 99, .int p1, .int ((I 99) 13)] [] E I J S Q) : am_ww 259 0 [.ref 99, .int p1, am_U] [] E I J S Q := by
  refine w_st (i' := 1) (ls' := [.ref 99, .int p1, am_U]) (st' := [.ref 99]) (E' := E) (I' := I) (J' := J) (S' := S) am_e259 rfl rfl rfl rfl ?_
  refine w_st (i' := 2) (ls' := [.ref 99, .int p1, am_U]) (st' := [.int ((I 99) 13)]) (E' := E) (I' := I) (J' := J) (S' := S) am_e259 rfl rfl rfl rfl ?_
  refine w_st (i' := 3) (ls' := [.ref 99, .int p1, .int ((I 99) 13)]) (st' := []) (E' := E) (I' := I) (J' := J) (S' := S) am_e259 rfl rfl rfl rfl ?_
  exact h
theorem g259_3 {x1 : Int32} {x2 : Int32} {E : am_Ev} {I : Nat → Nat → Int32} {J : Nat → Nat → Int64} {S : Nat → Nat → Option Nat} {Q : am_Qt}  (h : (x2 ≤ 0 → (Q (.inl (some (.int (if x2 = 0 then (-1) else x2)))) E I J S)) ∧ (¬ x2 ≤ 0 → (vp_in x2 401 ∧ (vp_in ((I 119) x2.toNatClampNeg) 128 ∧ ((((I 106) (((I 119) x2.toNatClampNeg).toNatClampNeg)) = (nI 2) → ((((I 107) (((I 119) x2.toNatClampNeg).toNatClampNeg)) = x1 → (Q (.inl (some (.int (if x2 = 0 then (-1) else x2)))) E I J S)) ∧ (¬ ((I 107) (((I 119) x2.toNatClampNeg).toNatClampNeg)) = x1 → (am_ww 259 3 [.ref 99, .int x1, .int (x2 - nI 1)] [] E I J S Q)))) ∧ (¬ ((I 106) (((I 119) x2.toNatClampNeg).toNatClampNeg)) = (nI 2) → (am_ww 259 3 [.ref 99, .int x1, .int (x2 - nI 1)] [] E I J S Q))))))) : am_ww 259 3 [.ref 99, .int x1, .int x2] [] E I J S Q := by
  refine w_st (i' := 4) (ls' := [.ref 99, .int x1, .int x2]) (st' := [.int x2]) (E' := E) (I' := I) (J' := J) (S' := S) am_e259 rfl rfl rfl rfl ?_
  refine w_if1 am_e259 rfl rfl (fun c => ?_) (fun c => ?_)
  · replace h := h.1 (of_decide_eq_true c)
    refine w_st (i' := 13) (ls' := [.ref 99, .int x1, .int x2]) (st' := [.int x2]) (E' := E) (I' := I) (J' := J) (S' := S) am_e259 rfl rfl rfl rfl ?_
    refine w_mg (i := 17) (ls' := [.ref 99, .int x1, .int x2]) (st' := [.int (if x2 = 0 then (-1) else x2)]) (fun hm => ?_) ?_
    · clear h
      refine w_if1 am_e259 rfl rfl (fun c => ?_) (fun c => ?_)
      · have m1 : ¬ (x2 = 0) := (of_decide_eq_true c)
        refine w_st (i' := 17) (ls' := [.ref 99, .int x1, .int x2]) (st' := [.int x2]) (E' := E) (I' := I) (J' := J) (S' := S) am_e259 rfl rfl rfl rfl ?_
        first | exact hm | (simp only [if_neg m1] at hm; exact hm)
      · have m1 : x2 = 0 := (Decidable.not_not.mp (of_decide_eq_false c))
        refine w_st (i' := 15) (ls' := [.ref 99, .int x1, .int x2]) (st' := [.int (-1)]) (E' := E) (I' := I) (J' := J) (S' := S) am_e259 rfl rfl rfl rfl ?_
        refine w_st (i' := 17) (ls' := [.ref 99, .int x1, .int x2]) (st' := [.int (-1)]) (E' := E) (I' := I) (J' := J) (S' := S) am_e259 rfl rfl rfl rfl ?_
        first | exact hm | (simp only [if_pos m1] at hm; exact hm)
    exact w_ri am_e259 rfl rfl h
  · replace h := h.2 (of_decide_eq_false c)
    refine w_st (i' := 6) (ls' := [.ref 99, .int x1, .int x2]) (st' := [.ref 99]) (E' := E) (I' := I) (J' := J) (S' := S) am_e259 rfl rfl rfl rfl ?_
    refine w_st (i' := 7) (ls' := [.ref 99, .int x1, .int x2]) (st' := [.int x2, .ref 99]) (E' := E) (I' := I) (J' := J) (S' := S) am_e259 rfl rfl rfl rfl ?_
    refine w_st (i' := 8) (ls' := [.ref 99, .int x1, .int x2]) (st' := [.int x1, .int x2, .ref 99]) (E' := E) (I' := I) (J' := J) (S' := S) am_e259 rfl rfl rfl rfl ?_
    refine w_cI am_e259 rfl rfl (as := [.ref 99, .int x2, .int x1]) (rest := []) rfl rfl ?_
    show am_ww 260 0 [.ref 99, .int x2, .int x1] [] E I J S _
    refine w_st (i' := 1) (ls' := [.ref 99, .int x2, .int x1]) (st' := [.ref 99]) (E' := E) (I' := I) (J' := J) (S' := S) am_e260 rfl rfl rfl rfl ?_
    refine w_st (i' := 2) (ls' := [.ref 99, .int x2, .int x1]) (st' := [.ref 106]) (E' := E) (I' := I) (J' := J) (S' := S) am_e260 rfl rfl rfl rfl ?_
    refine w_st (i' := 3) (ls' := [.ref 99, .int x2, .int x1]) (st' := [.ref 99, .ref 106]) (E' := E) (I' := I) (J' := J) (S' := S) am_e260 rfl rfl rfl rfl ?_
    refine w_st (i' := 4) (ls' := [.ref 99, .int x2, .int x1]) (st' := [.ref 119, .ref 106]) (E' := E) (I' := I) (J' := J) (S' := S) am_e260 rfl rfl rfl rfl ?_
    refine w_st (i' := 5) (ls' := [.ref 99, .int x2, .int x1]) (st' := [.int x2, .ref 119, .ref 106]) (E' := E) (I' := I) (J' := J) (S' := S) am_e260 rfl rfl rfl rfl ?_
    have hf2 := h.1
    replace h := h.2
    refine w_ia (k := 119) (n := 401) (jn := x2.toNatClampNeg) am_e260 rfl rfl (by decide) hf2 rfl ?_
    have hf3 := h.1
    replace h := h.2
    refine w_ia (k := 106) (n := 128) (jn := ((I 119) x2.toNatClampNeg).toNatClampNeg) am_e260 rfl rfl (by decide) hf3 rfl ?_
    refine w_st (i' := 8) (ls' := [.ref 99, .int x2, .int x1]) (st' := [.int (nI 2), .int ((I 106) (((I 119) x2.toNatClampNeg).toNatClampNeg))]) (E' := E) (I' := I) (J' := J) (S' := S) am_e260 rfl rfl rfl rfl ?_
    refine w_if2 am_e260 rfl rfl (fun c => ?_) (fun c => ?_)
    · replace h := h.2 (of_decide_eq_true c)
      refine w_st (i' := 21) (ls' := [.ref 99, .int x2, .int x1]) (st' := [.int (nI 0)]) (E' := E) (I' := I) (J' := J) (S' := S) am_e260 rfl rfl rfl rfl ?_
      refine w_end (E' := E) (I' := I) (J' := J) (S' := S) am_e260 rfl rfl rfl (q_mkI ?_)
      show am_ww 259 9 [.ref 99, .int x1, .int x2] [.int (nI 0)] E I J S _
      refine w_st (i' := 10) (ls' := [.ref 99, .int x1, .int x2]) (st' := []) (E' := E) (I' := I) (J' := J) (S' := S) am_e259 rfl rfl rfl rfl ?_
      refine w_st (i' := 11) (ls' := [.ref 99, .int x1, .int (x2 - nI 1)]) (st' := []) (E' := E) (I' := I) (J' := J) (S' := S) am_e259 rfl rfl rfl rfl ?_
      refine w_st (i' := 3) (ls' := [.ref 99, .int x1, .int (x2 - nI 1)]) (st' := []) (E' := E) (I' := I) (J' := J) (S' := S) am_e259 rfl rfl rfl rfl ?_
      exact h
    · replace h := h.1 (Decidable.not_not.mp (of_decide_eq_false c))
      refine w_st (i' := 10) (ls' := [.ref 99, .int x2, .int x1]) (st' := [.ref 99]) (E' := E) (I' := I) (J' := J) (S' := S) am_e260 rfl rfl rfl rfl ?_
      refine w_st (i' := 11) (ls' := [.ref 99, .int x2, .int x1]) (st' := [.ref 107]) (E' := E) (I' := I) (J' := J) (S' := S) am_e260 rfl rfl rfl rfl ?_
      refine w_st (i' := 12) (ls' := [.ref 99, .int x2, .int x1]) (st' := [.ref 99, .ref 107]) (E' := E) (I' := I) (J' := J) (S' := S) am_e260 rfl rfl rfl rfl ?_
      refine w_st (i' := 13) (ls' := [.ref 99, .int x2, .int x1]) (st' := [.ref 119, .ref 107]) (E' := E) (I' := I) (J' := J) (S' := S) am_e260 rfl rfl rfl rfl ?_
      refine w_st (i' := 14) (ls' := [.ref 99, .int x2, .int x1]) (st' := [.int x2, .ref 119, .ref 107]) (E' := E) (I' := I) (J' := J) (S' := S) am_e260 rfl rfl rfl rfl ?_
      refine w_ia (k := 119) (n := 401) (jn := x2.toNatClampNeg) am_e260 rfl rfl (by decide) hf2 rfl ?_
      refine w_ia (k := 107) (n := 128) (jn := ((I 119) x2.toNatClampNeg).toNatClampNeg) am_e260 rfl rfl (by decide) hf3 rfl ?_
      refine w_st (i' := 17) (ls' := [.ref 99, .int x2, .int x1]) (st' := [.int x1, .int ((I 107) (((I 119) x2.toNatClampNeg).toNatClampNeg))]) (E' := E) (I' := I) (J' := J) (S' := S) am_e260 rfl rfl rfl rfl ?_
      refine w_if2 am_e260 rfl rfl (fun c => ?_) (fun c => ?_)
      · replace h := h.2 (of_decide_eq_true c)
        refine w_st (i' := 21) (ls' := [.ref 99, .int x2, .int x1]) (st' := [.int (nI 0)]) (E' := E) (I' := I) (J' := J) (S' := S) am_e260 rfl rfl rfl rfl ?_
        refine w_end (E' := E) (I' := I) (J' := J) (S' := S) am_e260 rfl rfl rfl (q_mkI ?_)
        show am_ww 259 9 [.ref 99, .int x1, .int x2] [.int (nI 0)] E I J S _
        refine w_st (i' := 10) (ls' := [.ref 99, .int x1, .int x2]) (st' := []) (E' := E) (I' := I) (J' := J) (S' := S) am_e259 rfl rfl rfl rfl ?_
        refine w_st (i' := 11) (ls' := [.ref 99, .int x1, .int (x2 - nI 1)]) (st' := []) (E' := E) (I' := I) (J' := J) (S' := S) am_e259 rfl rfl rfl rfl ?_
        refine w_st (i' := 3) (ls' := [.ref 99, .int x1, .int (x2 - nI 1)]) (st' := []) (E' := E) (I' := I) (J' := J) (S' := S) am_e259 rfl rfl rfl rfl ?_
        exact h
      · replace h := h.1 (Decidable.not_not.mp (of_decide_eq_false c))
        refine w_st (i' := 19) (ls' := [.ref 99, .int x2, .int x1]) (st' := [.int (nI 1)]) (E' := E) (I' := I) (J' := J) (S' := S) am_e260 rfl rfl rfl rfl ?_
        refine w_st (i' := 21) (ls' := [.ref 99, .int x2, .int x1]) (st' := [.int (nI 1)]) (E' := E) (I' := I) (J' := J) (S' := S) am_e260 rfl rfl rfl rfl ?_
        refine w_end (E' := E) (I' := I) (J' := J) (S' := S) am_e260 rfl rfl rfl (q_mkI ?_)
        show am_ww 259 9 [.ref 99, .int x1, .int x2] [.int (nI 1)] E I J S _
        refine w_st (i' := 12) (ls' := [.ref 99, .int x1, .int x2]) (st' := []) (E' := E) (I' := I) (J' := J) (S' := S) am_e259 rfl rfl rfl rfl ?_
        refine w_st (i' := 13) (ls' := [.ref 99, .int x1, .int x2]) (st' := [.int x2]) (E' := E) (I' := I) (J' := J) (S' := S) am_e259 rfl rfl rfl rfl ?_
        refine w_mg (i := 17) (ls' := [.ref 99, .int x1, .int x2]) (st' := [.int (if x2 = 0 then (-1) else x2)]) (fun hm => ?_) ?_
        · clear h
          refine w_if1 am_e259 rfl rfl (fun c => ?_) (fun c => ?_)
          · have m4 : ¬ (x2 = 0) := (of_decide_eq_true c)
            refine w_st (i' := 17) (ls' := [.ref 99, .int x1, .int x2]) (st' := [.int x2]) (E' := E) (I' := I) (J' := J) (S' := S) am_e259 rfl rfl rfl rfl ?_
            first | exact hm | (simp only [if_neg m4] at hm; exact hm)
          · have m4 : x2 = 0 := (Decidable.not_not.mp (of_decide_eq_false c))
            refine w_st (i' := 15) (ls' := [.ref 99, .int x1, .int x2]) (st' := [.int (-1)]) (E' := E) (I' := I) (J' := J) (S' := S) am_e259 rfl rfl rfl rfl ?_
            refine w_st (i' := 17) (ls' := [.ref 99, .int x1, .int x2]) (st' := [.int (-1)]) (E' := E) (I' := I) (J' := J) (S' := S) am_e259 rfl rfl rfl rfl ?_
            first | exact hm | (simp only [if_pos m4] at hm; exact hm)
        exact w_ri am_e259 rfl rfl h
-- 258 last
theorem g258_0 {p1 : Int32} {p2 : Int32} {E : am_Ev} {I : Nat → Nat → Int32} {J : Nat → Nat → Int64} {S : Nat → Nat → Option Nat} {Q : am_Qt}  (h : (p1 < (nI 0) → (Q (.inl (some (.int (nI 0)))) E (u_I I 99 (upd (upd (I 99) 3 (nI 0)) 3 (nI 1))) J S)) ∧ (¬ p1 < (nI 0) → (((nI 15) < p1 → (Q (.inl (some (.int (nI 0)))) E (u_I I 99 (upd (upd (I 99) 3 (nI 0)) 3 (nI 1))) J S)) ∧ (¬ (nI 15) < p1 → ((p2 < (nI 0) → (Q (.inl (some (.int (nI 0)))) E (u_I I 99 (upd (upd (I 99) 3 (nI 0)) 3 (nI 1))) J S)) ∧ (¬ p2 < (nI 0) → (((nI 2) < p2 → (Q (.inl (some (.int (nI 0)))) E (u_I I 99 (upd (upd (I 99) 3 (nI 0)) 3 (nI 1))) J S)) ∧ (¬ (nI 2) < p2 → (am_cl 259 [.ref 99, .int p1] E (u_I I 99 (upd (I 99) 3 (nI 0))) J S (q_I fun v1 E1 I1 J1 S1 => ((v1 = (-1) → (True)) ∧ (¬ v1 = (-1) → ((p2 = 0 → (True)) ∧ (¬ p2 = 0 → ((p2 = (nI 1) → (vp_in v1 401 ∧ True)) ∧ (¬ p2 = (nI 1) → (vp_in v1 401 ∧ True))))))) ∧ (∀ w5 : Int32, w5 = (if v1 = (-1) then v1 else (if p2 = 0 then v1 else (if p2 = (nI 1) then ((I1 118) v1.toNatClampNeg) else (((I1 119) v1.toNatClampNeg) - ((I1 119) v1.toNatClampNeg) / (nI 16) * (nI 16))))) → (Q (.inl (some (.int w5))) E1 I1 J1 S1)))))))))))) : am_ww 258 0 [.ref 99, .int p1, .int p2, am_U] [] E I J S Q := by
  refine w_st (i' := 1) (ls' := [.ref 99, .int p1, .int p2, am_U]) (st' := [.ref 99]) (E' := E) (I' := I) (J' := J) (S' := S) am_e258 rfl rfl rfl rfl ?_
  refine w_st (i' := 2) (ls' := [.ref 99, .int p1, .int p2, am_U]) (st' := [.int (nI 0), .ref 99]) (E' := E) (I' := I) (J' := J) (S' := S) am_e258 rfl rfl rfl rfl ?_
  refine w_st (i' := 3) (ls' := [.ref 99, .int p1, .int p2, am_U]) (st' := []) (E' := E) (I' := (u_I I 99 (upd (I 99) 3 (nI 0)))) (J' := J) (S' := S) am_e258 rfl rfl rfl rfl ?_
  refine w_st (i' := 4) (ls' := [.ref 99, .int p1, .int p2, am_U]) (st' := [.int p1]) (E' := E) (I' := (u_I I 99 (upd (I 99) 3 (nI 0)))) (J' := J) (S' := S) am_e258 rfl rfl rfl rfl ?_
  refine w_st (i' := 5) (ls' := [.ref 99, .int p1, .int p2, am_U]) (st' := [.int (nI 0), .int p1]) (E' := E) (I' := (u_I I 99 (upd (I 99) 3 (nI 0)))) (J' := J) (S' := S) am_e258 rfl rfl rfl rfl ?_
  refine w_st (i' := 6) (ls' := [.ref 99, .int p1, .int p2, am_U]) (st' := [.int (nI 15), .int (nI 0), .int p1]) (E' := E) (I' := (u_I I 99 (upd (I 99) 3 (nI 0)))) (J' := J) (S' := S) am_e258 rfl rfl rfl rfl ?_
  refine w_cI am_e258 rfl rfl (as := [.int p1, .int (nI 0), .int (nI 15)]) (rest := []) rfl rfl ?_
  show am_ww 232 0 [.int p1, .int (nI 0), .int (nI 15)] [] E (u_I I 99 (upd (I 99) 3 (nI 0))) J S _
  refine w_st (i' := 1) (ls' := [.int p1, .int (nI 0), .int (nI 15)]) (st' := [.int p1]) (E' := E) (I' := (u_I I 99 (upd (I 99) 3 (nI 0)))) (J' := J) (S' := S) am_e232 rfl rfl rfl rfl ?_
  refine w_st (i' := 2) (ls' := [.int p1, .int (nI 0), .int (nI 15)]) (st' := [.int (nI 0), .int p1]) (E' := E) (I' := (u_I I 99 (upd (I 99) 3 (nI 0)))) (J' := J) (S' := S) am_e232 rfl rfl rfl rfl ?_
  refine w_if2 am_e232 rfl rfl (fun c => ?_) (fun c => ?_)
  · replace h := h.1 (of_decide_eq_true c)
    refine w_st (i' := 9) (ls' := [.int p1, .int (nI 0), .int (nI 15)]) (st' := [.int (nI 0)]) (E' := E) (I' := (u_I I 99 (upd (I 99) 3 (nI 0)))) (J' := J) (S' := S) am_e232 rfl rfl rfl rfl ?_
    refine w_end (E' := E) (I' := (u_I I 99 (upd (I 99) 3 (nI 0)))) (J' := J) (S' := S) am_e232 rfl rfl rfl (q_mkI ?_)
    show am_ww 258 7 [.ref 99, .int p1, .int p2, am_U] [.int (nI 0)] E (u_I I 99 (upd (I 99) 3 (nI 0))) J S _
    refine w_st (i' := 13) (ls' := [.ref 99, .int p1, .int p2, am_U]) (st' := []) (E' := E) (I' := (u_I I 99 (upd (I 99) 3 (nI 0)))) (J' := J) (S' := S) am_e258 rfl rfl rfl rfl ?_
    refine w_st (i' := 14) (ls' := [.ref 99, .int p1, .int p2, am_U]) (st' := [.ref 99]) (E' := E) (I' := (u_I I 99 (upd (I 99) 3 (nI 0)))) (J' := J) (S' := S) am_e258 rfl rfl rfl rfl ?_
    refine w_st (i' := 15) (ls' := [.ref 99, .int p1, .int p2, am_U]) (st' := [.int (nI 1), .ref 99]) (E' := E) (I' := (u_I I 99 (upd (I 99) 3 (nI 0)))) (J' := J) (S' := S) am_e258 rfl rfl rfl rfl ?_
    refine w_cI am_e258 rfl rfl (as := [.ref 99, .int (nI 1)]) (rest := []) rfl rfl ?_
    show am_ww 189 0 [.ref 99, .int (nI 1)] [] E (u_I I 99 (upd (I 99) 3 (nI 0))) J S _
    refine w_st (i' := 1) (ls' := [.ref 99, .int (nI 1)]) (st' := [.ref 99]) (E' := E) (I' := (u_I I 99 (upd (I 99) 3 (nI 0)))) (J' := J) (S' := S) am_e189 rfl rfl rfl rfl ?_
    refine w_st (i' := 2) (ls' := [.ref 99, .int (nI 1)]) (st' := [.int (nI 1), .ref 99]) (E' := E) (I' := (u_I I 99 (upd (I 99) 3 (nI 0)))) (J' := J) (S' := S) am_e189 rfl rfl rfl rfl ?_
    refine w_st (i' := 3) (ls' := [.ref 99, .int (nI 1)]) (st' := []) (E' := E) (I' := (u_I (u_I I 99 (upd (I 99) 3 (nI 0))) 99 (upd (upd (I 99) 3 (nI 0)) 3 (nI 1)))) (J' := J) (S' := S) am_e189 rfl rfl rfl rfl ?_
    refine w_eI (uI_0 ..) ?_
    show am_ww 189 3 [.ref 99, .int (nI 1)] [] E (u_I I 99 (upd (upd (I 99) 3 (nI 0)) 3 (nI 1))) J S _
    refine w_st (i' := 4) (ls' := [.ref 99, .int (nI 1)]) (st' := [.int (nI 0)]) (E' := E) (I' := (u_I I 99 (upd (upd (I 99) 3 (nI 0)) 3 (nI 1)))) (J' := J) (S' := S) am_e189 rfl rfl rfl rfl ?_
    refine w_end (E' := E) (I' := (u_I I 99 (upd (upd (I 99) 3 (nI 0)) 3 (nI 1)))) (J' := J) (S' := S) am_e189 rfl rfl rfl (q_mkI ?_)
    show am_ww 258 16 [.ref 99, .int p1, .int p2, am_U] [.int (nI 0)] E (u_I I 99 (upd (upd (I 99) 3 (nI 0)) 3 (nI 1))) J S _
    exact w_end am_e258 rfl rfl rfl h
  · replace h := h.2 (of_decide_eq_false c)
    refine w_st (i' := 4) (ls' := [.int p1, .int (nI 0), .int (nI 15)]) (st' := [.int p1]) (E' := E) (I' := (u_I I 99 (upd (I 99) 3 (nI 0)))) (J' := J) (S' := S) am_e232 rfl rfl rfl rfl ?_
    refine w_st (i' := 5) (ls' := [.int p1, .int (nI 0), .int (nI 15)]) (st' := [.int (nI 15), .int p1]) (E' := E) (I' := (u_I I 99 (upd (I 99) 3 (nI 0)))) (J' := J) (S' := S) am_e232 rfl rfl rfl rfl ?_
    refine w_if2 am_e232 rfl rfl (fun c => ?_) (fun c => ?_)
    · replace h := h.1 (of_decide_eq_true c)
      refine w_st (i' := 9) (ls' := [.int p1, .int (nI 0), .int (nI 15)]) (st' := [.int (nI 0)]) (E' := E) (I' := (u_I I 99 (upd (I 99) 3 (nI 0)))) (J' := J) (S' := S) am_e232 rfl rfl rfl rfl ?_
      refine w_end (E' := E) (I' := (u_I I 99 (upd (I 99) 3 (nI 0)))) (J' := J) (S' := S) am_e232 rfl rfl rfl (q_mkI ?_)
      show am_ww 258 7 [.ref 99, .int p1, .int p2, am_U] [.int (nI 0)] E (u_I I 99 (upd (I 99) 3 (nI 0))) J S _
      refine w_st (i' := 13) (ls' := [.ref 99, .int p1, .int p2, am_U]) (st' := []) (E' := E) (I' := (u_I I 99 (upd (I 99) 3 (nI 0)))) (J' := J) (S' := S) am_e258 rfl rfl rfl rfl ?_
      refine w_st (i' := 14) (ls' := [.ref 99, .int p1, .int p2, am_U]) (st' := [.ref 99]) (E' := E) (I' := (u_I I 99 (upd (I 99) 3 (nI 0)))) (J' := J) (S' := S) am_e258 rfl rfl rfl rfl ?_
      refine w_st (i' := 15) (ls' := [.ref 99, .int p1, .int p2, am_U]) (st' := [.int (nI 1), .ref 99]) (E' := E) (I' := (u_I I 99 (upd (I 99) 3 (nI 0)))) (J' := J) (S' := S) am_e258 rfl rfl rfl rfl ?_
      refine w_cI am_e258 rfl rfl (as := [.ref 99, .int (nI 1)]) (rest := []) rfl rfl ?_
      show am_ww 189 0 [.ref 99, .int (nI 1)] [] E (u_I I 99 (upd (I 99) 3 (nI 0))) J S _
      refine w_st (i' := 1) (ls' := [.ref 99, .int (nI 1)]) (st' := [.ref 99]) (E' := E) (I' := (u_I I 99 (upd (I 99) 3 (nI 0)))) (J' := J) (S' := S) am_e189 rfl rfl rfl rfl ?_
      refine w_st (i' := 2) (ls' := [.ref 99, .int (nI 1)]) (st' := [.int (nI 1), .ref 99]) (E' := E) (I' := (u_I I 99 (upd (I 99) 3 (nI 0)))) (J' := J) (S' := S) am_e189 rfl rfl rfl rfl ?_
      refine w_st (i' := 3) (ls' := [.ref 99, .int (nI 1)]) (st' := []) (E' := E) (I' := (u_I (u_I I 99 (upd (I 99) 3 (nI 0))) 99 (upd (upd (I 99) 3 (nI 0)) 3 (nI 1)))) (J' := J) (S' := S) am_e189 rfl rfl rfl rfl ?_
      refine w_eI (uI_0 ..) ?_
      show am_ww 189 3 [.ref 99, .int (nI 1)] [] E (u_I I 99 (upd (upd (I 99) 3 (nI 0)) 3 (nI 1))) J S _
      refine w_st (i' := 4) (ls' := [.ref 99, .int (nI 1)]) (st' := [.int (nI 0)]) (E' := E) (I' := (u_I I 99 (upd (upd (I 99) 3 (nI 0)) 3 (nI 1)))) (J' := J) (S' := S) am_e189 rfl rfl rfl rfl ?_
      refine w_end (E' := E) (I' := (u_I I 99 (upd (upd (I 99) 3 (nI 0)) 3 (nI 1)))) (J' := J) (S' := S) am_e189 rfl rfl rfl (q_mkI ?_)
      show am_ww 258 16 [.ref 99, .int p1, .int p2, am_U] [.int (nI 0)] E (u_I I 99 (upd (upd (I 99) 3 (nI 0)) 3 (nI 1))) J S _
      exact w_end am_e258 rfl rfl rfl h
    · replace h := h.2 (of_decide_eq_false c)
      refine w_st (i' := 7) (ls' := [.int p1, .int (nI 0), .int (nI 15)]) (st' := [.int (nI 1)]) (E' := E) (I' := (u_I I 99 (upd (I 99) 3 (nI 0)))) (J' := J) (S' := S) am_e232 rfl rfl rfl rfl ?_
      refine w_st (i' := 9) (ls' := [.int p1, .int (nI 0), .int (nI 15)]) (st' := [.int (nI 1)]) (E' := E) (I' := (u_I I 99 (upd (I 99) 3 (nI 0)))) (J' := J) (S' := S) am_e232 rfl rfl rfl rfl ?_
      refine w_end (E' := E) (I' := (u_I I 99 (upd (I 99) 3 (nI 0)))) (J' := J) (S' := S) am_e232 rfl rfl rfl (q_mkI ?_)
      show am_ww 258 7 [.ref 99, .int p1, .int p2, am_U] [.int (nI 1)] E (u_I I 99 (upd (I 99) 3 (nI 0))) J S _
      refine w_st (i' := 8) (ls' := [.ref 99, .int p1, .int p2, am_U]) (st' := []) (E' := E) (I' := (u_I I 99 (upd (I 99) 3 (nI 0)))) (J' := J) (S' := S) am_e258 rfl rfl rfl rfl ?_
      refine w_st (i' := 9) (ls' := [.ref 99, .int p1, .int p2, am_U]) (st' := [.int p2]) (E' := E) (I' := (u_I I 99 (upd (I 99) 3 (nI 0)))) (J' := J) (S' := S) am_e258 rfl rfl rfl rfl ?_
      refine w_st (i' := 10) (ls' := [.ref 99, .int p1, .int p2, am_U]) (st' := [.int (nI 0), .int p2]) (E' := E) (I' := (u_I I 99 (upd (I 99) 3 (nI 0)))) (J' := J) (S' := S) am_e258 rfl rfl rfl rfl ?_
      refine w_st (i' := 11) (ls' := [.ref 99, .int p1, .int p2, am_U]) (st' := [.int (nI 2), .int (nI 0), .int p2]) (E' := E) (I' := (u_I I 99 (upd (I 99) 3 (nI 0)))) (J' := J) (S' := S) am_e258 rfl rfl rfl rfl ?_
      refine w_cI am_e258 rfl rfl (as := [.int p2, .int (nI 0), .int (nI 2)]) (rest := []) rfl rfl ?_
      show am_ww 232 0 [.int p2, .int (nI 0), .int (nI 2)] [] E (u_I I 99 (upd (I 99) 3 (nI 0))) J S _
      refine w_st (i' := 1) (ls' := [.int p2, .int (nI 0), .int (nI 2)]) (st' := [.int p2]) (E' := E) (I' := (u_I I 99 (upd (I 99) 3 (nI 0)))) (J' := J) (S' := S) am_e232 rfl rfl rfl rfl ?_
      refine w_st (i' := 2) (ls' := [.int p2, .int (nI 0), .int (nI 2)]) (st' := [.int (nI 0), .int p2]) (E' := E) (I' := (u_I I 99 (upd (I 99) 3 (nI 0)))) (J' := J) (S' := S) am_e232 rfl rfl rfl rfl ?_
      refine w_if2 am_e232 rfl rfl (fun c => ?_) (fun c => ?_)
      · replace h := h.1 (of_decide_eq_true c)
        refine w_st (i' := 9) (ls' := [.int p2, .int (nI 0), .int (nI 2)]) (st' := [.int (nI 0)]) (E' := E) (I' := (u_I I 99 (upd (I 99) 3 (nI 0)))) (J' := J) (S' := S) am_e232 rfl rfl rfl rfl ?_
        refine w_end (E' := E) (I' := (u_I I 99 (upd (I 99) 3 (nI 0)))) (J' := J) (S' := S) am_e232 rfl rfl rfl (q_mkI ?_)
        show am_ww 258 12 [.ref 99, .int p1, .int p2, am_U] [.int (nI 0)] E (u_I I 99 (upd (I 99) 3 (nI 0))) J S _
        refine w_st (i' := 13) (ls' := [.ref 99, .int p1, .int p2, am_U]) (st' := []) (E' := E) (I' := (u_I I 99 (upd (I 99) 3 (nI 0)))) (J' := J) (S' := S) am_e258 rfl rfl rfl rfl ?_
        refine w_st (i' := 14) (ls' := [.ref 99, .int p1, .int p2, am_U]) (st' := [.ref 99]) (E' := E) (I' := (u_I I 99 (upd (I 99) 3 (nI 0)))) (J' := J) (S' := S) am_e258 rfl rfl rfl rfl ?_
        refine w_st (i' := 15) (ls' := [.ref 99, .int p1, .int p2, am_U]) (st' := [.int (nI 1), .ref 99]) (E' := E) (I' := (u_I I 99 (upd (I 99) 3 (nI 0)))) (J' := J) (S' := S) am_e258 rfl rfl rfl rfl ?_
        refine w_cI am_e258 rfl rfl (as := [.ref 99, .int (nI 1)]) (rest := []) rfl rfl ?_
        show am_ww 189 0 [.ref 99, .int (nI 1)] [] E (u_I I 99 (upd (I 99) 3 (nI 0))) J S _
        refine w_st (i' := 1) (ls' := [.ref 99, .int (nI 1)]) (st' := [.ref 99]) (E' := E) (I' := (u_I I 99 (upd (I 99) 3 (nI 0)))) (J' := J) (S' := S) am_e189 rfl rfl rfl rfl ?_
        refine w_st (i' := 2) (ls' := [.ref 99, .int (nI 1)]) (st' := [.int (nI 1), .ref 99]) (E' := E) (I' := (u_I I 99 (upd (I 99) 3 (nI 0)))) (J' := J) (S' := S) am_e189 rfl rfl rfl rfl ?_
        refine w_st (i' := 3) (ls' := [.ref 99, .int (nI 1)]) (st' := []) (E' := E) (I' := (u_I (u_I I 99 (upd (I 99) 3 (nI 0))) 99 (upd (upd (I 99) 3 (nI 0)) 3 (nI 1)))) (J' := J) (S' := S) am_e189 rfl rfl rfl rfl ?_
        refine w_eI (uI_0 ..) ?_
        show am_ww 189 3 [.ref 99, .int (nI 1)] [] E (u_I I 99 (upd (upd (I 99) 3 (nI 0)) 3 (nI 1))) J S _
        refine w_st (i' := 4) (ls' := [.ref 99, .int (nI 1)]) (st' := [.int (nI 0)]) (E' := E) (I' := (u_I I 99 (upd (upd (I 99) 3 (nI 0)) 3 (nI 1)))) (J' := J) (S' := S) am_e189 rfl rfl rfl rfl ?_
        refine w_end (E' := E) (I' := (u_I I 99 (upd (upd (I 99) 3 (nI 0)) 3 (nI 1)))) (J' := J) (S' := S) am_e189 rfl rfl rfl (q_mkI ?_)
        show am_ww 258 16 [.ref 99, .int p1, .int p2, am_U] [.int (nI 0)] E (u_I I 99 (upd (upd (I 99) 3 (nI 0)) 3 (nI 1))) J S _
        exact w_end am_e258 rfl rfl rfl h
      · replace h := h.2 (of_decide_eq_false c)
        refine w_st (i' := 4) (ls' := [.int p2, .int (nI 0), .int (nI 2)]) (st' := [.int p2]) (E' := E) (I' := (u_I I 99 (upd (I 99) 3 (nI 0)))) (J' := J) (S' := S) am_e232 rfl rfl rfl rfl ?_
        refine w_st (i' := 5) (ls' := [.int p2, .int (nI 0), .int (nI 2)]) (st' := [.int (nI 2), .int p2]) (E' := E) (I' := (u_I I 99 (upd (I 99) 3 (nI 0)))) (J' := J) (S' := S) am_e232 rfl rfl rfl rfl ?_
        refine w_if2 am_e232 rfl rfl (fun c => ?_) (fun c => ?_)
        · replace h := h.1 (of_decide_eq_true c)
          refine w_st (i' := 9) (ls' := [.int p2, .int (nI 0), .int (nI 2)]) (st' := [.int (nI 0)]) (E' := E) (I' := (u_I I 99 (upd (I 99) 3 (nI 0)))) (J' := J) (S' := S) am_e232 rfl rfl rfl rfl ?_
          refine w_end (E' := E) (I' := (u_I I 99 (upd (I 99) 3 (nI 0)))) (J' := J) (S' := S) am_e232 rfl rfl rfl (q_mkI ?_)
          show am_ww 258 12 [.ref 99, .int p1, .int p2, am_U] [.int (nI 0)] E (u_I I 99 (upd (I 99) 3 (nI 0))) J S _
          refine w_st (i' := 13) (ls' := [.ref 99, .int p1, .int p2, am_U]) (st' := []) (E' := E) (I' := (u_I I 99 (upd (I 99) 3 (nI 0)))) (J' := J) (S' := S) am_e258 rfl rfl rfl rfl ?_
          refine w_st (i' := 14) (ls' := [.ref 99, .int p1, .int p2, am_U]) (st' := [.ref 99]) (E' := E) (I' := (u_I I 99 (upd (I 99) 3 (nI 0)))) (J' := J) (S' := S) am_e258 rfl rfl rfl rfl ?_
          refine w_st (i' := 15) (ls' := [.ref 99, .int p1, .int p2, am_U]) (st' := [.int (nI 1), .ref 99]) (E' := E) (I' := (u_I I 99 (upd (I 99) 3 (nI 0)))) (J' := J) (S' := S) am_e258 rfl rfl rfl rfl ?_
          refine w_cI am_e258 rfl rfl (as := [.ref 99, .int (nI 1)]) (rest := []) rfl rfl ?_
          show am_ww 189 0 [.ref 99, .int (nI 1)] [] E (u_I I 99 (upd (I 99) 3 (nI 0))) J S _
          refine w_st (i' := 1) (ls' := [.ref 99, .int (nI 1)]) (st' := [.ref 99]) (E' := E) (I' := (u_I I 99 (upd (I 99) 3 (nI 0)))) (J' := J) (S' := S) am_e189 rfl rfl rfl rfl ?_
          refine w_st (i' := 2) (ls' := [.ref 99, .int (nI 1)]) (st' := [.int (nI 1), .ref 99]) (E' := E) (I' := (u_I I 99 (upd (I 99) 3 (nI 0)))) (J' := J) (S' := S) am_e189 rfl rfl rfl rfl ?_
          refine w_st (i' := 3) (ls' := [.ref 99, .int (nI 1)]) (st' := []) (E' := E) (I' := (u_I (u_I I 99 (upd (I 99) 3 (nI 0))) 99 (upd (upd (I 99) 3 (nI 0)) 3 (nI 1)))) (J' := J) (S' := S) am_e189 rfl rfl rfl rfl ?_
          refine w_eI (uI_0 ..) ?_
          show am_ww 189 3 [.ref 99, .int (nI 1)] [] E (u_I I 99 (upd (upd (I 99) 3 (nI 0)) 3 (nI 1))) J S _
          refine w_st (i' := 4) (ls' := [.ref 99, .int (nI 1)]) (st' := [.int (nI 0)]) (E' := E) (I' := (u_I I 99 (upd (upd (I 99) 3 (nI 0)) 3 (nI 1)))) (J' := J) (S' := S) am_e189 rfl rfl rfl rfl ?_
          refine w_end (E' := E) (I' := (u_I I 99 (upd (upd (I 99) 3 (nI 0)) 3 (nI 1)))) (J' := J) (S' := S) am_e189 rfl rfl rfl (q_mkI ?_)
          show am_ww 258 16 [.ref 99, .int p1, .int p2, am_U] [.int (nI 0)] E (u_I I 99 (upd (upd (I 99) 3 (nI 0)) 3 (nI 1))) J S _
          exact w_end am_e258 rfl rfl rfl h
        · replace h := h.2 (of_decide_eq_false c)
          refine w_st (i' := 7) (ls' := [.int p2, .int (nI 0), .int (nI 2)]) (st' := [.int (nI 1)]) (E' := E) (I' := (u_I I 99 (upd (I 99) 3 (nI 0)))) (J' := J) (S' := S) am_e232 rfl rfl rfl rfl ?_
          refine w_st (i' := 9) (ls' := [.int p2, .int (nI 0), .int (nI 2)]) (st' := [.int (nI 1)]) (E' := E) (I' := (u_I I 99 (upd (I 99) 3 (nI 0)))) (J' := J) (S' := S) am_e232 rfl rfl rfl rfl ?_
          refine w_end (E' := E) (I' := (u_I I 99 (upd (I 99) 3 (nI 0)))) (J' := J) (S' := S) am_e232 rfl rfl rfl (q_mkI ?_)
          show am_ww 258 12 [.ref 99, .int p1, .int p2, am_U] [.int (nI 1)] E (u_I I 99 (upd (I 99) 3 (nI 0))) J S _
          refine w_st (i' := 17) (ls' := [.ref 99, .int p1, .int p2, am_U]) (st' := []) (E' := E) (I' := (u_I I 99 (upd (I 99) 3 (nI 0)))) (J' := J) (S' := S) am_e258 rfl rfl rfl rfl ?_
          refine w_st (i' := 18) (ls' := [.ref 99, .int p1, .int p2, am_U]) (st' := [.ref 99]) (E' := E) (I' := (u_I I 99 (upd (I 99) 3 (nI 0)))) (J' := J) (S' := S) am_e258 rfl rfl rfl rfl ?_
          refine w_st (i' := 19) (ls' := [.ref 99, .int p1, .int p2, am_U]) (st' := [.int p1, .ref 99]) (E' := E) (I' := (u_I I 99 (upd (I 99) 3 (nI 0)))) (J' := J) (S' := S) am_e258 rfl rfl rfl rfl ?_
          refine w_cI am_e258 rfl rfl (as := [.ref 99, .int p1]) (rest := []) rfl rfl (am_ww.mono h ?_)
          rintro _ E1 I1 J1 S1 ⟨v1, rfl, h⟩
          refine q_mkI ?_
          refine w_st (i' := 21) (ls' := [.ref 99, .int p1, .int p2, .int v1]) (st' := []) (E' := E1) (I' := I1) (J' := J1) (S' := S1) am_e258 rfl rfl rfl rfl ?_
          refine w_st (i' := 22) (ls' := [.ref 99, .int p1, .int p2, .int v1]) (st' := [.int v1]) (E' := E1) (I' := I1) (J' := J1) (S' := S1) am_e258 rfl rfl rfl rfl ?_
          refine w_st (i' := 23) (ls' := [.ref 99, .int p1, .int p2, .int v1]) (st' := [.int (-1), .int v1]) (E' := E1) (I' := I1) (J' := J1) (S' := S1) am_e258 rfl rfl rfl rfl ?_
          refine w_mg (i := 42) (ls' := [.ref 99, .int p1, .int p2, .int v1]) (st' := [.int (if v1 = (-1) then v1 else (if p2 = 0 then v1 else (if p2 = (nI 1) then ((I1 118) v1.toNatClampNeg) else (((I1 119) v1.toNatClampNeg) - ((I1 119) v1.toNatClampNeg) / (nI 16) * (nI 16)))))]) (fun hm => ?_) ?_
          · replace h := h.1
            refine w_if2 am_e258 rfl rfl (fun c => ?_) (fun c => ?_)
            · have m2 : v1 = (-1) := (of_decide_eq_true c)
              replace h := h.1 m2
              refine w_st (i' := 27) (ls' := [.ref 99, .int p1, .int p2, .int v1]) (st' := [.int v1]) (E' := E1) (I' := I1) (J' := J1) (S' := S1) am_e258 rfl rfl rfl rfl ?_
              refine w_st (i' := 42) (ls' := [.ref 99, .int p1, .int p2, .int v1]) (st' := [.int v1]) (E' := E1) (I' := I1) (J' := J1) (S' := S1) am_e258 rfl rfl rfl rfl ?_
              first | exact hm | (simp only [if_pos m2] at hm; exact hm)
            · have m2 : ¬ (v1 = (-1)) := (of_decide_eq_false c)
              replace h := h.2 m2
              refine w_st (i' := 25) (ls' := [.ref 99, .int p1, .int p2, .int v1]) (st' := [.int p2]) (E' := E1) (I' := I1) (J' := J1) (S' := S1) am_e258 rfl rfl rfl rfl ?_
              refine w_if1 am_e258 rfl rfl (fun c => ?_) (fun c => ?_)
              · have m3 : ¬ (p2 = 0) := (of_decide_eq_true c)
                replace h := h.2 m3
                refine w_st (i' := 29) (ls' := [.ref 99, .int p1, .int p2, .int v1]) (st' := [.int p2]) (E' := E1) (I' := I1) (J' := J1) (S' := S1) am_e258 rfl rfl rfl rfl ?_
                refine w_st (i' := 30) (ls' := [.ref 99, .int p1, .int p2, .int v1]) (st' := [.int (nI 1), .int p2]) (E' := E1) (I' := I1) (J' := J1) (S' := S1) am_e258 rfl rfl rfl rfl ?_
                refine w_if2 am_e258 rfl rfl (fun c => ?_) (fun c => ?_)
                · have m4 : ¬ (p2 = (nI 1)) := (of_decide_eq_true c)
                  replace h := h.2 m4
                  refine w_st (i' := 37) (ls' := [.ref 99, .int p1, .int p2, .int v1]) (st' := [.ref 99]) (E' := E1) (I' := I1) (J' := J1) (S' := S1) am_e258 rfl rfl rfl rfl ?_
                  refine w_st (i' := 38) (ls' := [.ref 99, .int p1, .int p2, .int v1]) (st' := [.ref 119]) (E' := E1) (I' := I1) (J' := J1) (S' := S1) am_e258 rfl rfl rfl rfl ?_
                  refine w_st (i' := 39) (ls' := [.ref 99, .int p1, .int p2, .int v1]) (st' := [.int v1, .ref 119]) (E' := E1) (I' := I1) (J' := J1) (S' := S1) am_e258 rfl rfl rfl rfl ?_
                  refine w_ia (k := 119) (n := 401) (jn := v1.toNatClampNeg) am_e258 rfl rfl (by decide) h.1 rfl ?_
                  replace h := h.2
                  show am_ww 258 40 [.ref 99, .int p1, .int p2, .int v1] [.int ((I1 119) v1.toNatClampNeg)] E1 I1 J1 S1 _
                  refine w_st (i' := 41) (ls' := [.ref 99, .int p1, .int p2, .int v1]) (st' := [.int (nI 16), .int ((I1 119) v1.toNatClampNeg)]) (E' := E1) (I' := I1) (J' := J1) (S' := S1) am_e258 rfl rfl rfl rfl ?_
                  refine w_rm (by decide) am_e258 rfl ?_
                  first | exact hm | (simp only [if_neg m2, if_neg m3, if_neg m4] at hm; exact hm)
                · have m4 : p2 = (nI 1) := (Decidable.not_not.mp (of_decide_eq_false c))
                  replace h := h.1 m4
                  refine w_st (i' := 32) (ls' := [.ref 99, .int p1, .int p2, .int v1]) (st' := [.ref 99]) (E' := E1) (I' := I1) (J' := J1) (S' := S1) am_e258 rfl rfl rfl rfl ?_
                  refine w_st (i' := 33) (ls' := [.ref 99, .int p1, .int p2, .int v1]) (st' := [.ref 118]) (E' := E1) (I' := I1) (J' := J1) (S' := S1) am_e258 rfl rfl rfl rfl ?_
                  refine w_st (i' := 34) (ls' := [.ref 99, .int p1, .int p2, .int v1]) (st' := [.int v1, .ref 118]) (E' := E1) (I' := I1) (J' := J1) (S' := S1) am_e258 rfl rfl rfl rfl ?_
                  refine w_ia (k := 118) (n := 401) (jn := v1.toNatClampNeg) am_e258 rfl rfl (by decide) h.1 rfl ?_
                  replace h := h.2
                  show am_ww 258 35 [.ref 99, .int p1, .int p2, .int v1] [.int ((I1 118) v1.toNatClampNeg)] E1 I1 J1 S1 _
                  refine w_st (i' := 42) (ls' := [.ref 99, .int p1, .int p2, .int v1]) (st' := [.int ((I1 118) v1.toNatClampNeg)]) (E' := E1) (I' := I1) (J' := J1) (S' := S1) am_e258 rfl rfl rfl rfl ?_
                  first | exact hm | (simp only [if_neg m2, if_neg m3, if_pos m4] at hm; exact hm)
              · have m3 : p2 = 0 := (Decidable.not_not.mp (of_decide_eq_false c))
                replace h := h.1 m3
                refine w_st (i' := 27) (ls' := [.ref 99, .int p1, .int p2, .int v1]) (st' := [.int v1]) (E' := E1) (I' := I1) (J' := J1) (S' := S1) am_e258 rfl rfl rfl rfl ?_
                refine w_st (i' := 42) (ls' := [.ref 99, .int p1, .int p2, .int v1]) (st' := [.int v1]) (E' := E1) (I' := I1) (J' := J1) (S' := S1) am_e258 rfl rfl rfl rfl ?_
                first | exact hm | (simp only [if_neg m2, if_pos m3] at hm; exact hm)
          replace h := h.2
          refine w_var (fun w5 => am_ww 258 42 [.ref 99, .int p1, .int p2, .int v1] [.int w5] E1 I1 J1 S1 _) (if v1 = (-1) then v1 else (if p2 = 0 then v1 else (if p2 = (nI 1) then ((I1 118) v1.toNatClampNeg) else (((I1 119) v1.toNatClampNeg) - ((I1 119) v1.toNatClampNeg) / (nI 16) * (nI 16))))) (fun w5 hw5 => ?_)
          replace h := h w5 hw5
          exact w_ri am_e258 rfl rfl h
-- 261 held
theorem g261_0 {p1 : Int32} {E : am_Ev} {I : Nat → Nat → Int32} {J : Nat → Nat → Int64} {S : Nat → Nat → Option Nat} {Q : am_Qt}  (h : (p1 < (nI 0) → (am_ww 261 13 [.ref 99, .int p1, am_U] [.int (-1)] E (u_I I 99 (upd (I 99) 3 (nI 0))) J S Q)) ∧ (¬ p1 < (nI 0) → (((nI 15) < p1 → (am_ww 261 13 [.ref 99, .int p1, am_U] [.int (-1)] E (u_I I 99 (upd (I 99) 3 (nI 0))) J S Q)) ∧ (¬ (nI 15) < p1 → (am_cl 259 [.ref 99, .int p1] E (u_I I 99 (upd (I 99) 3 (nI 0))) J S (q_I fun v1 E1 I1 J1 S1 => am_ww 261 13 [.ref 99, .int p1, am_U] [.int v1] E1 I1 J1 S1 Q)))))) : am_ww 261 0 [.ref 99, .int p1, am_U] [] E I J S Q := by
  refine w_st (i' := 1) (ls' := [.ref 99, .int p1, am_U]) (st' := [.ref 99]) (E' := E) (I' := I) (J' := J) (S' := S) am_e261 rfl rfl rfl rfl ?_
  refine w_st (i' := 2) (ls' := [.ref 99, .int p1, am_U]) (st' := [.int (nI 0), .ref 99]) (E' := E) (I' := I) (J' := J) (S' := S) am_e261 rfl rfl rfl rfl ?_
  refine w_st (i' := 3) (ls' := [.ref 99, .int p1, am_U]) (st' := []) (E' := E) (I' := (u_I I 99 (upd (I 99) 3 (nI 0)))) (J' := J) (S' := S) am_e261 rfl rfl rfl rfl ?_
  refine w_st (i' := 4) (ls' := [.ref 99, .int p1, am_U]) (st' := [.int p1]) (E' := E) (I' := (u_I I 99 (upd (I 99) 3 (nI 0)))) (J' := J) (S' := S) am_e261 rfl rfl rfl rfl ?_
  refine w_st (i' := 5) (ls' := [.ref 99, .int p1, am_U]) (st' := [.int (nI 0), .int p1]) (E' := E) (I' := (u_I I 99 (upd (I 99) 3 (nI 0)))) (J' := J) (S' := S) am_e261 rfl rfl rfl rfl ?_
  refine w_st (i' := 6) (ls' := [.ref 99, .int p1, am_U]) (st' := [.int (nI 15), .int (nI 0), .int p1]) (E' := E) (I' := (u_I I 99 (upd (I 99) 3 (nI 0)))) (J' := J) (S' := S) am_e261 rfl rfl rfl rfl ?_
  refine w_cI am_e261 rfl rfl (as := [.int p1, .int (nI 0), .int (nI 15)]) (rest := []) rfl rfl ?_
  show am_ww 232 0 [.int p1, .int (nI 0), .int (nI 15)] [] E (u_I I 99 (upd (I 99) 3 (nI 0))) J S _
  refine w_st (i' := 1) (ls' := [.int p1, .int (nI 0), .int (nI 15)]) (st' := [.int p1]) (E' := E) (I' := (u_I I 99 (upd (I 99) 3 (nI 0)))) (J' := J) (S' := S) am_e232 rfl rfl rfl rfl ?_
  refine w_st (i' := 2) (ls' := [.int p1, .int (nI 0), .int (nI 15)]) (st' := [.int (nI 0), .int p1]) (E' := E) (I' := (u_I I 99 (upd (I 99) 3 (nI 0)))) (J' := J) (S' := S) am_e232 rfl rfl rfl rfl ?_
  refine w_if2 am_e232 rfl rfl (fun c => ?_) (fun c => ?_)
  · replace h := h.1 (of_decide_eq_true c)
    refine w_st (i' := 9) (ls' := [.int p1, .int (nI 0), .int (nI 15)]) (st' := [.int (nI 0)]) (E' := E) (I' := (u_I I 99 (upd (I 99) 3 (nI 0)))) (J' := J) (S' := S) am_e232 rfl rfl rfl rfl ?_
    refine w_end (E' := E) (I' := (u_I I 99 (upd (I 99) 3 (nI 0)))) (J' := J) (S' := S) am_e232 rfl rfl rfl (q_mkI ?_)
    show am_ww 261 7 [.ref 99, .int p1, am_U] [.int (nI 0)] E (u_I I 99 (upd (I 99) 3 (nI 0))) J S _
    refine w_st (i' := 12) (ls' := [.ref 99, .int p1, am_U]) (st' := []) (E' := E) (I' := (u_I I 99 (upd (I 99) 3 (nI 0)))) (J' := J) (S' := S) am_e261 rfl rfl rfl rfl ?_
    refine w_st (i' := 13) (ls' := [.ref 99, .int p1, am_U]) (st' := [.int (-1)]) (E' := E) (I' := (u_I I 99 (upd (I 99) 3 (nI 0)))) (J' := J) (S' := S) am_e261 rfl rfl rfl rfl ?_
    exact h
  · replace h := h.2 (of_decide_eq_false c)
    refine w_st (i' := 4) (ls' := [.int p1, .int (nI 0), .int (nI 15)]) (st' := [.int p1]) (E' := E) (I' := (u_I I 99 (upd (I 99) 3 (nI 0)))) (J' := J) (S' := S) am_e232 rfl rfl rfl rfl ?_
    refine w_st (i' := 5) (ls' := [.int p1, .int (nI 0), .int (nI 15)]) (st' := [.int (nI 15), .int p1]) (E' := E) (I' := (u_I I 99 (upd (I 99) 3 (nI 0)))) (J' := J) (S' := S) am_e232 rfl rfl rfl rfl ?_
    refine w_if2 am_e232 rfl rfl (fun c => ?_) (fun c => ?_)
    · replace h := h.1 (of_decide_eq_true c)
      refine w_st (i' := 9) (ls' := [.int p1, .int (nI 0), .int (nI 15)]) (st' := [.int (nI 0)]) (E' := E) (I' := (u_I I 99 (upd (I 99) 3 (nI 0)))) (J' := J) (S' := S) am_e232 rfl rfl rfl rfl ?_
      refine w_end (E' := E) (I' := (u_I I 99 (upd (I 99) 3 (nI 0)))) (J' := J) (S' := S) am_e232 rfl rfl rfl (q_mkI ?_)
      show am_ww 261 7 [.ref 99, .int p1, am_U] [.int (nI 0)] E (u_I I 99 (upd (I 99) 3 (nI 0))) J S _
      refine w_st (i' := 12) (ls' := [.ref 99, .int p1, am_U]) (st' := []) (E' := E) (I' := (u_I I 99 (upd (I 99) 3 (nI 0)))) (J' := J) (S' := S) am_e261 rfl rfl rfl rfl ?_
      refine w_st (i' := 13) (ls' := [.ref 99, .int p1, am_U]) (st' := [.int (-1)]) (E' := E) (I' := (u_I I 99 (upd (I 99) 3 (nI 0)))) (J' := J) (S' := S) am_e261 rfl rfl rfl rfl ?_
      exact h
    · replace h := h.2 (of_decide_eq_false c)
      refine w_st (i' := 7) (ls' := [.int p1, .int (nI 0), .int (nI 15)]) (st' := [.int (nI 1)]) (E' := E) (I' := (u_I I 99 (upd (I 99) 3 (nI 0)))) (J' := J) (S' := S) am_e232 rfl rfl rfl rfl ?_
      refine w_st (i' := 9) (ls' := [.int p1, .int (nI 0), .int (nI 15)]) (st' := [.int (nI 1)]) (E' := E) (I' := (u_I I 99 (upd (I 99) 3 (nI 0)))) (J' := J) (S' := S) am_e232 rfl rfl rfl rfl ?_
      refine w_end (E' := E) (I' := (u_I I 99 (upd (I 99) 3 (nI 0)))) (J' := J) (S' := S) am_e232 rfl rfl rfl (q_mkI ?_)
      show am_ww 261 7 [.ref 99, .int p1, am_U] [.int (nI 1)] E (u_I I 99 (upd (I 99) 3 (nI 0))) J S _
      refine w_st (i' := 8) (ls' := [.ref 99, .int p1, am_U]) (st' := []) (E' := E) (I' := (u_I I 99 (upd (I 99) 3 (nI 0)))) (J' := J) (S' := S) am_e261 rfl rfl rfl rfl ?_
      refine w_st (i' := 9) (ls' := [.ref 99, .int p1, am_U]) (st' := [.ref 99]) (E' := E) (I' := (u_I I 99 (upd (I 99) 3 (nI 0)))) (J' := J) (S' := S) am_e261 rfl rfl rfl rfl ?_
      refine w_st (i' := 10) (ls' := [.ref 99, .int p1, am_U]) (st' := [.int p1, .ref 99]) (E' := E) (I' := (u_I I 99 (upd (I 99) 3 (nI 0)))) (J' := J) (S' := S) am_e261 rfl rfl rfl rfl ?_
      refine w_cI am_e261 rfl rfl (as := [.ref 99, .int p1]) (rest := []) rfl rfl (am_ww.mono h ?_)
      rintro _ E1 I1 J1 S1 ⟨v1, rfl, h⟩
      refine q_mkI ?_
      refine w_st (i' := 13) (ls' := [.ref 99, .int p1, am_U]) (st' := [.int v1]) (E' := E1) (I' := I1) (J' := J1) (S' := S1) am_e261 rfl rfl rfl rfl ?_
      exact h
theorem g261_13 {x1 : Int32} {d2 : Value} {y0 : Int32} {E : am_Ev} {I : Nat → Nat → Int32} {J : Nat → Nat → Int64} {S : Nat → Nat → Option Nat} {Q : am_Qt} (hd2 : am_isL d2 = false) (h : (y0 = (-1) → (Q (.inl (some (.int (nI 0)))) E (u_I I 99 (upd (I 99) 3 (nI 1))) J S)) ∧ (¬ y0 = (-1) → (vp_in (((nI 51) * (y0 - (nI 1))) + x1) 20451 ∧ (∀ w2 : Int32, w2 = ((I 117) ((((nI 51) * (y0 - (nI 1))) + x1).toNatClampNeg)) → (Q (.inl (some (.int w2))) E I J S))))) : am_ww 261 13 [.ref 99, .int x1, d2] [.int y0] E I J S Q := by
  refine w_st (i' := 14) (ls' := [.ref 99, .int x1, .int y0]) (st' := []) (E' := E) (I' := I) (J' := J) (S' := S) am_e261 rfl rfl rfl rfl ?_
  refine w_st (i' := 15) (ls' := [.ref 99, .int x1, .int y0]) (st' := [.int y0]) (E' := E) (I' := I) (J' := J) (S' := S) am_e261 rfl rfl rfl rfl ?_
  refine w_st (i' := 16) (ls' := [.ref 99, .int x1, .int y0]) (st' := [.int (-1), .int y0]) (E' := E) (I' := I) (J' := J) (S' := S) am_e261 rfl rfl rfl rfl ?_
  refine w_if2 am_e261 rfl rfl (fun c => ?_) (fun c => ?_)
  · replace h := h.2 (of_decide_eq_true c)
    refine w_st (i' := 22) (ls' := [.ref 99, .int x1, .int y0]) (st' := [.ref 99]) (E' := E) (I' := I) (J' := J) (S' := S) am_e261 rfl rfl rfl rfl ?_
    refine w_st (i' := 23) (ls' := [.ref 99, .int x1, .int y0]) (st' := [.int y0, .ref 99]) (E' := E) (I' := I) (J' := J) (S' := S) am_e261 rfl rfl rfl rfl ?_
    refine w_st (i' := 24) (ls' := [.ref 99, .int x1, .int y0]) (st' := [.int (nI 1), .int y0, .ref 99]) (E' := E) (I' := I) (J' := J) (S' := S) am_e261 rfl rfl rfl rfl ?_
    refine w_st (i' := 25) (ls' := [.ref 99, .int x1, .int y0]) (st' := [.int (y0 - (nI 1)), .ref 99]) (E' := E) (I' := I) (J' := J) (S' := S) am_e261 rfl rfl rfl rfl ?_
    refine w_st (i' := 26) (ls' := [.ref 99, .int x1, .int y0]) (st' := [.int x1, .int (y0 - (nI 1)), .ref 99]) (E' := E) (I' := I) (J' := J) (S' := S) am_e261 rfl rfl rfl rfl ?_
    refine w_cI am_e261 rfl rfl (as := [.ref 99, .int (y0 - (nI 1)), .int x1]) (rest := []) rfl rfl ?_
    show am_ww 245 0 [.ref 99, .int (y0 - (nI 1)), .int x1] [] E I J S _
    refine w_st (i' := 1) (ls' := [.ref 99, .int (y0 - (nI 1)), .int x1]) (st' := [.ref 99]) (E' := E) (I' := I) (J' := J) (S' := S) am_e245 rfl rfl rfl rfl ?_
    refine w_st (i' := 2) (ls' := [.ref 99, .int (y0 - (nI 1)), .int x1]) (st' := [.ref 117]) (E' := E) (I' := I) (J' := J) (S' := S) am_e245 rfl rfl rfl rfl ?_
    refine w_st (i' := 3) (ls' := [.ref 99, .int (y0 - (nI 1)), .int x1]) (st' := [.int (nI 51), .ref 117]) (E' := E) (I' := I) (J' := J) (S' := S) am_e245 rfl rfl rfl rfl ?_
    refine w_st (i' := 4) (ls' := [.ref 99, .int (y0 - (nI 1)), .int x1]) (st' := [.int (y0 - (nI 1)), .int (nI 51), .ref 117]) (E' := E) (I' := I) (J' := J) (S' := S) am_e245 rfl rfl rfl rfl ?_
    refine w_st (i' := 5) (ls' := [.ref 99, .int (y0 - (nI 1)), .int x1]) (st' := [.int ((nI 51) * (y0 - (nI 1))), .ref 117]) (E' := E) (I' := I) (J' := J) (S' := S) am_e245 rfl rfl rfl rfl ?_
    refine w_st (i' := 6) (ls' := [.ref 99, .int (y0 - (nI 1)), .int x1]) (st' := [.int x1, .int ((nI 51) * (y0 - (nI 1))), .ref 117]) (E' := E) (I' := I) (J' := J) (S' := S) am_e245 rfl rfl rfl rfl ?_
    refine w_st (i' := 7) (ls' := [.ref 99, .int (y0 - (nI 1)), .int x1]) (st' := [.int (((nI 51) * (y0 - (nI 1))) + x1), .ref 117]) (E' := E) (I' := I) (J' := J) (S' := S) am_e245 rfl rfl rfl rfl ?_
    have hf1 := h.1
    replace h := h.2
    refine w_ia (k := 117) (n := 20451) (jn := (((nI 51) * (y0 - (nI 1))) + x1).toNatClampNeg) am_e245 rfl rfl (by decide) hf1 rfl ?_
    refine w_ri am_e245 rfl rfl (q_mkI ?_)
    show am_ww 261 27 [.ref 99, .int x1, .int y0] [.int ((I 117) ((((nI 51) * (y0 - (nI 1))) + x1).toNatClampNeg))] E I J S _
    refine w_var (fun w2 => am_ww 261 27 [.ref 99, .int x1, .int y0] [.int w2] E I J S _) ((I 117) ((((nI 51) * (y0 - (nI 1))) + x1).toNatClampNeg)) (fun w2 hw2 => ?_)
    replace h := h w2 hw2
    exact w_ri am_e261 rfl rfl h
  · replace h := h.1 (Decidable.not_not.mp (of_decide_eq_false c))
    refine w_st (i' := 18) (ls' := [.ref 99, .int x1, .int y0]) (st' := [.ref 99]) (E' := E) (I' := I) (J' := J) (S' := S) am_e261 rfl rfl rfl rfl ?_
    refine w_st (i' := 19) (ls' := [.ref 99, .int x1, .int y0]) (st' := [.int (nI 1), .ref 99]) (E' := E) (I' := I) (J' := J) (S' := S) am_e261 rfl rfl rfl rfl ?_
    refine w_cI am_e261 rfl rfl (as := [.ref 99, .int (nI 1)]) (rest := []) rfl rfl ?_
    show am_ww 189 0 [.ref 99, .int (nI 1)] [] E I J S _
    refine w_st (i' := 1) (ls' := [.ref 99, .int (nI 1)]) (st' := [.ref 99]) (E' := E) (I' := I) (J' := J) (S' := S) am_e189 rfl rfl rfl rfl ?_
    refine w_st (i' := 2) (ls' := [.ref 99, .int (nI 1)]) (st' := [.int (nI 1), .ref 99]) (E' := E) (I' := I) (J' := J) (S' := S) am_e189 rfl rfl rfl rfl ?_
    refine w_st (i' := 3) (ls' := [.ref 99, .int (nI 1)]) (st' := []) (E' := E) (I' := (u_I I 99 (upd (I 99) 3 (nI 1)))) (J' := J) (S' := S) am_e189 rfl rfl rfl rfl ?_
    refine w_st (i' := 4) (ls' := [.ref 99, .int (nI 1)]) (st' := [.int (nI 0)]) (E' := E) (I' := (u_I I 99 (upd (I 99) 3 (nI 1)))) (J' := J) (S' := S) am_e189 rfl rfl rfl rfl ?_
    refine w_end (E' := E) (I' := (u_I I 99 (upd (I 99) 3 (nI 1)))) (J' := J) (S' := S) am_e189 rfl rfl rfl (q_mkI ?_)
    show am_ww 261 20 [.ref 99, .int x1, .int y0] [.int (nI 0)] E (u_I I 99 (upd (I 99) 3 (nI 1))) J S _
    refine w_st (i' := 27) (ls' := [.ref 99, .int x1, .int y0]) (st' := [.int (nI 0)]) (E' := E) (I' := (u_I I 99 (upd (I 99) 3 (nI 1)))) (J' := J) (S' := S) am_e261 rfl rfl rfl rfl ?_
    exact w_end am_e261 rfl rfl rfl h
-- 262 firstRead
theorem g262_0 {p1 : Int32} {E : am_Ev} {I : Nat → Nat → Int32} {J : Nat → Nat → Int64} {S : Nat → Nat → Option Nat} {Q : am_Qt}  (h : (p1 < (nI 0) → (Q (.inl (some (.int (nI 0)))) E (u_I I 99 (upd (upd (I 99) 3 (nI 0)) 3 (nI 1))) J S)) ∧ (¬ p1 < (nI 0) → (((nI 15) < p1 → (Q (.inl (some (.int (nI 0)))) E (u_I I 99 (upd (upd (I 99) 3 (nI 0)) 3 (nI 1))) J S)) ∧ (¬ (nI 15) < p1 → (am_ww 262 17 [.ref 99, .int p1, .int (((I 99) 13) + (nI 1))] [] E (u_I I 99 (upd (I 99) 3 (nI 0))) J S Q))))) : am_ww 262 0 [.ref 99, .int p1, am_U] [] E I J S Q := by
  refine w_st (i' := 1) (ls' := [.ref 99, .int p1, am_U]) (st' := [.ref 99]) (E' := E) (I' := I) (J' := J) (S' := S) am_e262 rfl rfl rfl rfl ?_
  refine w_st (i' := 2) (ls' := [.ref 99, .int p1, am_U]) (st' := [.int (nI 0), .ref 99]) (E' := E) (I' := I) (J' := J) (S' := S) am_e262 rfl rfl rfl rfl ?_
  refine w_st (i' := 3) (ls' := [.ref 99, .int p1, am_U]) (st' := []) (E' := E) (I' := (u_I I 99 (upd (I 99) 3 (nI 0)))) (J' := J) (S' := S) am_e262 rfl rfl rfl rfl ?_
  refine w_st (i' := 4) (ls' := [.ref 99, .int p1, am_U]) (st' := [.int p1]) (E' := E) (I' := (u_I I 99 (upd (I 99) 3 (nI 0)))) (J' := J) (S' := S) am_e262 rfl rfl rfl rfl ?_
  refine w_st (i' := 5) (ls' := [.ref 99, .int p1, am_U]) (st' := [.int (nI 0), .int p1]) (E' := E) (I' := (u_I I 99 (upd (I 99) 3 (nI 0)))) (J' := J) (S' := S) am_e262 rfl rfl rfl rfl ?_
  refine w_st (i' := 6) (ls' := [.ref 99, .int p1, am_U]) (st' := [.int (nI 15), .int (nI 0), .int p1]) (E' := E) (I' := (u_I I 99 (upd (I 99) 3 (nI 0)))) (J' := J) (S' := S) am_e262 rfl rfl rfl rfl ?_
  refine w_cI am_e262 rfl rfl (as := [.int p1, .int (nI 0), .int (nI 15)]) (rest := []) rfl rfl ?_
  show am_ww 232 0 [.int p1, .int (nI 0), .int (nI 15)] [] E (u_I I 99 (upd (I 99) 3 (nI 0))) J S _
  refine w_st (i' := 1) (ls' := [.int p1, .int (nI 0), .int (nI 15)]) (st' := [.int p1]) (E' := E) (I' := (u_I I 99 (upd (I 99) 3 (nI 0)))) (J' := J) (S' := S) am_e232 rfl rfl rfl rfl ?_
  refine w_st (i' := 2) (ls' := [.int p1, .int (nI 0), .int (nI 15)]) (st' := [.int (nI 0), .int p1]) (E' := E) (I' := (u_I I 99 (upd (I 99) 3 (nI 0)))) (J' := J) (S' := S) am_e232 rfl rfl rfl rfl ?_
  refine w_if2 am_e232 rfl rfl (fun c => ?_) (fun c => ?_)
  · replace h := h.1 (of_decide_eq_true c)
    refine w_st (i' := 9) (ls' := [.int p1, .int (nI 0), .int (nI 15)]) (st' := [.int (nI 0)]) (E' := E) (I' := (u_I I 99 (upd (I 99) 3 (nI 0)))) (J' := J) (S' := S) am_e232 rfl rfl rfl rfl ?_
    refine w_end (E' := E) (I' := (u_I I 99 (upd (I 99) 3 (nI 0)))) (J' := J) (S' := S) am_e232 rfl rfl rfl (q_mkI ?_)
    show am_ww 262 7 [.ref 99, .int p1, am_U] [.int (nI 0)] E (u_I I 99 (upd (I 99) 3 (nI 0))) J S _
    refine w_st (i' := 8) (ls' := [.ref 99, .int p1, am_U]) (st' := []) (E' := E) (I' := (u_I I 99 (upd (I 99) 3 (nI 0)))) (J' := J) (S' := S) am_e262 rfl rfl rfl rfl ?_
    refine w_st (i' := 9) (ls' := [.ref 99, .int p1, am_U]) (st' := [.ref 99]) (E' := E) (I' := (u_I I 99 (upd (I 99) 3 (nI 0)))) (J' := J) (S' := S) am_e262 rfl rfl rfl rfl ?_
    refine w_st (i' := 10) (ls' := [.ref 99, .int p1, am_U]) (st' := [.int (nI 1), .ref 99]) (E' := E) (I' := (u_I I 99 (upd (I 99) 3 (nI 0)))) (J' := J) (S' := S) am_e262 rfl rfl rfl rfl ?_
    refine w_cI am_e262 rfl rfl (as := [.ref 99, .int (nI 1)]) (rest := []) rfl rfl ?_
    show am_ww 189 0 [.ref 99, .int (nI 1)] [] E (u_I I 99 (upd (I 99) 3 (nI 0))) J S _
    refine w_st (i' := 1) (ls' := [.ref 99, .int (nI 1)]) (st' := [.ref 99]) (E' := E) (I' := (u_I I 99 (upd (I 99) 3 (nI 0)))) (J' := J) (S' := S) am_e189 rfl rfl rfl rfl ?_
    refine w_st (i' := 2) (ls' := [.ref 99, .int (nI 1)]) (st' := [.int (nI 1), .ref 99]) (E' := E) (I' := (u_I I 99 (upd (I 99) 3 (nI 0)))) (J' := J) (S' := S) am_e189 rfl rfl rfl rfl ?_
    refine w_st (i' := 3) (ls' := [.ref 99, .int (nI 1)]) (st' := []) (E' := E) (I' := (u_I (u_I I 99 (upd (I 99) 3 (nI 0))) 99 (upd (upd (I 99) 3 (nI 0)) 3 (nI 1)))) (J' := J) (S' := S) am_e189 rfl rfl rfl rfl ?_
    refine w_eI (uI_0 ..) ?_
    show am_ww 189 3 [.ref 99, .int (nI 1)] [] E (u_I I 99 (upd (upd (I 99) 3 (nI 0)) 3 (nI 1))) J S _
    refine w_st (i' := 4) (ls' := [.ref 99, .int (nI 1)]) (st' := [.int (nI 0)]) (E' := E) (I' := (u_I I 99 (upd (upd (I 99) 3 (nI 0)) 3 (nI 1)))) (J' := J) (S' := S) am_e189 rfl rfl rfl rfl ?_
    refine w_end (E' := E) (I' := (u_I I 99 (upd (upd (I 99) 3 (nI 0)) 3 (nI 1)))) (J' := J) (S' := S) am_e189 rfl rfl rfl (q_mkI ?_)
    show am_ww 262 11 [.ref 99, .int p1, am_U] [.int (nI 0)] E (u_I I 99 (upd (upd (I 99) 3 (nI 0)) 3 (nI 1))) J S _
    exact w_end am_e262 rfl rfl rfl h
  · replace h := h.2 (of_decide_eq_false c)
    refine w_st (i' := 4) (ls' := [.int p1, .int (nI 0), .int (nI 15)]) (st' := [.int p1]) (E' := E) (I' := (u_I I 99 (upd (I 99) 3 (nI 0)))) (J' := J) (S' := S) am_e232 rfl rfl rfl rfl ?_
    refine w_st (i' := 5) (ls' := [.int p1, .int (nI 0), .int (nI 15)]) (st' := [.int (nI 15), .int p1]) (E' := E) (I' := (u_I I 99 (upd (I 99) 3 (nI 0)))) (J' := J) (S' := S) am_e232 rfl rfl rfl rfl ?_
    refine w_if2 am_e232 rfl rfl (fun c => ?_) (fun c => ?_)
    · replace h := h.1 (of_decide_eq_true c)
      refine w_st (i' := 9) (ls' := [.int p1, .int (nI 0), .int (nI 15)]) (st' := [.int (nI 0)]) (E' := E) (I' := (u_I I 99 (upd (I 99) 3 (nI 0)))) (J' := J) (S' := S) am_e232 rfl rfl rfl rfl ?_
      refine w_end (E' := E) (I' := (u_I I 99 (upd (I 99) 3 (nI 0)))) (J' := J) (S' := S) am_e232 rfl rfl rfl (q_mkI ?_)
      show am_ww 262 7 [.ref 99, .int p1, am_U] [.int (nI 0)] E (u_I I 99 (upd (I 99) 3 (nI 0))) J S _
      refine w_st (i' := 8) (ls' := [.ref 99, .int p1, am_U]) (st' := []) (E' := E) (I' := (u_I I 99 (upd (I 99) 3 (nI 0)))) (J' := J) (S' := S) am_e262 rfl rfl rfl rfl ?_
      refine w_st (i' := 9) (ls' := [.ref 99, .int p1, am_U]) (st' := [.ref 99]) (E' := E) (I' := (u_I I 99 (upd (I 99) 3 (nI 0)))) (J' := J) (S' := S) am_e262 rfl rfl rfl rfl ?_
      refine w_st (i' := 10) (ls' := [.ref 99, .int p1, am_U]) (st' := [.int (nI 1), .ref 99]) (E' := E) (I' := (u_I I 99 (upd (I 99) 3 (nI 0)))) (J' := J) (S' := S) am_e262 rfl rfl rfl rfl ?_
      refine w_cI am_e262 rfl rfl (as := [.ref 99, .int (nI 1)]) (rest := []) rfl rfl ?_
      show am_ww 189 0 [.ref 99, .int (nI 1)] [] E (u_I I 99 (upd (I 99) 3 (nI 0))) J S _
      refine w_st (i' := 1) (ls' := [.ref 99, .int (nI 1)]) (st' := [.ref 99]) (E' := E) (I' := (u_I I 99 (upd (I 99) 3 (nI 0)))) (J' := J) (S' := S) am_e189 rfl rfl rfl rfl ?_
      refine w_st (i' := 2) (ls' := [.ref 99, .int (nI 1)]) (st' := [.int (nI 1), .ref 99]) (E' := E) (I' := (u_I I 99 (upd (I 99) 3 (nI 0)))) (J' := J) (S' := S) am_e189 rfl rfl rfl rfl ?_
      refine w_st (i' := 3) (ls' := [.ref 99, .int (nI 1)]) (st' := []) (E' := E) (I' := (u_I (u_I I 99 (upd (I 99) 3 (nI 0))) 99 (upd (upd (I 99) 3 (nI 0)) 3 (nI 1)))) (J' := J) (S' := S) am_e189 rfl rfl rfl rfl ?_
      refine w_eI (uI_0 ..) ?_
      show am_ww 189 3 [.ref 99, .int (nI 1)] [] E (u_I I 99 (upd (upd (I 99) 3 (nI 0)) 3 (nI 1))) J S _
      refine w_st (i' := 4) (ls' := [.ref 99, .int (nI 1)]) (st' := [.int (nI 0)]) (E' := E) (I' := (u_I I 99 (upd (upd (I 99) 3 (nI 0)) 3 (nI 1)))) (J' := J) (S' := S) am_e189 rfl rfl rfl rfl ?_
      refine w_end (E' := E) (I' := (u_I I 99 (upd (upd (I 99) 3 (nI 0)) 3 (nI 1)))) (J' := J) (S' := S) am_e189 rfl rfl rfl (q_mkI ?_)
      show am_ww 262 11 [.ref 99, .int p1, am_U] [.int (nI 0)] E (u_I I 99 (upd (upd (I 99) 3 (nI 0)) 3 (nI 1))) J S _
      exact w_end am_e262 rfl rfl rfl h
    · replace h := h.2 (of_decide_eq_false c)
      refine w_st (i' := 7) (ls' := [.int p1, .int (nI 0), .int (nI 15)]) (st' := [.int (nI 1)]) (E' := E) (I' := (u_I I 99 (upd (I 99) 3 (nI 0)))) (J' := J) (S' := S) am_e232 rfl rfl rfl rfl ?_
      refine w_st (i' := 9) (ls' := [.int p1, .int (nI 0), .int (nI 15)]) (st' := [.int (nI 1)]) (E' := E) (I' := (u_I I 99 (upd (I 99) 3 (nI 0)))) (J' := J) (S' := S) am_e232 rfl rfl rfl rfl ?_
      refine w_end (E' := E) (I' := (u_I I 99 (upd (I 99) 3 (nI 0)))) (J' := J) (S' := S) am_e232 rfl rfl rfl (q_mkI ?_)
      show am_ww 262 7 [.ref 99, .int p1, am_U] [.int (nI 1)] E (u_I I 99 (upd (I 99) 3 (nI 0))) J S _
      refine w_st (i' := 12) (ls' := [.ref 99, .int p1, am_U]) (st' := []) (E' := E) (I' := (u_I I 99 (upd (I 99) 3 (nI 0)))) (J' := J) (S' := S) am_e262 rfl rfl rfl rfl ?_
      refine w_st (i' := 13) (ls' := [.ref 99, .int p1, am_U]) (st' := [.ref 99]) (E' := E) (I' := (u_I I 99 (upd (I 99) 3 (nI 0)))) (J' := J) (S' := S) am_e262 rfl rfl rfl rfl ?_
      refine w_st (i' := 14) (ls' := [.ref 99, .int p1, am_U]) (st' := [.int ((I 99) 13)]) (E' := E) (I' := (u_I I 99 (upd (I 99) 3 (nI 0)))) (J' := J) (S' := S) am_e262 rfl rfl rfl rfl ?_
      refine w_st (i' := 15) (ls' := [.ref 99, .int p1, am_U]) (st' := [.int (nI 1), .int ((I 99) 13)]) (E' := E) (I' := (u_I I 99 (upd (I 99) 3 (nI 0)))) (J' := J) (S' := S) am_e262 rfl rfl rfl rfl ?_
      refine w_st (i' := 16) (ls' := [.ref 99, .int p1, am_U]) (st' := [.int (((I 99) 13) + (nI 1))]) (E' := E) (I' := (u_I I 99 (upd (I 99) 3 (nI 0)))) (J' := J) (S' := S) am_e262 rfl rfl rfl rfl ?_
      refine w_st (i' := 17) (ls' := [.ref 99, .int p1, .int (((I 99) 13) + (nI 1))]) (st' := []) (E' := E) (I' := (u_I I 99 (upd (I 99) 3 (nI 0)))) (J' := J) (S' := S) am_e262 rfl rfl rfl rfl ?_
      exact h
theorem g262_17 {x1 : Int32} {x2 : Int32} {E : am_Ev} {I : Nat → Nat → Int32} {J : Nat → Nat → Int64} {S : Nat → Nat → Option Nat} {Q : am_Qt}  (h : (((I 99) 12) < x2 → (Q (.inl (some (.int (-1)))) E I J S)) ∧ (¬ ((I 99) 12) < x2 → (vp_in x2 401 ∧ (vp_in ((I 119) x2.toNatClampNeg) 128 ∧ ((((I 106) (((I 119) x2.toNatClampNeg).toNatClampNeg)) = (nI 1) → ((((I 108) (((I 119) x2.toNatClampNeg).toNatClampNeg)) = x1 → (Q (.inl (some (.int x2))) E I J S)) ∧ (¬ ((I 108) (((I 119) x2.toNatClampNeg).toNatClampNeg)) = x1 → ((((I 106) (((I 119) x2.toNatClampNeg).toNatClampNeg)) = (nI 2) → ((((I 107) (((I 119) x2.toNatClampNeg).toNatClampNeg)) = x1 → (Q (.inl (some (.int (-1)))) E I J S)) ∧ (¬ ((I 107) (((I 119) x2.toNatClampNeg).toNatClampNeg)) = x1 → (am_ww 262 17 [.ref 99, .int x1, .int (x2 + nI 1)] [] E I J S Q)))) ∧ (¬ ((I 106) (((I 119) x2.toNatClampNeg).toNatClampNeg)) = (nI 2) → (am_ww 262 17 [.ref 99, .int x1, .int (x2 + nI 1)] [] E I J S Q)))))) ∧ (¬ ((I 106) (((I 119) x2.toNatClampNeg).toNatClampNeg)) = (nI 1) → ((((I 106) (((I 119) x2.toNatClampNeg).toNatClampNeg)) = (nI 2) → ((((I 107) (((I 119) x2.toNatClampNeg).toNatClampNeg)) = x1 → (Q (.inl (some (.int (-1)))) E I J S)) ∧ (¬ ((I 107) (((I 119) x2.toNatClampNeg).toNatClampNeg)) = x1 → (am_ww 262 17 [.ref 99, .int x1, .int (x2 + nI 1)] [] E I J S Q)))) ∧ (¬ ((I 106) (((I 119) x2.toNatClampNeg).toNatClampNeg)) = (nI 2) → (am_ww 262 17 [.ref 99, .int x1, .int (x2 + nI 1)] [] E I J S Q))))))))) : am_ww 262 17 [.ref 99, .int x1, .int x2] [] E I J S Q := by
  refine w_st (i' := 18) (ls' := [.ref 99, .int x1, .int x2]) (st' := [.int x2]) (E' := E) (I' := I) (J' := J) (S' := S) am_e262 rfl rfl rfl rfl ?_
  refine w_st (i' := 19) (ls' := [.ref 99, .int x1, .int x2]) (st' := [.ref 99, .int x2]) (E' := E) (I' := I) (J' := J) (S' := S) am_e262 rfl rfl rfl rfl ?_
  refine w_st (i' := 20) (ls' := [.ref 99, .int x1, .int x2]) (st' := [.int ((I 99) 12), .int x2]) (E' := E) (I' := I) (J' := J) (S' := S) am_e262 rfl rfl rfl rfl ?_
  refine w_if2 am_e262 rfl rfl (fun c => ?_) (fun c => ?_)
  · replace h := h.1 (of_decide_eq_true c)
    refine w_st (i' := 38) (ls' := [.ref 99, .int x1, .int x2]) (st' := [.int (-1)]) (E' := E) (I' := I) (J' := J) (S' := S) am_e262 rfl rfl rfl rfl ?_
    exact w_end am_e262 rfl rfl rfl h
  · replace h := h.2 (of_decide_eq_false c)
    refine w_st (i' := 22) (ls' := [.ref 99, .int x1, .int x2]) (st' := [.ref 99]) (E' := E) (I' := I) (J' := J) (S' := S) am_e262 rfl rfl rfl rfl ?_
    refine w_st (i' := 23) (ls' := [.ref 99, .int x1, .int x2]) (st' := [.int x2, .ref 99]) (E' := E) (I' := I) (J' := J) (S' := S) am_e262 rfl rfl rfl rfl ?_
    refine w_st (i' := 24) (ls' := [.ref 99, .int x1, .int x2]) (st' := [.int x1, .int x2, .ref 99]) (E' := E) (I' := I) (J' := J) (S' := S) am_e262 rfl rfl rfl rfl ?_
    refine w_cI am_e262 rfl rfl (as := [.ref 99, .int x2, .int x1]) (rest := []) rfl rfl ?_
    show am_ww 263 0 [.ref 99, .int x2, .int x1] [] E I J S _
    refine w_st (i' := 1) (ls' := [.ref 99, .int x2, .int x1]) (st' := [.ref 99]) (E' := E) (I' := I) (J' := J) (S' := S) am_e263 rfl rfl rfl rfl ?_
    refine w_st (i' := 2) (ls' := [.ref 99, .int x2, .int x1]) (st' := [.ref 106]) (E' := E) (I' := I) (J' := J) (S' := S) am_e263 rfl rfl rfl rfl ?_
    refine w_st (i' := 3) (ls' := [.ref 99, .int x2, .int x1]) (st' := [.ref 99, .ref 106]) (E' := E) (I' := I) (J' := J) (S' := S) am_e263 rfl rfl rfl rfl ?_
    refine w_st (i' := 4) (ls' := [.ref 99, .int x2, .int x1]) (st' := [.ref 119, .ref 106]) (E' := E) (I' := I) (J' := J) (S' := S) am_e263 rfl rfl rfl rfl ?_
    refine w_st (i' := 5) (ls' := [.ref 99, .int x2, .int x1]) (st' := [.int x2, .ref 119, .ref 106]) (E' := E) (I' := I) (J' := J) (S' := S) am_e263 rfl rfl rfl rfl ?_
    have hf1 := h.1
    replace h := h.2
    refine w_ia (k := 119) (n := 401) (jn := x2.toNatClampNeg) am_e263 rfl rfl (by decide) hf1 rfl ?_
    have hf2 := h.1
    replace h := h.2
    refine w_ia (k := 106) (n := 128) (jn := ((I 119) x2.toNatClampNeg).toNatClampNeg) am_e263 rfl rfl (by decide) hf2 rfl ?_
    refine w_st (i' := 8) (ls' := [.ref 99, .int x2, .int x1]) (st' := [.int (nI 1), .int ((I 106) (((I 119) x2.toNatClampNeg).toNatClampNeg))]) (E' := E) (I' := I) (J' := J) (S' := S) am_e263 rfl rfl rfl rfl ?_
    refine w_if2 am_e263 rfl rfl (fun c => ?_) (fun c => ?_)
    · replace h := h.2 (of_decide_eq_true c)
      refine w_st (i' := 21) (ls' := [.ref 99, .int x2, .int x1]) (st' := [.int (nI 0)]) (E' := E) (I' := I) (J' := J) (S' := S) am_e263 rfl rfl rfl rfl ?_
      refine w_end (E' := E) (I' := I) (J' := J) (S' := S) am_e263 rfl rfl rfl (q_mkI ?_)
      show am_ww 262 25 [.ref 99, .int x1, .int x2] [.int (nI 0)] E I J S _
      refine w_st (i' := 28) (ls' := [.ref 99, .int x1, .int x2]) (st' := []) (E' := E) (I' := I) (J' := J) (S' := S) am_e262 rfl rfl rfl rfl ?_
      refine w_st (i' := 29) (ls' := [.ref 99, .int x1, .int x2]) (st' := [.ref 99]) (E' := E) (I' := I) (J' := J) (S' := S) am_e262 rfl rfl rfl rfl ?_
      refine w_st (i' := 30) (ls' := [.ref 99, .int x1, .int x2]) (st' := [.int x2, .ref 99]) (E' := E) (I' := I) (J' := J) (S' := S) am_e262 rfl rfl rfl rfl ?_
      refine w_st (i' := 31) (ls' := [.ref 99, .int x1, .int x2]) (st' := [.int x1, .int x2, .ref 99]) (E' := E) (I' := I) (J' := J) (S' := S) am_e262 rfl rfl rfl rfl ?_
      refine w_cI am_e262 rfl rfl (as := [.ref 99, .int x2, .int x1]) (rest := []) rfl rfl ?_
      show am_ww 260 0 [.ref 99, .int x2, .int x1] [] E I J S _
      refine w_st (i' := 1) (ls' := [.ref 99, .int x2, .int x1]) (st' := [.ref 99]) (E' := E) (I' := I) (J' := J) (S' := S) am_e260 rfl rfl rfl rfl ?_
      refine w_st (i' := 2) (ls' := [.ref 99, .int x2, .int x1]) (st' := [.ref 106]) (E' := E) (I' := I) (J' := J) (S' := S) am_e260 rfl rfl rfl rfl ?_
      refine w_st (i' := 3) (ls' := [.ref 99, .int x2, .int x1]) (st' := [.ref 99, .ref 106]) (E' := E) (I' := I) (J' := J) (S' := S) am_e260 rfl rfl rfl rfl ?_
      refine w_st (i' := 4) (ls' := [.ref 99, .int x2, .int x1]) (st' := [.ref 119, .ref 106]) (E' := E) (I' := I) (J' := J) (S' := S) am_e260 rfl rfl rfl rfl ?_
      refine w_st (i' := 5) (ls' := [.ref 99, .int x2, .int x1]) (st' := [.int x2, .ref 119, .ref 106]) (E' := E) (I' := I) (J' := J) (S' := S) am_e260 rfl rfl rfl rfl ?_
      refine w_ia (k := 119) (n := 401) (jn := x2.toNatClampNeg) am_e260 rfl rfl (by decide) hf1 rfl ?_
      refine w_ia (k := 106) (n := 128) (jn := ((I 119) x2.toNatClampNeg).toNatClampNeg) am_e260 rfl rfl (by decide) hf2 rfl ?_
      refine w_st (i' := 8) (ls' := [.ref 99, .int x2, .int x1]) (st' := [.int (nI 2), .int ((I 106) (((I 119) x2.toNatClampNeg).toNatClampNeg))]) (E' := E) (I' := I) (J' := J) (S' := S) am_e260 rfl rfl rfl rfl ?_
      refine w_if2 am_e260 rfl rfl (fun c => ?_) (fun c => ?_)
      · replace h := h.2 (of_decide_eq_true c)
        refine w_st (i' := 21) (ls' := [.ref 99, .int x2, .int x1]) (st' := [.int (nI 0)]) (E' := E) (I' := I) (J' := J) (S' := S) am_e260 rfl rfl rfl rfl ?_
        refine w_end (E' := E) (I' := I) (J' := J) (S' := S) am_e260 rfl rfl rfl (q_mkI ?_)
        show am_ww 262 32 [.ref 99, .int x1, .int x2] [.int (nI 0)] E I J S _
        refine w_st (i' := 35) (ls' := [.ref 99, .int x1, .int x2]) (st' := []) (E' := E) (I' := I) (J' := J) (S' := S) am_e262 rfl rfl rfl rfl ?_
        refine w_st (i' := 36) (ls' := [.ref 99, .int x1, .int (x2 + nI 1)]) (st' := []) (E' := E) (I' := I) (J' := J) (S' := S) am_e262 rfl rfl rfl rfl ?_
        refine w_st (i' := 17) (ls' := [.ref 99, .int x1, .int (x2 + nI 1)]) (st' := []) (E' := E) (I' := I) (J' := J) (S' := S) am_e262 rfl rfl rfl rfl ?_
        exact h
      · replace h := h.1 (Decidable.not_not.mp (of_decide_eq_false c))
        refine w_st (i' := 10) (ls' := [.ref 99, .int x2, .int x1]) (st' := [.ref 99]) (E' := E) (I' := I) (J' := J) (S' := S) am_e260 rfl rfl rfl rfl ?_
        refine w_st (i' := 11) (ls' := [.ref 99, .int x2, .int x1]) (st' := [.ref 107]) (E' := E) (I' := I) (J' := J) (S' := S) am_e260 rfl rfl rfl rfl ?_
        refine w_st (i' := 12) (ls' := [.ref 99, .int x2, .int x1]) (st' := [.ref 99, .ref 107]) (E' := E) (I' := I) (J' := J) (S' := S) am_e260 rfl rfl rfl rfl ?_
        refine w_st (i' := 13) (ls' := [.ref 99, .int x2, .int x1]) (st' := [.ref 119, .ref 107]) (E' := E) (I' := I) (J' := J) (S' := S) am_e260 rfl rfl rfl rfl ?_
        refine w_st (i' := 14) (ls' := [.ref 99, .int x2, .int x1]) (st' := [.int x2, .ref 119, .ref 107]) (E' := E) (I' := I) (J' := J) (S' := S) am_e260 rfl rfl rfl rfl ?_
        refine w_ia (k := 119) (n := 401) (jn := x2.toNatClampNeg) am_e260 rfl rfl (by decide) hf1 rfl ?_
        refine w_ia (k := 107) (n := 128) (jn := ((I 119) x2.toNatClampNeg).toNatClampNeg) am_e260 rfl rfl (by decide) hf2 rfl ?_
        refine w_st (i' := 17) (ls' := [.ref 99, .int x2, .int x1]) (st' := [.int x1, .int ((I 107) (((I 119) x2.toNatClampNeg).toNatClampNeg))]) (E' := E) (I' := I) (J' := J) (S' := S) am_e260 rfl rfl rfl rfl ?_
        refine w_if2 am_e260 rfl rfl (fun c => ?_) (fun c => ?_)
        · replace h := h.2 (of_decide_eq_true c)
          refine w_st (i' := 21) (ls' := [.ref 99, .int x2, .int x1]) (st' := [.int (nI 0)]) (E' := E) (I' := I) (J' := J) (S' := S) am_e260 rfl rfl rfl rfl ?_
          refine w_end (E' := E) (I' := I) (J' := J) (S' := S) am_e260 rfl rfl rfl (q_mkI ?_)
          show am_ww 262 32 [.ref 99, .int x1, .int x2] [.int (nI 0)] E I J S _
          refine w_st (i' := 35) (ls' := [.ref 99, .int x1, .int x2]) (st' := []) (E' := E) (I' := I) (J' := J) (S' := S) am_e262 rfl rfl rfl rfl ?_
          refine w_st (i' := 36) (ls' := [.ref 99, .int x1, .int (x2 + nI 1)]) (st' := []) (E' := E) (I' := I) (J' := J) (S' := S) am_e262 rfl rfl rfl rfl ?_
          refine w_st (i' := 17) (ls' := [.ref 99, .int x1, .int (x2 + nI 1)]) (st' := []) (E' := E) (I' := I) (J' := J) (S' := S) am_e262 rfl rfl rfl rfl ?_
          exact h
        · replace h := h.1 (Decidable.not_not.mp (of_decide_eq_false c))
          refine w_st (i' := 19) (ls' := [.ref 99, .int x2, .int x1]) (st' := [.int (nI 1)]) (E' := E) (I' := I) (J' := J) (S' := S) am_e260 rfl rfl rfl rfl ?_
          refine w_st (i' := 21) (ls' := [.ref 99, .int x2, .int x1]) (st' := [.int (nI 1)]) (E' := E) (I' := I) (J' := J) (S' := S) am_e260 rfl rfl rfl rfl ?_
          refine w_end (E' := E) (I' := I) (J' := J) (S' := S) am_e260 rfl rfl rfl (q_mkI ?_)
          show am_ww 262 32 [.ref 99, .int x1, .int x2] [.int (nI 1)] E I J S _
          refine w_st (i' := 33) (ls' := [.ref 99, .int x1, .int x2]) (st' := []) (E' := E) (I' := I) (J' := J) (S' := S) am_e262 rfl rfl rfl rfl ?_
          refine w_st (i' := 34) (ls' := [.ref 99, .int x1, .int x2]) (st' := [.int (-1)]) (E' := E) (I' := I) (J' := J) (S' := S) am_e262 rfl rfl rfl rfl ?_
          exact w_end am_e262 rfl rfl rfl h
    · replace h := h.1 (Decidable.not_not.mp (of_decide_eq_false c))
      refine w_st (i' := 10) (ls' := [.ref 99, .int x2, .int x1]) (st' := [.ref 99]) (E' := E) (I' := I) (J' := J) (S' := S) am_e263 rfl rfl rfl rfl ?_
      refine w_st (i' := 11) (ls' := [.ref 99, .int x2, .int x1]) (st' := [.ref 108]) (E' := E) (I' := I) (J' := J) (S' := S) am_e263 rfl rfl rfl rfl ?_
      refine w_st (i' := 12) (ls' := [.ref 99, .int x2, .int x1]) (st' := [.ref 99, .ref 108]) (E' := E) (I' := I) (J' := J) (S' := S) am_e263 rfl rfl rfl rfl ?_
      refine w_st (i' := 13) (ls' := [.ref 99, .int x2, .int x1]) (st' := [.ref 119, .ref 108]) (E' := E) (I' := I) (J' := J) (S' := S) am_e263 rfl rfl rfl rfl ?_
      refine w_st (i' := 14) (ls' := [.ref 99, .int x2, .int x1]) (st' := [.int x2, .ref 119, .ref 108]) (E' := E) (I' := I) (J' := J) (S' := S) am_e263 rfl rfl rfl rfl ?_
      refine w_ia (k := 119) (n := 401) (jn := x2.toNatClampNeg) am_e263 rfl rfl (by decide) hf1 rfl ?_
      refine w_ia (k := 108) (n := 128) (jn := ((I 119) x2.toNatClampNeg).toNatClampNeg) am_e263 rfl rfl (by decide) hf2 rfl ?_
      refine w_st (i' := 17) (ls' := [.ref 99, .int x2, .int x1]) (st' := [.int x1, .int ((I 108) (((I 119) x2.toNatClampNeg).toNatClampNeg))]) (E' := E) (I' := I) (J' := J) (S' := S) am_e263 rfl rfl rfl rfl ?_
      refine w_if2 am_e263 rfl rfl (fun c => ?_) (fun c => ?_)
      · replace h := h.2 (of_decide_eq_true c)
        refine w_st (i' := 21) (ls' := [.ref 99, .int x2, .int x1]) (st' := [.int (nI 0)]) (E' := E) (I' := I) (J' := J) (S' := S) am_e263 rfl rfl rfl rfl ?_
        refine w_end (E' := E) (I' := I) (J' := J) (S' := S) am_e263 rfl rfl rfl (q_mkI ?_)
        show am_ww 262 25 [.ref 99, .int x1, .int x2] [.int (nI 0)] E I J S _
        refine w_st (i' := 28) (ls' := [.ref 99, .int x1, .int x2]) (st' := []) (E' := E) (I' := I) (J' := J) (S' := S) am_e262 rfl rfl rfl rfl ?_
        refine w_st (i' := 29) (ls' := [.ref 99, .int x1, .int x2]) (st' := [.ref 99]) (E' := E) (I' := I) (J' := J) (S' := S) am_e262 rfl rfl rfl rfl ?_
        refine w_st (i' := 30) (ls' := [.ref 99, .int x1, .int x2]) (st' := [.int x2, .ref 99]) (E' := E) (I' := I) (J' := J) (S' := S) am_e262 rfl rfl rfl rfl ?_
        refine w_st (i' := 31) (ls' := [.ref 99, .int x1, .int x2]) (st' := [.int x1, .int x2, .ref 99]) (E' := E) (I' := I) (J' := J) (S' := S) am_e262 rfl rfl rfl rfl ?_
        refine w_cI am_e262 rfl rfl (as := [.ref 99, .int x2, .int x1]) (rest := []) rfl rfl ?_
        show am_ww 260 0 [.ref 99, .int x2, .int x1] [] E I J S _
        refine w_st (i' := 1) (ls' := [.ref 99, .int x2, .int x1]) (st' := [.ref 99]) (E' := E) (I' := I) (J' := J) (S' := S) am_e260 rfl rfl rfl rfl ?_
        refine w_st (i' := 2) (ls' := [.ref 99, .int x2, .int x1]) (st' := [.ref 106]) (E' := E) (I' := I) (J' := J) (S' := S) am_e260 rfl rfl rfl rfl ?_
        refine w_st (i' := 3) (ls' := [.ref 99, .int x2, .int x1]) (st' := [.ref 99, .ref 106]) (E' := E) (I' := I) (J' := J) (S' := S) am_e260 rfl rfl rfl rfl ?_
        refine w_st (i' := 4) (ls' := [.ref 99, .int x2, .int x1]) (st' := [.ref 119, .ref 106]) (E' := E) (I' := I) (J' := J) (S' := S) am_e260 rfl rfl rfl rfl ?_
        refine w_st (i' := 5) (ls' := [.ref 99, .int x2, .int x1]) (st' := [.int x2, .ref 119, .ref 106]) (E' := E) (I' := I) (J' := J) (S' := S) am_e260 rfl rfl rfl rfl ?_
        refine w_ia (k := 119) (n := 401) (jn := x2.toNatClampNeg) am_e260 rfl rfl (by decide) hf1 rfl ?_
        refine w_ia (k := 106) (n := 128) (jn := ((I 119) x2.toNatClampNeg).toNatClampNeg) am_e260 rfl rfl (by decide) hf2 rfl ?_
        refine w_st (i' := 8) (ls' := [.ref 99, .int x2, .int x1]) (st' := [.int (nI 2), .int ((I 106) (((I 119) x2.toNatClampNeg).toNatClampNeg))]) (E' := E) (I' := I) (J' := J) (S' := S) am_e260 rfl rfl rfl rfl ?_
        refine w_if2 am_e260 rfl rfl (fun c => ?_) (fun c => ?_)
        · replace h := h.2 (of_decide_eq_true c)
          refine w_st (i' := 21) (ls' := [.ref 99, .int x2, .int x1]) (st' := [.int (nI 0)]) (E' := E) (I' := I) (J' := J) (S' := S) am_e260 rfl rfl rfl rfl ?_
          refine w_end (E' := E) (I' := I) (J' := J) (S' := S) am_e260 rfl rfl rfl (q_mkI ?_)
          show am_ww 262 32 [.ref 99, .int x1, .int x2] [.int (nI 0)] E I J S _
          refine w_st (i' := 35) (ls' := [.ref 99, .int x1, .int x2]) (st' := []) (E' := E) (I' := I) (J' := J) (S' := S) am_e262 rfl rfl rfl rfl ?_
          refine w_st (i' := 36) (ls' := [.ref 99, .int x1, .int (x2 + nI 1)]) (st' := []) (E' := E) (I' := I) (J' := J) (S' := S) am_e262 rfl rfl rfl rfl ?_
          refine w_st (i' := 17) (ls' := [.ref 99, .int x1, .int (x2 + nI 1)]) (st' := []) (E' := E) (I' := I) (J' := J) (S' := S) am_e262 rfl rfl rfl rfl ?_
          exact h
        · replace h := h.1 (Decidable.not_not.mp (of_decide_eq_false c))
          refine w_st (i' := 10) (ls' := [.ref 99, .int x2, .int x1]) (st' := [.ref 99]) (E' := E) (I' := I) (J' := J) (S' := S) am_e260 rfl rfl rfl rfl ?_
          refine w_st (i' := 11) (ls' := [.ref 99, .int x2, .int x1]) (st' := [.ref 107]) (E' := E) (I' := I) (J' := J) (S' := S) am_e260 rfl rfl rfl rfl ?_
          refine w_st (i' := 12) (ls' := [.ref 99, .int x2, .int x1]) (st' := [.ref 99, .ref 107]) (E' := E) (I' := I) (J' := J) (S' := S) am_e260 rfl rfl rfl rfl ?_
          refine w_st (i' := 13) (ls' := [.ref 99, .int x2, .int x1]) (st' := [.ref 119, .ref 107]) (E' := E) (I' := I) (J' := J) (S' := S) am_e260 rfl rfl rfl rfl ?_
          refine w_st (i' := 14) (ls' := [.ref 99, .int x2, .int x1]) (st' := [.int x2, .ref 119, .ref 107]) (E' := E) (I' := I) (J' := J) (S' := S) am_e260 rfl rfl rfl rfl ?_
          refine w_ia (k := 119) (n := 401) (jn := x2.toNatClampNeg) am_e260 rfl rfl (by decide) hf1 rfl ?_
          refine w_ia (k := 107) (n := 128) (jn := ((I 119) x2.toNatClampNeg).toNatClampNeg) am_e260 rfl rfl (by decide) hf2 rfl ?_
          refine w_st (i' := 17) (ls' := [.ref 99, .int x2, .int x1]) (st' := [.int x1, .int ((I 107) (((I 119) x2.toNatClampNeg).toNatClampNeg))]) (E' := E) (I' := I) (J' := J) (S' := S) am_e260 rfl rfl rfl rfl ?_
          refine w_if2 am_e260 rfl rfl (fun c => ?_) (fun c => ?_)
          · replace h := h.2 (of_decide_eq_true c)
            refine w_st (i' := 21) (ls' := [.ref 99, .int x2, .int x1]) (st' := [.int (nI 0)]) (E' := E) (I' := I) (J' := J) (S' := S) am_e260 rfl rfl rfl rfl ?_
            refine w_end (E' := E) (I' := I) (J' := J) (S' := S) am_e260 rfl rfl rfl (q_mkI ?_)
            show am_ww 262 32 [.ref 99, .int x1, .int x2] [.int (nI 0)] E I J S _
            refine w_st (i' := 35) (ls' := [.ref 99, .int x1, .int x2]) (st' := []) (E' := E) (I' := I) (J' := J) (S' := S) am_e262 rfl rfl rfl rfl ?_
            refine w_st (i' := 36) (ls' := [.ref 99, .int x1, .int (x2 + nI 1)]) (st' := []) (E' := E) (I' := I) (J' := J) (S' := S) am_e262 rfl rfl rfl rfl ?_
            refine w_st (i' := 17) (ls' := [.ref 99, .int x1, .int (x2 + nI 1)]) (st' := []) (E' := E) (I' := I) (J' := J) (S' := S) am_e262 rfl rfl rfl rfl ?_
            exact h
          · replace h := h.1 (Decidable.not_not.mp (of_decide_eq_false c))
            refine w_st (i' := 19) (ls' := [.ref 99, .int x2, .int x1]) (st' := [.int (nI 1)]) (E' := E) (I' := I) (J' := J) (S' := S) am_e260 rfl rfl rfl rfl ?_
            refine w_st (i' := 21) (ls' := [.ref 99, .int x2, .int x1]) (st' := [.int (nI 1)]) (E' := E) (I' := I) (J' := J) (S' := S) am_e260 rfl rfl rfl rfl ?_
            refine w_end (E' := E) (I' := I) (J' := J) (S' := S) am_e260 rfl rfl rfl (q_mkI ?_)
            show am_ww 262 32 [.ref 99, .int x1, .int x2] [.int (nI 1)] E I J S _
            refine w_st (i' := 33) (ls' := [.ref 99, .int x1, .int x2]) (st' := []) (E' := E) (I' := I) (J' := J) (S' := S) am_e262 rfl rfl rfl rfl ?_
            refine w_st (i' := 34) (ls' := [.ref 99, .int x1, .int x2]) (st' := [.int (-1)]) (E' := E) (I' := I) (J' := J) (S' := S) am_e262 rfl rfl rfl rfl ?_
            exact w_end am_e262 rfl rfl rfl h
      · replace h := h.1 (Decidable.not_not.mp (of_decide_eq_false c))
        refine w_st (i' := 19) (ls' := [.ref 99, .int x2, .int x1]) (st' := [.int (nI 1)]) (E' := E) (I' := I) (J' := J) (S' := S) am_e263 rfl rfl rfl rfl ?_
        refine w_st (i' := 21) (ls' := [.ref 99, .int x2, .int x1]) (st' := [.int (nI 1)]) (E' := E) (I' := I) (J' := J) (S' := S) am_e263 rfl rfl rfl rfl ?_
        refine w_end (E' := E) (I' := I) (J' := J) (S' := S) am_e263 rfl rfl rfl (q_mkI ?_)
        show am_ww 262 25 [.ref 99, .int x1, .int x2] [.int (nI 1)] E I J S _
        refine w_st (i' := 26) (ls' := [.ref 99, .int x1, .int x2]) (st' := []) (E' := E) (I' := I) (J' := J) (S' := S) am_e262 rfl rfl rfl rfl ?_
        refine w_st (i' := 27) (ls' := [.ref 99, .int x1, .int x2]) (st' := [.int x2]) (E' := E) (I' := I) (J' := J) (S' := S) am_e262 rfl rfl rfl rfl ?_
        exact w_ri am_e262 rfl rfl h
-- 216 count
theorem g216_0 {p1 : Int32} {E : am_Ev} {I : Nat → Nat → Int32} {J : Nat → Nat → Int64} {S : Nat → Nat → Option Nat} {Q : am_Qt}  (h : am_cl 217 [.ref 99, .int ((I 99) 12)] E (u_I I 99 (upd (I 99) 3 (nI 0))) J S (q_V fun E1 I1 J1 S1 => (p1 = nI 0 → (Q (.inl (some (.int ((I1 103) 4)))) E1 I1 J1 S1)) ∧ (p1 = nI 1 → (Q (.inl (some (.int ((I1 99) 12)))) E1 I1 J1 S1)) ∧ (p1 = nI 2 → (Q (.inl (some (.int ((I1 116) 44)))) E1 I1 J1 S1)) ∧ (p1 = nI 3 → (Q (.inl (some (.int ((I1 116) 45)))) E1 I1 J1 S1)) ∧ (p1 = nI 4 → (Q (.inl (some (.int ((I1 116) 47)))) E1 I1 J1 S1)) ∧ (p1 = nI 5 → (am_cl 218 [.ref 99] E1 I1 J1 S1 (q_I fun v2 E2 I2 J2 S2 => Q (.inl (some (.int v2))) E2 I2 J2 S2))) ∧ (p1 = nI 6 → ((¬ ((I1 103) 2) = 0) ∧ (Q (.inl (some (.int (((I1 99) 12) / ((I1 103) 2))))) E1 I1 J1 S1))) ∧ (p1 = nI 7 → (am_cl 219 [.ref 99] E1 I1 J1 S1 (q_I fun v3 E3 I3 J3 S3 => Q (.inl (some (.int v3))) E3 I3 J3 S3))) ∧ (p1 = nI 8 → (am_cl 224 [.ref 99] E1 I1 J1 S1 (q_I fun v4 E4 I4 J4 S4 => Q (.inl (some (.int v4))) E4 I4 J4 S4))) ∧ (p1 = nI 9 → (am_cl 225 [.ref 99] E1 I1 J1 S1 (q_V fun E5 I5 J5 S5 => Q (.inl (some (.int ((I5 99) 42)))) E5 I5 J5 S5))) ∧ (p1 = nI 10 → (am_cl 227 [.ref 99] E1 I1 J1 S1 (q_I fun v6 E6 I6 J6 S6 => Q (.inl (some (.int v6))) E6 I6 J6 S6))) ∧ (p1 = nI 11 → (Q (.inl (some (.int ((I1 99) 13)))) E1 I1 J1 S1)) ∧ (p1 = nI 12 → (am_cl 229 [.ref 99] E1 I1 J1 S1 (q_I fun v7 E7 I7 J7 S7 => Q (.inl (some (.int v7))) E7 I7 J7 S7))) ∧ (p1 = nI 13 → (am_cl 218 [.ref 99] E1 I1 J1 S1 (q_I fun v8 E8 I8 J8 S8 => Q (.inl (some (.int (((((I1 124) 0) + ((I1 124) 1)) + ((I1 124) 2)) - v8)))) E8 I8 J8 S8))) ∧ (p1 = nI 14 → (Q (.inl (some (.int ((I1 99) 43)))) E1 I1 J1 S1)) ∧ (p1 = nI 15 → (Q (.inl (some (.int ((I1 99) 15)))) E1 I1 J1 S1)) ∧ (p1 = nI 16 → (vp_in (p1 - (nI 16)) 2 ∧ (Q (.inl (some (.int ((I1 110) ((p1 - (nI 16)).toNatClampNeg))))) E1 I1 J1 S1))) ∧ (p1 = nI 17 → (vp_in (p1 - (nI 16)) 2 ∧ (Q (.inl (some (.int ((I1 110) ((p1 - (nI 16)).toNatClampNeg))))) E1 I1 J1 S1))) ∧ (¬ p1 = nI 0 → ¬ p1 = nI 1 → ¬ p1 = nI 2 → ¬ p1 = nI 3 → ¬ p1 = nI 4 → ¬ p1 = nI 5 → ¬ p1 = nI 6 → ¬ p1 = nI 7 → ¬ p1 = nI 8 → ¬ p1 = nI 9 → ¬ p1 = nI 10 → ¬ p1 = nI 11 → ¬ p1 = nI 12 → ¬ p1 = nI 13 → ¬ p1 = nI 14 → ¬ p1 = nI 15 → ¬ p1 = nI 16 → ¬ p1 = nI 17 → (Q (.inl (some (.int (nI 0)))) E1 (u_I I1 99 (upd (I1 99) 3 (nI 1))) J1 S1)))) : am_ww 216 0 [.ref 99, .int p1] [] E I J S Q := by
  refine w_st (i' := 1) (ls' := [.ref 99, .int p1]) (st' := [.ref 99]) (E' := E) (I' := I) (J' := J) (S' := S) am_e216 rfl rfl rfl rfl ?_
  refine w_st (i' := 2) (ls' := [.ref 99, .int p1]) (st' := [.int (nI 0), .ref 99]) (E' := E) (I' := I) (J' := J) (S' := S) am_e216 rfl rfl rfl rfl ?_
  refine w_st (i' := 3) (ls' := [.ref 99, .int p1]) (st' := []) (E' := E) (I' := (u_I I 99 (upd (I 99) 3 (nI 0)))) (J' := J) (S' := S) am_e216 rfl rfl rfl rfl ?_
  refine w_st (i' := 4) (ls' := [.ref 99, .int p1]) (st' := [.ref 99]) (E' := E) (I' := (u_I I 99 (upd (I 99) 3 (nI 0)))) (J' := J) (S' := S) am_e216 rfl rfl rfl rfl ?_
  refine w_st (i' := 5) (ls' := [.ref 99, .int p1]) (st' := [.ref 99, .ref 99]) (E' := E) (I' := (u_I I 99 (upd (I 99) 3 (nI 0)))) (J' := J) (S' := S) am_e216 rfl rfl rfl rfl ?_
  refine w_st (i' := 6) (ls' := [.ref 99, .int p1]) (st' := [.int ((I 99) 12), .ref 99]) (E' := E) (I' := (u_I I 99 (upd (I 99) 3 (nI 0)))) (J' := J) (S' := S) am_e216 rfl rfl rfl rfl ?_
  refine w_cV am_e216 rfl rfl (as := [.ref 99, .int ((I 99) 12)]) (rest := []) rfl rfl (am_ww.mono h ?_)
  rintro _ E1 I1 J1 S1 ⟨rfl, h⟩
  refine q_mkV ?_
  refine w_st (i' := 8) (ls' := [.ref 99, .int p1]) (st' := [.int p1]) (E' := E1) (I' := I1) (J' := J1) (S' := S1) am_e216 rfl rfl rfl rfl ?_
  refine w_tb am_e216 rfl ?_
  by_cases c0 : p1 = nI 0
  · replace h := h.1 c0
    refine w_to (i2 := 9) (by rw [c0]; first | done | rfl) ?_
    refine w_st (i' := 10) (ls' := [.ref 99, .int p1]) (st' := [.ref 99]) (E' := E1) (I' := I1) (J' := J1) (S' := S1) am_e216 rfl rfl rfl rfl ?_
    refine w_st (i' := 11) (ls' := [.ref 99, .int p1]) (st' := [.ref 103]) (E' := E1) (I' := I1) (J' := J1) (S' := S1) am_e216 rfl rfl rfl rfl ?_
    refine w_st (i' := 12) (ls' := [.ref 99, .int p1]) (st' := [.int (nI 4), .ref 103]) (E' := E1) (I' := I1) (J' := J1) (S' := S1) am_e216 rfl rfl rfl rfl ?_
    refine w_ia (k := 103) (n := 10) (jn := 4) am_e216 rfl rfl (by decide) (vp_in_nI (by decide) (by decide)) rfl ?_
    show am_ww 216 13 [.ref 99, .int p1] [.int ((I1 103) 4)] E1 I1 J1 S1 _
    exact w_ri am_e216 rfl rfl h
  by_cases c1 : p1 = nI 1
  · replace h := h.2.1 c1
    refine w_to (i2 := 14) (by rw [c1]; first | done | rfl) ?_
    refine w_st (i' := 15) (ls' := [.ref 99, .int p1]) (st' := [.ref 99]) (E' := E1) (I' := I1) (J' := J1) (S' := S1) am_e216 rfl rfl rfl rfl ?_
    refine w_st (i' := 16) (ls' := [.ref 99, .int p1]) (st' := [.int ((I1 99) 12)]) (E' := E1) (I' := I1) (J' := J1) (S' := S1) am_e216 rfl rfl rfl rfl ?_
    exact w_ri am_e216 rfl rfl h
  by_cases c2 : p1 = nI 2
  · replace h := h.2.2.1 c2
    refine w_to (i2 := 17) (by rw [c2]; first | done | rfl) ?_
    refine w_st (i' := 18) (ls' := [.ref 99, .int p1]) (st' := [.ref 99]) (E' := E1) (I' := I1) (J' := J1) (S' := S1) am_e216 rfl rfl rfl rfl ?_
    refine w_st (i' := 19) (ls' := [.ref 99, .int p1]) (st' := [.ref 116]) (E' := E1) (I' := I1) (J' := J1) (S' := S1) am_e216 rfl rfl rfl rfl ?_
    refine w_st (i' := 20) (ls' := [.ref 99, .int p1]) (st' := [.int (nI 44), .ref 116]) (E' := E1) (I' := I1) (J' := J1) (S' := S1) am_e216 rfl rfl rfl rfl ?_
    refine w_ia (k := 116) (n := 51) (jn := 44) am_e216 rfl rfl (by decide) (vp_in_nI (by decide) (by decide)) rfl ?_
    show am_ww 216 21 [.ref 99, .int p1] [.int ((I1 116) 44)] E1 I1 J1 S1 _
    exact w_ri am_e216 rfl rfl h
  by_cases c3 : p1 = nI 3
  · replace h := h.2.2.2.1 c3
    refine w_to (i2 := 22) (by rw [c3]; first | done | rfl) ?_
    refine w_st (i' := 23) (ls' := [.ref 99, .int p1]) (st' := [.ref 99]) (E' := E1) (I' := I1) (J' := J1) (S' := S1) am_e216 rfl rfl rfl rfl ?_
    refine w_st (i' := 24) (ls' := [.ref 99, .int p1]) (st' := [.ref 116]) (E' := E1) (I' := I1) (J' := J1) (S' := S1) am_e216 rfl rfl rfl rfl ?_
    refine w_st (i' := 25) (ls' := [.ref 99, .int p1]) (st' := [.int (nI 45), .ref 116]) (E' := E1) (I' := I1) (J' := J1) (S' := S1) am_e216 rfl rfl rfl rfl ?_
    refine w_ia (k := 116) (n := 51) (jn := 45) am_e216 rfl rfl (by decide) (vp_in_nI (by decide) (by decide)) rfl ?_
    show am_ww 216 26 [.ref 99, .int p1] [.int ((I1 116) 45)] E1 I1 J1 S1 _
    exact w_ri am_e216 rfl rfl h
  by_cases c4 : p1 = nI 4
  · replace h := h.2.2.2.2.1 c4
    refine w_to (i2 := 27) (by rw [c4]; first | done | rfl) ?_
    refine w_st (i' := 28) (ls' := [.ref 99, .int p1]) (st' := [.ref 99]) (E' := E1) (I' := I1) (J' := J1) (S' := S1) am_e216 rfl rfl rfl rfl ?_
    refine w_st (i' := 29) (ls' := [.ref 99, .int p1]) (st' := [.ref 116]) (E' := E1) (I' := I1) (J' := J1) (S' := S1) am_e216 rfl rfl rfl rfl ?_
    refine w_st (i' := 30) (ls' := [.ref 99, .int p1]) (st' := [.int (nI 47), .ref 116]) (E' := E1) (I' := I1) (J' := J1) (S' := S1) am_e216 rfl rfl rfl rfl ?_
    refine w_ia (k := 116) (n := 51) (jn := 47) am_e216 rfl rfl (by decide) (vp_in_nI (by decide) (by decide)) rfl ?_
    show am_ww 216 31 [.ref 99, .int p1] [.int ((I1 116) 47)] E1 I1 J1 S1 _
    exact w_ri am_e216 rfl rfl h
  by_cases c5 : p1 = nI 5
  · replace h := h.2.2.2.2.2.1 c5
    refine w_to (i2 := 32) (by rw [c5]; first | done | rfl) ?_
    refine w_st (i' := 33) (ls' := [.ref 99, .int p1]) (st' := [.ref 99]) (E' := E1) (I' := I1) (J' := J1) (S' := S1) am_e216 rfl rfl rfl rfl ?_
    refine w_cI am_e216 rfl rfl (as := [.ref 99]) (rest := []) rfl rfl (am_ww.mono h ?_)
    rintro _ E2 I2 J2 S2 ⟨v2, rfl, h⟩
    refine q_mkI ?_
    exact w_ri am_e216 rfl rfl h
  by_cases c6 : p1 = nI 6
  · replace h := h.2.2.2.2.2.2.1 c6
    refine w_to (i2 := 35) (by rw [c6]; first | done | rfl) ?_
    refine w_st (i' := 36) (ls' := [.ref 99, .int p1]) (st' := [.ref 99]) (E' := E1) (I' := I1) (J' := J1) (S' := S1) am_e216 rfl rfl rfl rfl ?_
    refine w_st (i' := 37) (ls' := [.ref 99, .int p1]) (st' := [.int ((I1 99) 12)]) (E' := E1) (I' := I1) (J' := J1) (S' := S1) am_e216 rfl rfl rfl rfl ?_
    refine w_st (i' := 38) (ls' := [.ref 99, .int p1]) (st' := [.ref 99, .int ((I1 99) 12)]) (E' := E1) (I' := I1) (J' := J1) (S' := S1) am_e216 rfl rfl rfl rfl ?_
    refine w_st (i' := 39) (ls' := [.ref 99, .int p1]) (st' := [.ref 103, .int ((I1 99) 12)]) (E' := E1) (I' := I1) (J' := J1) (S' := S1) am_e216 rfl rfl rfl rfl ?_
    refine w_st (i' := 40) (ls' := [.ref 99, .int p1]) (st' := [.int (nI 2), .ref 103, .int ((I1 99) 12)]) (E' := E1) (I' := I1) (J' := J1) (S' := S1) am_e216 rfl rfl rfl rfl ?_
    refine w_ia (k := 103) (n := 10) (jn := 2) am_e216 rfl rfl (by decide) (vp_in_nI (by decide) (by decide)) rfl ?_
    show am_ww 216 41 [.ref 99, .int p1] [.int ((I1 103) 2), .int ((I1 99) 12)] E1 I1 J1 S1 _
    refine w_dv h.1 am_e216 rfl ?_
    replace h := h.2
    exact w_ri am_e216 rfl rfl h
  by_cases c7 : p1 = nI 7
  · replace h := h.2.2.2.2.2.2.2.1 c7
    refine w_to (i2 := 43) (by rw [c7]; first | done | rfl) ?_
    refine w_st (i' := 44) (ls' := [.ref 99, .int p1]) (st' := [.ref 99]) (E' := E1) (I' := I1) (J' := J1) (S' := S1) am_e216 rfl rfl rfl rfl ?_
    refine w_cI am_e216 rfl rfl (as := [.ref 99]) (rest := []) rfl rfl (am_ww.mono h ?_)
    rintro _ E3 I3 J3 S3 ⟨v3, rfl, h⟩
    refine q_mkI ?_
    exact w_ri am_e216 rfl rfl h
  by_cases c8 : p1 = nI 8
  · replace h := h.2.2.2.2.2.2.2.2.1 c8
    refine w_to (i2 := 46) (by rw [c8]; first | done | rfl) ?_
    refine w_st (i' := 47) (ls' := [.ref 99, .int p1]) (st' := [.ref 99]) (E' := E1) (I' := I1) (J' := J1) (S' := S1) am_e216 rfl rfl rfl rfl ?_
    refine w_cI am_e216 rfl rfl (as := [.ref 99]) (rest := []) rfl rfl (am_ww.mono h ?_)
    rintro _ E4 I4 J4 S4 ⟨v4, rfl, h⟩
    refine q_mkI ?_
    exact w_ri am_e216 rfl rfl h
  by_cases c9 : p1 = nI 9
  · replace h := h.2.2.2.2.2.2.2.2.2.1 c9
    refine w_to (i2 := 49) (by rw [c9]; first | done | rfl) ?_
    refine w_st (i' := 50) (ls' := [.ref 99, .int p1]) (st' := [.ref 99]) (E' := E1) (I' := I1) (J' := J1) (S' := S1) am_e216 rfl rfl rfl rfl ?_
    refine w_cV am_e216 rfl rfl (as := [.ref 99]) (rest := []) rfl rfl (am_ww.mono h ?_)
    rintro _ E5 I5 J5 S5 ⟨rfl, h⟩
    refine q_mkV ?_
    refine w_st (i' := 52) (ls' := [.ref 99, .int p1]) (st' := [.ref 99]) (E' := E5) (I' := I5) (J' := J5) (S' := S5) am_e216 rfl rfl rfl rfl ?_
    refine w_st (i' := 53) (ls' := [.ref 99, .int p1]) (st' := [.int ((I5 99) 42)]) (E' := E5) (I' := I5) (J' := J5) (S' := S5) am_e216 rfl rfl rfl rfl ?_
    exact w_ri am_e216 rfl rfl h
  by_cases c10 : p1 = nI 10
  · replace h := h.2.2.2.2.2.2.2.2.2.2.1 c10
    refine w_to (i2 := 54) (by rw [c10]; first | done | rfl) ?_
    refine w_st (i' := 55) (ls' := [.ref 99, .int p1]) (st' := [.ref 99]) (E' := E1) (I' := I1) (J' := J1) (S' := S1) am_e216 rfl rfl rfl rfl ?_
    refine w_cI am_e216 rfl rfl (as := [.ref 99]) (rest := []) rfl rfl (am_ww.mono h ?_)
    rintro _ E6 I6 J6 S6 ⟨v6, rfl, h⟩
    refine q_mkI ?_
    exact w_ri am_e216 rfl rfl h
  by_cases c11 : p1 = nI 11
  · replace h := h.2.2.2.2.2.2.2.2.2.2.2.1 c11
    refine w_to (i2 := 57) (by rw [c11]; first | done | rfl) ?_
    refine w_st (i' := 58) (ls' := [.ref 99, .int p1]) (st' := [.ref 99]) (E' := E1) (I' := I1) (J' := J1) (S' := S1) am_e216 rfl rfl rfl rfl ?_
    refine w_st (i' := 59) (ls' := [.ref 99, .int p1]) (st' := [.int ((I1 99) 13)]) (E' := E1) (I' := I1) (J' := J1) (S' := S1) am_e216 rfl rfl rfl rfl ?_
    exact w_ri am_e216 rfl rfl h
  by_cases c12 : p1 = nI 12
  · replace h := h.2.2.2.2.2.2.2.2.2.2.2.2.1 c12
    refine w_to (i2 := 60) (by rw [c12]; first | done | rfl) ?_
    refine w_st (i' := 61) (ls' := [.ref 99, .int p1]) (st' := [.ref 99]) (E' := E1) (I' := I1) (J' := J1) (S' := S1) am_e216 rfl rfl rfl rfl ?_
    refine w_cI am_e216 rfl rfl (as := [.ref 99]) (rest := []) rfl rfl (am_ww.mono h ?_)
    rintro _ E7 I7 J7 S7 ⟨v7, rfl, h⟩
    refine q_mkI ?_
    exact w_ri am_e216 rfl rfl h
  by_cases c13 : p1 = nI 13
  · replace h := h.2.2.2.2.2.2.2.2.2.2.2.2.2.1 c13
    refine w_to (i2 := 63) (by rw [c13]; first | done | rfl) ?_
    refine w_st (i' := 64) (ls' := [.ref 99, .int p1]) (st' := [.ref 99]) (E' := E1) (I' := I1) (J' := J1) (S' := S1) am_e216 rfl rfl rfl rfl ?_
    refine w_st (i' := 65) (ls' := [.ref 99, .int p1]) (st' := [.ref 124]) (E' := E1) (I' := I1) (J' := J1) (S' := S1) am_e216 rfl rfl rfl rfl ?_
    refine w_st (i' := 66) (ls' := [.ref 99, .int p1]) (st' := [.int (nI 0), .ref 124]) (E' := E1) (I' := I1) (J' := J1) (S' := S1) am_e216 rfl rfl rfl rfl ?_
    refine w_ia (k := 124) (n := 3) (jn := 0) am_e216 rfl rfl (by decide) (vp_in_nI (by decide) (by decide)) rfl ?_
    show am_ww 216 67 [.ref 99, .int p1] [.int ((I1 124) 0)] E1 I1 J1 S1 _
    refine w_st (i' := 68) (ls' := [.ref 99, .int p1]) (st' := [.ref 99, .int ((I1 124) 0)]) (E' := E1) (I' := I1) (J' := J1) (S' := S1) am_e216 rfl rfl rfl rfl ?_
    refine w_st (i' := 69) (ls' := [.ref 99, .int p1]) (st' := [.ref 124, .int ((I1 124) 0)]) (E' := E1) (I' := I1) (J' := J1) (S' := S1) am_e216 rfl rfl rfl rfl ?_
    refine w_st (i' := 70) (ls' := [.ref 99, .int p1]) (st' := [.int (nI 1), .ref 124, .int ((I1 124) 0)]) (E' := E1) (I' := I1) (J' := J1) (S' := S1) am_e216 rfl rfl rfl rfl ?_
    refine w_ia (k := 124) (n := 3) (jn := 1) am_e216 rfl rfl (by decide) (vp_in_nI (by decide) (by decide)) rfl ?_
    show am_ww 216 71 [.ref 99, .int p1] [.int ((I1 124) 1), .int ((I1 124) 0)] E1 I1 J1 S1 _
    refine w_st (i' := 72) (ls' := [.ref 99, .int p1]) (st' := [.int (((I1 124) 0) + ((I1 124) 1))]) (E' := E1) (I' := I1) (J' := J1) (S' := S1) am_e216 rfl rfl rfl rfl ?_
    refine w_st (i' := 73) (ls' := [.ref 99, .int p1]) (st' := [.ref 99, .int (((I1 124) 0) + ((I1 124) 1))]) (E' := E1) (I' := I1) (J' := J1) (S' := S1) am_e216 rfl rfl rfl rfl ?_
    refine w_st (i' := 74) (ls' := [.ref 99, .int p1]) (st' := [.ref 124, .int (((I1 124) 0) + ((I1 124) 1))]) (E' := E1) (I' := I1) (J' := J1) (S' := S1) am_e216 rfl rfl rfl rfl ?_
    refine w_st (i' := 75) (ls' := [.ref 99, .int p1]) (st' := [.int (nI 2), .ref 124, .int (((I1 124) 0) + ((I1 124) 1))]) (E' := E1) (I' := I1) (J' := J1) (S' := S1) am_e216 rfl rfl rfl rfl ?_
    refine w_ia (k := 124) (n := 3) (jn := 2) am_e216 rfl rfl (by decide) (vp_in_nI (by decide) (by decide)) rfl ?_
    show am_ww 216 76 [.ref 99, .int p1] [.int ((I1 124) 2), .int (((I1 124) 0) + ((I1 124) 1))] E1 I1 J1 S1 _
    refine w_st (i' := 77) (ls' := [.ref 99, .int p1]) (st' := [.int ((((I1 124) 0) + ((I1 124) 1)) + ((I1 124) 2))]) (E' := E1) (I' := I1) (J' := J1) (S' := S1) am_e216 rfl rfl rfl rfl ?_
    refine w_st (i' := 78) (ls' := [.ref 99, .int p1]) (st' := [.ref 99, .int ((((I1 124) 0) + ((I1 124) 1)) + ((I1 124) 2))]) (E' := E1) (I' := I1) (J' := J1) (S' := S1) am_e216 rfl rfl rfl rfl ?_
    refine w_cI am_e216 rfl rfl (as := [.ref 99]) (rest := [.int ((((I1 124) 0) + ((I1 124) 1)) + ((I1 124) 2))]) rfl rfl (am_ww.mono h ?_)
    rintro _ E8 I8 J8 S8 ⟨v8, rfl, h⟩
    refine q_mkI ?_
    refine w_st (i' := 80) (ls' := [.ref 99, .int p1]) (st' := [.int (((((I1 124) 0) + ((I1 124) 1)) + ((I1 124) 2)) - v8)]) (E' := E8) (I' := I8) (J' := J8) (S' := S8) am_e216 rfl rfl rfl rfl ?_
    exact w_ri am_e216 rfl rfl h
  by_cases c14 : p1 = nI 14
  · replace h := h.2.2.2.2.2.2.2.2.2.2.2.2.2.2.1 c14
    refine w_to (i2 := 81) (by rw [c14]; first | done | rfl) ?_
    refine w_st (i' := 82) (ls' := [.ref 99, .int p1]) (st' := [.ref 99]) (E' := E1) (I' := I1) (J' := J1) (S' := S1) am_e216 rfl rfl rfl rfl ?_
    refine w_st (i' := 83) (ls' := [.ref 99, .int p1]) (st' := [.int ((I1 99) 43)]) (E' := E1) (I' := I1) (J' := J1) (S' := S1) am_e216 rfl rfl rfl rfl ?_
    exact w_ri am_e216 rfl rfl h
  by_cases c15 : p1 = nI 15
  · replace h := h.2.2.2.2.2.2.2.2.2.2.2.2.2.2.2.1 c15
    refine w_to (i2 := 84) (by rw [c15]; first | done | rfl) ?_
    refine w_st (i' := 85) (ls' := [.ref 99, .int p1]) (st' := [.ref 99]) (E' := E1) (I' := I1) (J' := J1) (S' := S1) am_e216 rfl rfl rfl rfl ?_
    refine w_st (i' := 86) (ls' := [.ref 99, .int p1]) (st' := [.int ((I1 99) 15)]) (E' := E1) (I' := I1) (J' := J1) (S' := S1) am_e216 rfl rfl rfl rfl ?_
    exact w_ri am_e216 rfl rfl h
  by_cases c16 : p1 = nI 16
  · replace h := h.2.2.2.2.2.2.2.2.2.2.2.2.2.2.2.2.1 c16
    refine w_to (i2 := 87) (by rw [c16]; first | done | rfl) ?_
    refine w_st (i' := 88) (ls' := [.ref 99, .int p1]) (st' := [.ref 99]) (E' := E1) (I' := I1) (J' := J1) (S' := S1) am_e216 rfl rfl rfl rfl ?_
    refine w_st (i' := 89) (ls' := [.ref 99, .int p1]) (st' := [.ref 110]) (E' := E1) (I' := I1) (J' := J1) (S' := S1) am_e216 rfl rfl rfl rfl ?_
    refine w_st (i' := 90) (ls' := [.ref 99, .int p1]) (st' := [.int p1, .ref 110]) (E' := E1) (I' := I1) (J' := J1) (S' := S1) am_e216 rfl rfl rfl rfl ?_
    refine w_st (i' := 91) (ls' := [.ref 99, .int p1]) (st' := [.int (nI 16), .int p1, .ref 110]) (E' := E1) (I' := I1) (J' := J1) (S' := S1) am_e216 rfl rfl rfl rfl ?_
    refine w_st (i' := 92) (ls' := [.ref 99, .int p1]) (st' := [.int (p1 - (nI 16)), .ref 110]) (E' := E1) (I' := I1) (J' := J1) (S' := S1) am_e216 rfl rfl rfl rfl ?_
    have hf9 := h.1
    replace h := h.2
    refine w_ia (k := 110) (n := 2) (jn := (p1 - (nI 16)).toNatClampNeg) am_e216 rfl rfl (by decide) hf9 rfl ?_
    exact w_ri am_e216 rfl rfl h
  by_cases c17 : p1 = nI 17
  · replace h := h.2.2.2.2.2.2.2.2.2.2.2.2.2.2.2.2.2.1 c17
    refine w_to (i2 := 87) (by rw [c17]; first | done | rfl) ?_
    refine w_st (i' := 88) (ls' := [.ref 99, .int p1]) (st' := [.ref 99]) (E' := E1) (I' := I1) (J' := J1) (S' := S1) am_e216 rfl rfl rfl rfl ?_
    refine w_st (i' := 89) (ls' := [.ref 99, .int p1]) (st' := [.ref 110]) (E' := E1) (I' := I1) (J' := J1) (S' := S1) am_e216 rfl rfl rfl rfl ?_
    refine w_st (i' := 90) (ls' := [.ref 99, .int p1]) (st' := [.int p1, .ref 110]) (E' := E1) (I' := I1) (J' := J1) (S' := S1) am_e216 rfl rfl rfl rfl ?_
    refine w_st (i' := 91) (ls' := [.ref 99, .int p1]) (st' := [.int (nI 16), .int p1, .ref 110]) (E' := E1) (I' := I1) (J' := J1) (S' := S1) am_e216 rfl rfl rfl rfl ?_
    refine w_st (i' := 92) (ls' := [.ref 99, .int p1]) (st' := [.int (p1 - (nI 16)), .ref 110]) (E' := E1) (I' := I1) (J' := J1) (S' := S1) am_e216 rfl rfl rfl rfl ?_
    have hf10 := h.1
    replace h := h.2
    refine w_ia (k := 110) (n := 2) (jn := (p1 - (nI 16)).toNatClampNeg) am_e216 rfl rfl (by decide) hf10 rfl ?_
    exact w_ri am_e216 rfl rfl h
  replace h := h.2.2.2.2.2.2.2.2.2.2.2.2.2.2.2.2.2.2 c0 c1 c2 c3 c4 c5 c6 c7 c8 c9 c10 c11 c12 c13 c14 c15 c16 c17
  refine w_to (i2 := 94) (am_tb_out (lo := 0) (up := 17) (by intro q h1 h2; have : q = 0 ∨ q = 1 ∨ q = 2 ∨ q = 3 ∨ q = 4 ∨ q = 5 ∨ q = 6 ∨ q = 7 ∨ q = 8 ∨ q = 9 ∨ q = 10 ∨ q = 11 ∨ q = 12 ∨ q = 13 ∨ q = 14 ∨ q = 15 ∨ q = 16 ∨ q = 17 := (by omega); rcases this with rfl | rfl | rfl | rfl | rfl | rfl | rfl | rfl | rfl | rfl | rfl | rfl | rfl | rfl | rfl | rfl | rfl | rfl <;> assumption)) ?_
  refine w_st (i' := 95) (ls' := [.ref 99, .int p1]) (st' := [.ref 99]) (E' := E1) (I' := I1) (J' := J1) (S' := S1) am_e216 rfl rfl rfl rfl ?_
  refine w_st (i' := 96) (ls' := [.ref 99, .int p1]) (st' := [.int (nI 1), .ref 99]) (E' := E1) (I' := I1) (J' := J1) (S' := S1) am_e216 rfl rfl rfl rfl ?_
  refine w_cI am_e216 rfl rfl (as := [.ref 99, .int (nI 1)]) (rest := []) rfl rfl ?_
  show am_ww 189 0 [.ref 99, .int (nI 1)] [] E1 I1 J1 S1 _
  refine w_st (i' := 1) (ls' := [.ref 99, .int (nI 1)]) (st' := [.ref 99]) (E' := E1) (I' := I1) (J' := J1) (S' := S1) am_e189 rfl rfl rfl rfl ?_
  refine w_st (i' := 2) (ls' := [.ref 99, .int (nI 1)]) (st' := [.int (nI 1), .ref 99]) (E' := E1) (I' := I1) (J' := J1) (S' := S1) am_e189 rfl rfl rfl rfl ?_
  refine w_st (i' := 3) (ls' := [.ref 99, .int (nI 1)]) (st' := []) (E' := E1) (I' := (u_I I1 99 (upd (I1 99) 3 (nI 1)))) (J' := J1) (S' := S1) am_e189 rfl rfl rfl rfl ?_
  refine w_st (i' := 4) (ls' := [.ref 99, .int (nI 1)]) (st' := [.int (nI 0)]) (E' := E1) (I' := (u_I I1 99 (upd (I1 99) 3 (nI 1)))) (J' := J1) (S' := S1) am_e189 rfl rfl rfl rfl ?_
  refine w_end (E' := E1) (I' := (u_I I1 99 (upd (I1 99) 3 (nI 1)))) (J' := J1) (S' := S1) am_e189 rfl rfl rfl (q_mkI ?_)
  show am_ww 216 97 [.ref 99, .int p1] [.int (nI 0)] E1 (u_I I1 99 (upd (I1 99) 3 (nI 1))) J1 S1 _
  exact w_end am_e216 rfl rfl rfl h
-- 215 fault
theorem g215_0  {E : am_Ev} {I : Nat → Nat → Int32} {J : Nat → Nat → Int64} {S : Nat → Nat → Option Nat} {Q : am_Qt}  (h : Q (.inl (some (.int ((I 99) 24)))) E (u_I I 99 (upd (I 99) 3 (nI 0))) J S) : am_ww 215 0 [.ref 99] [] E I J S Q := by
  refine w_st (i' := 1) (ls' := [.ref 99]) (st' := [.ref 99]) (E' := E) (I' := I) (J' := J) (S' := S) am_e215 rfl rfl rfl rfl ?_
  refine w_st (i' := 2) (ls' := [.ref 99]) (st' := [.int (nI 0), .ref 99]) (E' := E) (I' := I) (J' := J) (S' := S) am_e215 rfl rfl rfl rfl ?_
  refine w_st (i' := 3) (ls' := [.ref 99]) (st' := []) (E' := E) (I' := (u_I I 99 (upd (I 99) 3 (nI 0)))) (J' := J) (S' := S) am_e215 rfl rfl rfl rfl ?_
  refine w_st (i' := 4) (ls' := [.ref 99]) (st' := [.ref 99]) (E' := E) (I' := (u_I I 99 (upd (I 99) 3 (nI 0)))) (J' := J) (S' := S) am_e215 rfl rfl rfl rfl ?_
  refine w_st (i' := 5) (ls' := [.ref 99]) (st' := [.int ((I 99) 24)]) (E' := E) (I' := (u_I I 99 (upd (I 99) 3 (nI 0)))) (J' := J) (S' := S) am_e215 rfl rfl rfl rfl ?_
  exact w_ri am_e215 rfl rfl h
-- 186 thrown
theorem g186_0  {E : am_Ev} {I : Nat → Nat → Int32} {J : Nat → Nat → Int64} {S : Nat → Nat → Option Nat} {Q : am_Qt}  (h : Q (.inl (some (.int ((I 99) 3)))) E I J S) : am_ww 186 0 [.ref 99] [] E I J S Q := by
  refine w_st (i' := 1) (ls' := [.ref 99]) (st' := [.ref 99]) (E' := E) (I' := I) (J' := J) (S' := S) am_e186 rfl rfl rfl rfl ?_
  refine w_st (i' := 2) (ls' := [.ref 99]) (st' := [.int ((I 99) 3)]) (E' := E) (I' := I) (J' := J) (S' := S) am_e186 rfl rfl rfl rfl ?_
  exact w_ri am_e186 rfl rfl h
