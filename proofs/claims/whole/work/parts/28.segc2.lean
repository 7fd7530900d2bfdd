/-! rows of methods, by program -/
-- 16 begin
theorem g16_0_20  {E : am_Ev} {I : Nat → Nat → Int32} {J : Nat → Nat → Int64} {S : Nat → Nat → Option Nat} {Q : am_Qt}  (h : am_cl 13 [.ref 22, .int (nI 0)] E (u_I I 21 (va_cpy (I 16) (I 21) 0 0 16)) J S (q_V fun E1 I1 J1 S1 => am_cl 13 [.ref 23, .int (nI 0)] E1 I1 J1 S1 (q_V fun E2 I2 J2 S2 => am_cl 13 [.ref 24, .int (nI 0)] E2 I2 J2 S2 (q_V fun E3 I3 J3 S3 => am_cl 13 [.ref 25, .int (-1)] E3 I3 J3 S3 (q_V fun E4 I4 J4 S4 => am_cl 13 [.ref 26, .int (nI 0)] E4 I4 J4 S4 (q_V fun E5 I5 J5 S5 => Q (.inl none) E5 (u_I I5 20 (upd (I5 20) 6 (-1))) J5 S5)))))) : am_ww 16 0 [.ref 20, .ref 12] [] E I J S Q := by
  refine w_st (i' := 1) (ls' := [.ref 20, .ref 12]) (st' := [.ref 12]) (E' := E) (I' := I) (J' := J) (S' := S) am_e16 rfl rfl rfl rfl ?_
  refine w_st (i' := 2) (ls' := [.ref 20, .ref 12]) (st' := [.ref 16]) (E' := E) (I' := I) (J' := J) (S' := S) am_e16 rfl rfl rfl rfl ?_
  refine w_st (i' := 3) (ls' := [.ref 20, .ref 12]) (st' := [.int (nI 0), .ref 16]) (E' := E) (I' := I) (J' := J) (S' := S) am_e16 rfl rfl rfl rfl ?_
  refine w_st (i' := 4) (ls' := [.ref 20, .ref 12]) (st' := [.ref 20, .int (nI 0), .ref 16]) (E' := E) (I' := I) (J' := J) (S' := S) am_e16 rfl rfl rfl rfl ?_
  refine w_st (i' := 5) (ls' := [.ref 20, .ref 12]) (st' := [.ref 21, .int (nI 0), .ref 16]) (E' := E) (I' := I) (J' := J) (S' := S) am_e16 rfl rfl rfl rfl ?_
  refine w_st (i' := 6) (ls' := [.ref 20, .ref 12]) (st' := [.int (nI 0), .ref 21, .int (nI 0), .ref 16]) (E' := E) (I' := I) (J' := J) (S' := S) am_e16 rfl rfl rfl rfl ?_
  refine w_st (i' := 7) (ls' := [.ref 20, .ref 12]) (st' := [.int (nI 16), .int (nI 0), .ref 21, .int (nI 0), .ref 16]) (E' := E) (I' := I) (J' := J) (S' := S) am_e16 rfl rfl rfl rfl ?_
  refine w_cp (k := 16) (a := 21) (nk := 16) (na := 16) am_e16 rfl (by decide) (by decide) rfl rfl (by decide) (by unfold am_cpOk; decide) ?_
  show am_ww 16 8 [.ref 20, .ref 12] [] E (u_I I 21 (va_cpy (I 16) (I 21) 0 0 16)) J S _
  refine w_st (i' := 9) (ls' := [.ref 20, .ref 12]) (st' := [.ref 20]) (E' := E) (I' := (u_I I 21 (va_cpy (I 16) (I 21) 0 0 16))) (J' := J) (S' := S) am_e16 rfl rfl rfl rfl ?_
  refine w_st (i' := 10) (ls' := [.ref 20, .ref 12]) (st' := [.ref 22]) (E' := E) (I' := (u_I I 21 (va_cpy (I 16) (I 21) 0 0 16))) (J' := J) (S' := S) am_e16 rfl rfl rfl rfl ?_
  refine w_st (i' := 11) (ls' := [.ref 20, .ref 12]) (st' := [.int (nI 0), .ref 22]) (E' := E) (I' := (u_I I 21 (va_cpy (I 16) (I 21) 0 0 16))) (J' := J) (S' := S) am_e16 rfl rfl rfl rfl ?_
  refine w_cV am_e16 rfl rfl (as := [.ref 22, .int (nI 0)]) (rest := []) rfl rfl (am_ww.mono h ?_)
  rintro _ E1 I1 J1 S1 ⟨rfl, h⟩
  refine q_mkV ?_
  refine w_st (i' := 13) (ls' := [.ref 20, .ref 12]) (st' := [.ref 20]) (E' := E1) (I' := I1) (J' := J1) (S' := S1) am_e16 rfl rfl rfl rfl ?_
  refine w_st (i' := 14) (ls' := [.ref 20, .ref 12]) (st' := [.ref 23]) (E' := E1) (I' := I1) (J' := J1) (S' := S1) am_e16 rfl rfl rfl rfl ?_
  refine w_st (i' := 15) (ls' := [.ref 20, .ref 12]) (st' := [.int (nI 0), .ref 23]) (E' := E1) (I' := I1) (J' := J1) (S' := S1) am_e16 rfl rfl rfl rfl ?_
  refine w_cV am_e16 rfl rfl (as := [.ref 23, .int (nI 0)]) (rest := []) rfl rfl (am_ww.mono h ?_)
  rintro _ E2 I2 J2 S2 ⟨rfl, h⟩
  refine q_mkV ?_
  refine w_st (i' := 17) (ls' := [.ref 20, .ref 12]) (st' := [.ref 20]) (E' := E2) (I' := I2) (J' := J2) (S' := S2) am_e16 rfl rfl rfl rfl ?_
  refine w_st (i' := 18) (ls' := [.ref 20, .ref 12]) (st' := [.ref 24]) (E' := E2) (I' := I2) (J' := J2) (S' := S2) am_e16 rfl rfl rfl rfl ?_
  refine w_st (i' := 19) (ls' := [.ref 20, .ref 12]) (st' := [.int (nI 0), .ref 24]) (E' := E2) (I' := I2) (J' := J2) (S' := S2) am_e16 rfl rfl rfl rfl ?_
  refine w_cV am_e16 rfl rfl (as := [.ref 24, .int (nI 0)]) (rest := []) rfl rfl (am_ww.mono h ?_)
  rintro _ E3 I3 J3 S3 ⟨rfl, h⟩
  refine q_mkV ?_
  refine w_st (i' := 21) (ls' := [.ref 20, .ref 12]) (st' := [.ref 20]) (E' := E3) (I' := I3) (J' := J3) (S' := S3) am_e16 rfl rfl rfl rfl ?_
  refine w_st (i' := 22) (ls' := [.ref 20, .ref 12]) (st' := [.ref 25]) (E' := E3) (I' := I3) (J' := J3) (S' := S3) am_e16 rfl rfl rfl rfl ?_
  refine w_st (i' := 23) (ls' := [.ref 20, .ref 12]) (st' := [.int (-1), .ref 25]) (E' := E3) (I' := I3) (J' := J3) (S' := S3) am_e16 rfl rfl rfl rfl ?_
  refine w_cV am_e16 rfl rfl (as := [.ref 25, .int (-1)]) (rest := []) rfl rfl (am_ww.mono h ?_)
  rintro _ E4 I4 J4 S4 ⟨rfl, h⟩
  refine q_mkV ?_
  refine w_st (i' := 25) (ls' := [.ref 20, .ref 12]) (st' := [.ref 20]) (E' := E4) (I' := I4) (J' := J4) (S' := S4) am_e16 rfl rfl rfl rfl ?_
  refine w_st (i' := 26) (ls' := [.ref 20, .ref 12]) (st' := [.ref 26]) (E' := E4) (I' := I4) (J' := J4) (S' := S4) am_e16 rfl rfl rfl rfl ?_
  refine w_st (i' := 27) (ls' := [.ref 20, .ref 12]) (st' := [.int (nI 0), .ref 26]) (E' := E4) (I' := I4) (J' := J4) (S' := S4) am_e16 rfl rfl rfl rfl ?_
  refine w_cV am_e16 rfl rfl (as := [.ref 26, .int (nI 0)]) (rest := []) rfl rfl (am_ww.mono h ?_)
  rintro _ E5 I5 J5 S5 ⟨rfl, h⟩
  refine q_mkV ?_
  refine w_st (i' := 29) (ls' := [.ref 20, .ref 12]) (st' := [.ref 20]) (E' := E5) (I' := I5) (J' := J5) (S' := S5) am_e16 rfl rfl rfl rfl ?_
  refine w_st (i' := 30) (ls' := [.ref 20, .ref 12]) (st' := [.int (-1), .ref 20]) (E' := E5) (I' := I5) (J' := J5) (S' := S5) am_e16 rfl rfl rfl rfl ?_
  refine w_st (i' := 31) (ls' := [.ref 20, .ref 12]) (st' := []) (E' := E5) (I' := (u_I I5 20 (upd (I5 20) 6 (-1)))) (J' := J5) (S' := S5) am_e16 rfl rfl rfl rfl ?_
  exact w_end am_e16 rfl rfl rfl h
-- 24 nextRow
theorem g24_0_20 {p2 : Int32} {E : am_Ev} {I : Nat → Nat → Int32} {J : Nat → Nat → Int64} {S : Nat → Nat → Option Nat} {Q : am_Qt}  (h : (p2 < 0 → (Q (.inl (some (.int (-1)))) E I J S)) ∧ (¬ p2 < 0 → ((((I 12) 5) ≤ p2 → (Q (.inl (some (.int (-1)))) E I J S)) ∧ (¬ ((I 12) 5) ≤ p2 → (vp_in p2 4 ∧ ((((I 23) p2.toNatClampNeg) < ((I 15) p2.toNatClampNeg) → (Q (.inl (some (.int ((p2 * (nI 16)) + ((I 23) p2.toNatClampNeg))))) E I J S)) ∧ (¬ ((I 23) p2.toNatClampNeg) < ((I 15) p2.toNatClampNeg) → (Q (.inl (some (.int (-1)))) E I J S)))))))) : am_ww 24 0 [.ref 20, .ref 12, .int p2] [] E I J S Q := by
  refine w_st (i' := 1) (ls' := [.ref 20, .ref 12, .int p2]) (st' := [.int p2]) (E' := E) (I' := I) (J' := J) (S' := S) am_e24 rfl rfl rfl rfl ?_
  refine w_if1 am_e24 rfl rfl (fun c => ?_) (fun c => ?_)
  · replace h := h.1 (of_decide_eq_true c)
    refine w_st (i' := 12) (ls' := [.ref 20, .ref 12, .int p2]) (st' := [.int (-1)]) (E' := E) (I' := I) (J' := J) (S' := S) am_e24 rfl rfl rfl rfl ?_
    exact w_end am_e24 rfl rfl rfl h
  · replace h := h.2 (of_decide_eq_false c)
    refine w_st (i' := 3) (ls' := [.ref 20, .ref 12, .int p2]) (st' := [.int p2]) (E' := E) (I' := I) (J' := J) (S' := S) am_e24 rfl rfl rfl rfl ?_
    refine w_st (i' := 4) (ls' := [.ref 20, .ref 12, .int p2]) (st' := [.ref 12, .int p2]) (E' := E) (I' := I) (J' := J) (S' := S) am_e24 rfl rfl rfl rfl ?_
    refine w_st (i' := 5) (ls' := [.ref 20, .ref 12, .int p2]) (st' := [.int ((I 12) 5), .int p2]) (E' := E) (I' := I) (J' := J) (S' := S) am_e24 rfl rfl rfl rfl ?_
    refine w_if2 am_e24 rfl rfl (fun c => ?_) (fun c => ?_)
    · replace h := h.1 (of_decide_eq_true c)
      refine w_st (i' := 12) (ls' := [.ref 20, .ref 12, .int p2]) (st' := [.int (-1)]) (E' := E) (I' := I) (J' := J) (S' := S) am_e24 rfl rfl rfl rfl ?_
      exact w_end am_e24 rfl rfl rfl h
    · replace h := h.2 (of_decide_eq_false c)
      refine w_st (i' := 7) (ls' := [.ref 20, .ref 12, .int p2]) (st' := [.ref 20]) (E' := E) (I' := I) (J' := J) (S' := S) am_e24 rfl rfl rfl rfl ?_
      refine w_st (i' := 8) (ls' := [.ref 20, .ref 12, .int p2]) (st' := [.ref 12, .ref 20]) (E' := E) (I' := I) (J' := J) (S' := S) am_e24 rfl rfl rfl rfl ?_
      refine w_st (i' := 9) (ls' := [.ref 20, .ref 12, .int p2]) (st' := [.int p2, .ref 12, .ref 20]) (E' := E) (I' := I) (J' := J) (S' := S) am_e24 rfl rfl rfl rfl ?_
      refine w_cI am_e24 rfl rfl (as := [.ref 20, .ref 12, .int p2]) (rest := []) rfl rfl ?_
      show am_ww 25 0 [.ref 20, .ref 12, .int p2] [] E I J S _
      refine w_st (i' := 1) (ls' := [.ref 20, .ref 12, .int p2]) (st' := [.ref 20]) (E' := E) (I' := I) (J' := J) (S' := S) am_e25 rfl rfl rfl rfl ?_
      refine w_st (i' := 2) (ls' := [.ref 20, .ref 12, .int p2]) (st' := [.ref 23]) (E' := E) (I' := I) (J' := J) (S' := S) am_e25 rfl rfl rfl rfl ?_
      refine w_st (i' := 3) (ls' := [.ref 20, .ref 12, .int p2]) (st' := [.int p2, .ref 23]) (E' := E) (I' := I) (J' := J) (S' := S) am_e25 rfl rfl rfl rfl ?_
      have hf1 := h.1
      replace h := h.2
      refine w_ia (k := 23) (n := 4) (jn := p2.toNatClampNeg) am_e25 rfl rfl (by decide) hf1 rfl ?_
      refine w_st (i' := 5) (ls' := [.ref 20, .ref 12, .int p2]) (st' := [.ref 12, .int ((I 23) p2.toNatClampNeg)]) (E' := E) (I' := I) (J' := J) (S' := S) am_e25 rfl rfl rfl rfl ?_
      refine w_st (i' := 6) (ls' := [.ref 20, .ref 12, .int p2]) (st' := [.ref 15, .int ((I 23) p2.toNatClampNeg)]) (E' := E) (I' := I) (J' := J) (S' := S) am_e25 rfl rfl rfl rfl ?_
      refine w_st (i' := 7) (ls' := [.ref 20, .ref 12, .int p2]) (st' := [.int p2, .ref 15, .int ((I 23) p2.toNatClampNeg)]) (E' := E) (I' := I) (J' := J) (S' := S) am_e25 rfl rfl rfl rfl ?_
      refine w_ia (k := 15) (n := 4) (jn := p2.toNatClampNeg) am_e25 rfl rfl (by decide) hf1 rfl ?_
      refine w_if2 am_e25 rfl rfl (fun c => ?_) (fun c => ?_)
      · replace h := h.1 (of_decide_eq_true c)
        refine w_st (i' := 12) (ls' := [.ref 20, .ref 12, .int p2]) (st' := [.int (nI 0)]) (E' := E) (I' := I) (J' := J) (S' := S) am_e25 rfl rfl rfl rfl ?_
        refine w_end (E' := E) (I' := I) (J' := J) (S' := S) am_e25 rfl rfl rfl (q_mkI ?_)
        show am_ww 24 10 [.ref 20, .ref 12, .int p2] [.int (nI 0)] E I J S _
        refine w_st (i' := 13) (ls' := [.ref 20, .ref 12, .int p2]) (st' := []) (E' := E) (I' := I) (J' := J) (S' := S) am_e24 rfl rfl rfl rfl ?_
        refine w_st (i' := 14) (ls' := [.ref 20, .ref 12, .int p2]) (st' := [.int p2]) (E' := E) (I' := I) (J' := J) (S' := S) am_e24 rfl rfl rfl rfl ?_
        refine w_st (i' := 15) (ls' := [.ref 20, .ref 12, .int p2]) (st' := [.int (nI 16), .int p2]) (E' := E) (I' := I) (J' := J) (S' := S) am_e24 rfl rfl rfl rfl ?_
        refine w_st (i' := 16) (ls' := [.ref 20, .ref 12, .int p2]) (st' := [.int (p2 * (nI 16))]) (E' := E) (I' := I) (J' := J) (S' := S) am_e24 rfl rfl rfl rfl ?_
        refine w_st (i' := 17) (ls' := [.ref 20, .ref 12, .int p2]) (st' := [.ref 20, .int (p2 * (nI 16))]) (E' := E) (I' := I) (J' := J) (S' := S) am_e24 rfl rfl rfl rfl ?_
        refine w_st (i' := 18) (ls' := [.ref 20, .ref 12, .int p2]) (st' := [.ref 23, .int (p2 * (nI 16))]) (E' := E) (I' := I) (J' := J) (S' := S) am_e24 rfl rfl rfl rfl ?_
        refine w_st (i' := 19) (ls' := [.ref 20, .ref 12, .int p2]) (st' := [.int p2, .ref 23, .int (p2 * (nI 16))]) (E' := E) (I' := I) (J' := J) (S' := S) am_e24 rfl rfl rfl rfl ?_
        refine w_ia (k := 23) (n := 4) (jn := p2.toNatClampNeg) am_e24 rfl rfl (by decide) hf1 rfl ?_
        refine w_st (i' := 21) (ls' := [.ref 20, .ref 12, .int p2]) (st' := [.int ((p2 * (nI 16)) + ((I 23) p2.toNatClampNeg))]) (E' := E) (I' := I) (J' := J) (S' := S) am_e24 rfl rfl rfl rfl ?_
        exact w_ri am_e24 rfl rfl h
      · replace h := h.2 (of_decide_eq_false c)
        refine w_st (i' := 10) (ls' := [.ref 20, .ref 12, .int p2]) (st' := [.int (nI 1)]) (E' := E) (I' := I) (J' := J) (S' := S) am_e25 rfl rfl rfl rfl ?_
        refine w_st (i' := 12) (ls' := [.ref 20, .ref 12, .int p2]) (st' := [.int (nI 1)]) (E' := E) (I' := I) (J' := J) (S' := S) am_e25 rfl rfl rfl rfl ?_
        refine w_end (E' := E) (I' := I) (J' := J) (S' := S) am_e25 rfl rfl rfl (q_mkI ?_)
        show am_ww 24 10 [.ref 20, .ref 12, .int p2] [.int (nI 1)] E I J S _
        refine w_st (i' := 11) (ls' := [.ref 20, .ref 12, .int p2]) (st' := []) (E' := E) (I' := I) (J' := J) (S' := S) am_e24 rfl rfl rfl rfl ?_
        refine w_st (i' := 12) (ls' := [.ref 20, .ref 12, .int p2]) (st' := [.int (-1)]) (E' := E) (I' := I) (J' := J) (S' := S) am_e24 rfl rfl rfl rfl ?_
        exact w_end am_e24 rfl rfl rfl h
-- 23 canGo
theorem g23_0_20 {p2 : Int32} {E : am_Ev} {I : Nat → Nat → Int32} {J : Nat → Nat → Int64} {S : Nat → Nat → Option Nat} {Q : am_Qt}  (h : am_cl 24 [.ref 20, .ref 12, .int p2] E I J S (q_I fun v1 E1 I1 J1 S1 => (v1 = (-1) → (Q (.inl (some (.int (nI 0)))) E1 I1 J1 S1)) ∧ (¬ v1 = (-1) → (vp_in v1 64 ∧ ((((I1 13) v1.toNatClampNeg) = (nI 13) → (vp_in ((v1 * (nI 3)) + (nI 0)) 192 ∧ (∀ w7 : Int32, w7 = ((I1 14) (((v1 * (nI 3)) + (nI 0)).toNatClampNeg)) → (vp_in w7 4 ∧ ((((I1 25) w7.toNatClampNeg) = (-1) → (Q (.inl (some (.int (nI 1)))) E1 I1 J1 S1)) ∧ (¬ ((I1 25) w7.toNatClampNeg) = (-1) → (Q (.inl (some (.int (nI 0)))) E1 I1 J1 S1))))))) ∧ (¬ ((I1 13) v1.toNatClampNeg) = (nI 13) → ((((I1 13) v1.toNatClampNeg) = (nI 12) → (vp_in ((v1 * (nI 3)) + (nI 1)) 192 ∧ (∀ w4 : Int32, w4 = ((I1 14) (((v1 * (nI 3)) + (nI 1)).toNatClampNeg)) → (vp_in w4 3 ∧ ((((I1 28) w4.toNatClampNeg) ≤ ((I1 26) w4.toNatClampNeg) → (Q (.inl (some (.int (nI 0)))) E1 I1 J1 S1)) ∧ (¬ ((I1 28) w4.toNatClampNeg) ≤ ((I1 26) w4.toNatClampNeg) → (Q (.inl (some (.int (nI 1)))) E1 I1 J1 S1))))))) ∧ (¬ ((I1 13) v1.toNatClampNeg) = (nI 12) → (Q (.inl (some (.int (nI 1)))) E1 I1 J1 S1))))))))) : am_ww 23 0 [.ref 20, .ref 12, .int p2, .ref 28, am_U, am_U] [] E I J S Q := by
  refine w_st (i' := 1) (ls' := [.ref 20, .ref 12, .int p2, .ref 28, am_U, am_U]) (st' := [.ref 20]) (E' := E) (I' := I) (J' := J) (S' := S) am_e23 rfl rfl rfl rfl ?_
  refine w_st (i' := 2) (ls' := [.ref 20, .ref 12, .int p2, .ref 28, am_U, am_U]) (st' := [.ref 12, .ref 20]) (E' := E) (I' := I) (J' := J) (S' := S) am_e23 rfl rfl rfl rfl ?_
  refine w_st (i' := 3) (ls' := [.ref 20, .ref 12, .int p2, .ref 28, am_U, am_U]) (st' := [.int p2, .ref 12, .ref 20]) (E' := E) (I' := I) (J' := J) (S' := S) am_e23 rfl rfl rfl rfl ?_
  refine w_cI am_e23 rfl rfl (as := [.ref 20, .ref 12, .int p2]) (rest := []) rfl rfl (am_ww.mono h ?_)
  rintro _ E1 I1 J1 S1 ⟨v1, rfl, h⟩
  refine q_mkI ?_
  refine w_st (i' := 5) (ls' := [.ref 20, .ref 12, .int p2, .ref 28, .int v1, am_U]) (st' := []) (E' := E1) (I' := I1) (J' := J1) (S' := S1) am_e23 rfl rfl rfl rfl ?_
  refine w_st (i' := 6) (ls' := [.ref 20, .ref 12, .int p2, .ref 28, .int v1, am_U]) (st' := [.int v1]) (E' := E1) (I' := I1) (J' := J1) (S' := S1) am_e23 rfl rfl rfl rfl ?_
  refine w_st (i' := 7) (ls' := [.ref 20, .ref 12, .int p2, .ref 28, .int v1, am_U]) (st' := [.int (-1), .int v1]) (E' := E1) (I' := I1) (J' := J1) (S' := S1) am_e23 rfl rfl rfl rfl ?_
  refine w_if2 am_e23 rfl rfl (fun c => ?_) (fun c => ?_)
  · replace h := h.2 (of_decide_eq_true c)
    refine w_st (i' := 11) (ls' := [.ref 20, .ref 12, .int p2, .ref 28, .int v1, am_U]) (st' := [.ref 12]) (E' := E1) (I' := I1) (J' := J1) (S' := S1) am_e23 rfl rfl rfl rfl ?_
    refine w_st (i' := 12) (ls' := [.ref 20, .ref 12, .int p2, .ref 28, .int v1, am_U]) (st' := [.ref 13]) (E' := E1) (I' := I1) (J' := J1) (S' := S1) am_e23 rfl rfl rfl rfl ?_
    refine w_st (i' := 13) (ls' := [.ref 20, .ref 12, .int p2, .ref 28, .int v1, am_U]) (st' := [.int v1, .ref 13]) (E' := E1) (I' := I1) (J' := J1) (S' := S1) am_e23 rfl rfl rfl rfl ?_
    have hf2 := h.1
    replace h := h.2
    refine w_ia (k := 13) (n := 64) (jn := v1.toNatClampNeg) am_e23 rfl rfl (by decide) hf2 rfl ?_
    refine w_st (i' := 15) (ls' := [.ref 20, .ref 12, .int p2, .ref 28, .int v1, am_U]) (st' := [.int (nI 13), .int ((I1 13) v1.toNatClampNeg)]) (E' := E1) (I' := I1) (J' := J1) (S' := S1) am_e23 rfl rfl rfl rfl ?_
    refine w_if2 am_e23 rfl rfl (fun c => ?_) (fun c => ?_)
    · replace h := h.2 (of_decide_eq_true c)
      refine w_st (i' := 30) (ls' := [.ref 20, .ref 12, .int p2, .ref 28, .int v1, am_U]) (st' := [.ref 12]) (E' := E1) (I' := I1) (J' := J1) (S' := S1) am_e23 rfl rfl rfl rfl ?_
      refine w_st (i' := 31) (ls' := [.ref 20, .ref 12, .int p2, .ref 28, .int v1, am_U]) (st' := [.ref 13]) (E' := E1) (I' := I1) (J' := J1) (S' := S1) am_e23 rfl rfl rfl rfl ?_
      refine w_st (i' := 32) (ls' := [.ref 20, .ref 12, .int p2, .ref 28, .int v1, am_U]) (st' := [.int v1, .ref 13]) (E' := E1) (I' := I1) (J' := J1) (S' := S1) am_e23 rfl rfl rfl rfl ?_
      refine w_ia (k := 13) (n := 64) (jn := v1.toNatClampNeg) am_e23 rfl rfl (by decide) hf2 rfl ?_
      refine w_st (i' := 34) (ls' := [.ref 20, .ref 12, .int p2, .ref 28, .int v1, am_U]) (st' := [.int (nI 12), .int ((I1 13) v1.toNatClampNeg)]) (E' := E1) (I' := I1) (J' := J1) (S' := S1) am_e23 rfl rfl rfl rfl ?_
      refine w_if2 am_e23 rfl rfl (fun c => ?_) (fun c => ?_)
      · replace h := h.2 (of_decide_eq_true c)
        refine w_st (i' := 53) (ls' := [.ref 20, .ref 12, .int p2, .ref 28, .int v1, am_U]) (st' := [.int (nI 1)]) (E' := E1) (I' := I1) (J' := J1) (S' := S1) am_e23 rfl rfl rfl rfl ?_
        exact w_end am_e23 rfl rfl rfl h
      · replace h := h.1 (Decidable.not_not.mp (of_decide_eq_false c))
        refine w_st (i' := 36) (ls' := [.ref 20, .ref 12, .int p2, .ref 28, .int v1, am_U]) (st' := [.ref 12]) (E' := E1) (I' := I1) (J' := J1) (S' := S1) am_e23 rfl rfl rfl rfl ?_
        refine w_st (i' := 37) (ls' := [.ref 20, .ref 12, .int p2, .ref 28, .int v1, am_U]) (st' := [.int v1, .ref 12]) (E' := E1) (I' := I1) (J' := J1) (S' := S1) am_e23 rfl rfl rfl rfl ?_
        refine w_st (i' := 38) (ls' := [.ref 20, .ref 12, .int p2, .ref 28, .int v1, am_U]) (st' := [.int (nI 1), .int v1, .ref 12]) (E' := E1) (I' := I1) (J' := J1) (S' := S1) am_e23 rfl rfl rfl rfl ?_
        refine w_cI am_e23 rfl rfl (as := [.ref 12, .int v1, .int (nI 1)]) (rest := []) rfl rfl ?_
        show am_ww 26 0 [.ref 12, .int v1, .int (nI 1)] [] E1 I1 J1 S1 _
        refine w_st (i' := 1) (ls' := [.ref 12, .int v1, .int (nI 1)]) (st' := [.ref 12]) (E' := E1) (I' := I1) (J' := J1) (S' := S1) am_e26 rfl rfl rfl rfl ?_
        refine w_st (i' := 2) (ls' := [.ref 12, .int v1, .int (nI 1)]) (st' := [.ref 14]) (E' := E1) (I' := I1) (J' := J1) (S' := S1) am_e26 rfl rfl rfl rfl ?_
        refine w_st (i' := 3) (ls' := [.ref 12, .int v1, .int (nI 1)]) (st' := [.int v1, .ref 14]) (E' := E1) (I' := I1) (J' := J1) (S' := S1) am_e26 rfl rfl rfl rfl ?_
        refine w_st (i' := 4) (ls' := [.ref 12, .int v1, .int (nI 1)]) (st' := [.int (nI 3), .int v1, .ref 14]) (E' := E1) (I' := I1) (J' := J1) (S' := S1) am_e26 rfl rfl rfl rfl ?_
        refine w_st (i' := 5) (ls' := [.ref 12, .int v1, .int (nI 1)]) (st' := [.int (v1 * (nI 3)), .ref 14]) (E' := E1) (I' := I1) (J' := J1) (S' := S1) am_e26 rfl rfl rfl rfl ?_
        refine w_st (i' := 6) (ls' := [.ref 12, .int v1, .int (nI 1)]) (st' := [.int (nI 1), .int (v1 * (nI 3)), .ref 14]) (E' := E1) (I' := I1) (J' := J1) (S' := S1) am_e26 rfl rfl rfl rfl ?_
        refine w_st (i' := 7) (ls' := [.ref 12, .int v1, .int (nI 1)]) (st' := [.int ((v1 * (nI 3)) + (nI 1)), .ref 14]) (E' := E1) (I' := I1) (J' := J1) (S' := S1) am_e26 rfl rfl rfl rfl ?_
        have hf3 := h.1
        replace h := h.2
        refine w_ia (k := 14) (n := 192) (jn := ((v1 * (nI 3)) + (nI 1)).toNatClampNeg) am_e26 rfl rfl (by decide) hf3 rfl ?_
        refine w_ri am_e26 rfl rfl (q_mkI ?_)
        show am_ww 23 39 [.ref 20, .ref 12, .int p2, .ref 28, .int v1, am_U] [.int ((I1 14) (((v1 * (nI 3)) + (nI 1)).toNatClampNeg))] E1 I1 J1 S1 _
        refine w_var (fun w4 => am_ww 23 39 [.ref 20, .ref 12, .int p2, .ref 28, .int v1, am_U] [.int w4] E1 I1 J1 S1 _) ((I1 14) (((v1 * (nI 3)) + (nI 1)).toNatClampNeg)) (fun w4 hw4 => ?_)
        replace h := h w4 hw4
        refine w_st (i' := 40) (ls' := [.ref 20, .ref 12, .int p2, .ref 28, .int v1, .int w4]) (st' := []) (E' := E1) (I' := I1) (J' := J1) (S' := S1) am_e23 rfl rfl rfl rfl ?_
        refine w_st (i' := 41) (ls' := [.ref 20, .ref 12, .int p2, .ref 28, .int v1, .int w4]) (st' := [.ref 20]) (E' := E1) (I' := I1) (J' := J1) (S' := S1) am_e23 rfl rfl rfl rfl ?_
        refine w_st (i' := 42) (ls' := [.ref 20, .ref 12, .int p2, .ref 28, .int v1, .int w4]) (st' := [.ref 26]) (E' := E1) (I' := I1) (J' := J1) (S' := S1) am_e23 rfl rfl rfl rfl ?_
        refine w_st (i' := 43) (ls' := [.ref 20, .ref 12, .int p2, .ref 28, .int v1, .int w4]) (st' := [.int w4, .ref 26]) (E' := E1) (I' := I1) (J' := J1) (S' := S1) am_e23 rfl rfl rfl rfl ?_
        have hf5 := h.1
        replace h := h.2
        refine w_ia (k := 26) (n := 3) (jn := w4.toNatClampNeg) am_e23 rfl rfl (by decide) hf5 rfl ?_
        refine w_st (i' := 45) (ls' := [.ref 20, .ref 12, .int p2, .ref 28, .int v1, .int w4]) (st' := [.ref 28, .int ((I1 26) w4.toNatClampNeg)]) (E' := E1) (I' := I1) (J' := J1) (S' := S1) am_e23 rfl rfl rfl rfl ?_
        refine w_st (i' := 46) (ls' := [.ref 20, .ref 12, .int p2, .ref 28, .int v1, .int w4]) (st' := [.int w4, .ref 28, .int ((I1 26) w4.toNatClampNeg)]) (E' := E1) (I' := I1) (J' := J1) (S' := S1) am_e23 rfl rfl rfl rfl ?_
        refine w_ia (k := 28) (n := 3) (jn := w4.toNatClampNeg) am_e23 rfl rfl (by decide) hf5 rfl ?_
        refine w_if2 am_e23 rfl rfl (fun c => ?_) (fun c => ?_)
        · replace h := h.1 (of_decide_eq_true c)
          refine w_st (i' := 51) (ls' := [.ref 20, .ref 12, .int p2, .ref 28, .int v1, .int w4]) (st' := [.int (nI 0)]) (E' := E1) (I' := I1) (J' := J1) (S' := S1) am_e23 rfl rfl rfl rfl ?_
          exact w_end am_e23 rfl rfl rfl h
        · replace h := h.2 (of_decide_eq_false c)
          refine w_st (i' := 49) (ls' := [.ref 20, .ref 12, .int p2, .ref 28, .int v1, .int w4]) (st' := [.int (nI 1)]) (E' := E1) (I' := I1) (J' := J1) (S' := S1) am_e23 rfl rfl rfl rfl ?_
          refine w_st (i' := 51) (ls' := [.ref 20, .ref 12, .int p2, .ref 28, .int v1, .int w4]) (st' := [.int (nI 1)]) (E' := E1) (I' := I1) (J' := J1) (S' := S1) am_e23 rfl rfl rfl rfl ?_
          exact w_end am_e23 rfl rfl rfl h
    · replace h := h.1 (Decidable.not_not.mp (of_decide_eq_false c))
      refine w_st (i' := 17) (ls' := [.ref 20, .ref 12, .int p2, .ref 28, .int v1, am_U]) (st' := [.ref 20]) (E' := E1) (I' := I1) (J' := J1) (S' := S1) am_e23 rfl rfl rfl rfl ?_
      refine w_st (i' := 18) (ls' := [.ref 20, .ref 12, .int p2, .ref 28, .int v1, am_U]) (st' := [.ref 25]) (E' := E1) (I' := I1) (J' := J1) (S' := S1) am_e23 rfl rfl rfl rfl ?_
      refine w_st (i' := 19) (ls' := [.ref 20, .ref 12, .int p2, .ref 28, .int v1, am_U]) (st' := [.ref 12, .ref 25]) (E' := E1) (I' := I1) (J' := J1) (S' := S1) am_e23 rfl rfl rfl rfl ?_
      refine w_st (i' := 20) (ls' := [.ref 20, .ref 12, .int p2, .ref 28, .int v1, am_U]) (st' := [.int v1, .ref 12, .ref 25]) (E' := E1) (I' := I1) (J' := J1) (S' := S1) am_e23 rfl rfl rfl rfl ?_
      refine w_st (i' := 21) (ls' := [.ref 20, .ref 12, .int p2, .ref 28, .int v1, am_U]) (st' := [.int (nI 0), .int v1, .ref 12, .ref 25]) (E' := E1) (I' := I1) (J' := J1) (S' := S1) am_e23 rfl rfl rfl rfl ?_
      refine w_cI am_e23 rfl rfl (as := [.ref 12, .int v1, .int (nI 0)]) (rest := [.ref 25]) rfl rfl ?_
      show am_ww 26 0 [.ref 12, .int v1, .int (nI 0)] [] E1 I1 J1 S1 _
      refine w_st (i' := 1) (ls' := [.ref 12, .int v1, .int (nI 0)]) (st' := [.ref 12]) (E' := E1) (I' := I1) (J' := J1) (S' := S1) am_e26 rfl rfl rfl rfl ?_
      refine w_st (i' := 2) (ls' := [.ref 12, .int v1, .int (nI 0)]) (st' := [.ref 14]) (E' := E1) (I' := I1) (J' := J1) (S' := S1) am_e26 rfl rfl rfl rfl ?_
      refine w_st (i' := 3) (ls' := [.ref 12, .int v1, .int (nI 0)]) (st' := [.int v1, .ref 14]) (E' := E1) (I' := I1) (J' := J1) (S' := S1) am_e26 rfl rfl rfl rfl ?_
      refine w_st (i' := 4) (ls' := [.ref 12, .int v1, .int (nI 0)]) (st' := [.int (nI 3), .int v1, .ref 14]) (E' := E1) (I' := I1) (J' := J1) (S' := S1) am_e26 rfl rfl rfl rfl ?_
      refine w_st (i' := 5) (ls' := [.ref 12, .int v1, .int (nI 0)]) (st' := [.int (v1 * (nI 3)), .ref 14]) (E' := E1) (I' := I1) (J' := J1) (S' := S1) am_e26 rfl rfl rfl rfl ?_
      refine w_st (i' := 6) (ls' := [.ref 12, .int v1, .int (nI 0)]) (st' := [.int (nI 0), .int (v1 * (nI 3)), .ref 14]) (E' := E1) (I' := I1) (J' := J1) (S' := S1) am_e26 rfl rfl rfl rfl ?_
      refine w_st (i' := 7) (ls' := [.ref 12, .int v1, .int (nI 0)]) (st' := [.int ((v1 * (nI 3)) + (nI 0)), .ref 14]) (E' := E1) (I' := I1) (J' := J1) (S' := S1) am_e26 rfl rfl rfl rfl ?_
      have hf6 := h.1
      replace h := h.2
      refine w_ia (k := 14) (n := 192) (jn := ((v1 * (nI 3)) + (nI 0)).toNatClampNeg) am_e26 rfl rfl (by decide) hf6 rfl ?_
      refine w_ri am_e26 rfl rfl (q_mkI ?_)
      show am_ww 23 22 [.ref 20, .ref 12, .int p2, .ref 28, .int v1, am_U] [.int ((I1 14) (((v1 * (nI 3)) + (nI 0)).toNatClampNeg)), .ref 25] E1 I1 J1 S1 _
      refine w_var (fun w7 => am_ww 23 22 [.ref 20, .ref 12, .int p2, .ref 28, .int v1, am_U] [.int w7, .ref 25] E1 I1 J1 S1 _) ((I1 14) (((v1 * (nI 3)) + (nI 0)).toNatClampNeg)) (fun w7 hw7 => ?_)
      replace h := h w7 hw7
      have hf8 := h.1
      replace h := h.2
      refine w_ia (k := 25) (n := 4) (jn := w7.toNatClampNeg) am_e23 rfl rfl (by decide) hf8 rfl ?_
      refine w_st (i' := 24) (ls' := [.ref 20, .ref 12, .int p2, .ref 28, .int v1, am_U]) (st' := [.int (-1), .int ((I1 25) w7.toNatClampNeg)]) (E' := E1) (I' := I1) (J' := J1) (S' := S1) am_e23 rfl rfl rfl rfl ?_
      refine w_if2 am_e23 rfl rfl (fun c => ?_) (fun c => ?_)
      · replace h := h.2 (of_decide_eq_true c)
        refine w_st (i' := 28) (ls' := [.ref 20, .ref 12, .int p2, .ref 28, .int v1, am_U]) (st' := [.int (nI 0)]) (E' := E1) (I' := I1) (J' := J1) (S' := S1) am_e23 rfl rfl rfl rfl ?_
        exact w_end am_e23 rfl rfl rfl h
      · replace h := h.1 (Decidable.not_not.mp (of_decide_eq_false c))
        refine w_st (i' := 26) (ls' := [.ref 20, .ref 12, .int p2, .ref 28, .int v1, am_U]) (st' := [.int (nI 1)]) (E' := E1) (I' := I1) (J' := J1) (S' := S1) am_e23 rfl rfl rfl rfl ?_
        refine w_st (i' := 28) (ls' := [.ref 20, .ref 12, .int p2, .ref 28, .int v1, am_U]) (st' := [.int (nI 1)]) (E' := E1) (I' := I1) (J' := J1) (S' := S1) am_e23 rfl rfl rfl rfl ?_
        exact w_end am_e23 rfl rfl rfl h
  · replace h := h.1 (Decidable.not_not.mp (of_decide_eq_false c))
    refine w_st (i' := 9) (ls' := [.ref 20, .ref 12, .int p2, .ref 28, .int v1, am_U]) (st' := [.int (nI 0)]) (E' := E1) (I' := I1) (J' := J1) (S' := S1) am_e23 rfl rfl rfl rfl ?_
    exact w_end am_e23 rfl rfl rfl h
-- 34 sourceWanted
theorem g34_0_20  {E : am_Ev} {I : Nat → Nat → Int32} {J : Nat → Nat → Int64} {S : Nat → Nat → Option Nat} {Q : am_Qt}  (h : am_cl 24 [.ref 20, .ref 12, .int ((I 20) 6)] E I J S (q_I fun v1 E1 I1 J1 S1 => (v1 = (-1) → (Q (.inl (some (.int (-1)))) E1 I1 J1 S1)) ∧ (¬ v1 = (-1) → (vp_in v1 64 ∧ ((((I1 13) v1.toNatClampNeg) = (nI 12) → (vp_in ((v1 * (nI 3)) + (nI 1)) 192 ∧ (∀ w4 : Int32, w4 = ((I1 14) (((v1 * (nI 3)) + (nI 1)).toNatClampNeg)) → (Q (.inl (some (.int w4))) E1 I1 J1 S1)))) ∧ (¬ ((I1 13) v1.toNatClampNeg) = (nI 12) → (Q (.inl (some (.int (-1)))) E1 I1 J1 S1))))))) : am_ww 34 0 [.ref 20, .ref 12, am_U] [] E I J S Q := by
  refine w_st (i' := 1) (ls' := [.ref 20, .ref 12, am_U]) (st' := [.ref 20]) (E' := E) (I' := I) (J' := J) (S' := S) am_e34 rfl rfl rfl rfl ?_
  refine w_st (i' := 2) (ls' := [.ref 20, .ref 12, am_U]) (st' := [.ref 12, .ref 20]) (E' := E) (I' := I) (J' := J) (S' := S) am_e34 rfl rfl rfl rfl ?_
  refine w_st (i' := 3) (ls' := [.ref 20, .ref 12, am_U]) (st' := [.ref 20, .ref 12, .ref 20]) (E' := E) (I' := I) (J' := J) (S' := S) am_e34 rfl rfl rfl rfl ?_
  refine w_st (i' := 4) (ls' := [.ref 20, .ref 12, am_U]) (st' := [.int ((I 20) 6), .ref 12, .ref 20]) (E' := E) (I' := I) (J' := J) (S' := S) am_e34 rfl rfl rfl rfl ?_
  refine w_cI am_e34 rfl rfl (as := [.ref 20, .ref 12, .int ((I 20) 6)]) (rest := []) rfl rfl (am_ww.mono h ?_)
  rintro _ E1 I1 J1 S1 ⟨v1, rfl, h⟩
  refine q_mkI ?_
  refine w_st (i' := 6) (ls' := [.ref 20, .ref 12, .int v1]) (st' := []) (E' := E1) (I' := I1) (J' := J1) (S' := S1) am_e34 rfl rfl rfl rfl ?_
  refine w_st (i' := 7) (ls' := [.ref 20, .ref 12, .int v1]) (st' := [.int v1]) (E' := E1) (I' := I1) (J' := J1) (S' := S1) am_e34 rfl rfl rfl rfl ?_
  refine w_st (i' := 8) (ls' := [.ref 20, .ref 12, .int v1]) (st' := [.int (-1), .int v1]) (E' := E1) (I' := I1) (J' := J1) (S' := S1) am_e34 rfl rfl rfl rfl ?_
  refine w_if2 am_e34 rfl rfl (fun c => ?_) (fun c => ?_)
  · replace h := h.1 (of_decide_eq_true c)
    refine w_st (i' := 21) (ls' := [.ref 20, .ref 12, .int v1]) (st' := [.int (-1)]) (E' := E1) (I' := I1) (J' := J1) (S' := S1) am_e34 rfl rfl rfl rfl ?_
    exact w_end am_e34 rfl rfl rfl h
  · replace h := h.2 (of_decide_eq_false c)
    refine w_st (i' := 10) (ls' := [.ref 20, .ref 12, .int v1]) (st' := [.ref 12]) (E' := E1) (I' := I1) (J' := J1) (S' := S1) am_e34 rfl rfl rfl rfl ?_
    refine w_st (i' := 11) (ls' := [.ref 20, .ref 12, .int v1]) (st' := [.ref 13]) (E' := E1) (I' := I1) (J' := J1) (S' := S1) am_e34 rfl rfl rfl rfl ?_
    refine w_st (i' := 12) (ls' := [.ref 20, .ref 12, .int v1]) (st' := [.int v1, .ref 13]) (E' := E1) (I' := I1) (J' := J1) (S' := S1) am_e34 rfl rfl rfl rfl ?_
    have hf2 := h.1
    replace h := h.2
    refine w_ia (k := 13) (n := 64) (jn := v1.toNatClampNeg) am_e34 rfl rfl (by decide) hf2 rfl ?_
    refine w_st (i' := 14) (ls' := [.ref 20, .ref 12, .int v1]) (st' := [.int (nI 12), .int ((I1 13) v1.toNatClampNeg)]) (E' := E1) (I' := I1) (J' := J1) (S' := S1) am_e34 rfl rfl rfl rfl ?_
    refine w_if2 am_e34 rfl rfl (fun c => ?_) (fun c => ?_)
    · replace h := h.2 (of_decide_eq_true c)
      refine w_st (i' := 21) (ls' := [.ref 20, .ref 12, .int v1]) (st' := [.int (-1)]) (E' := E1) (I' := I1) (J' := J1) (S' := S1) am_e34 rfl rfl rfl rfl ?_
      exact w_end am_e34 rfl rfl rfl h
    · replace h := h.1 (Decidable.not_not.mp (of_decide_eq_false c))
      refine w_st (i' := 16) (ls' := [.ref 20, .ref 12, .int v1]) (st' := [.ref 12]) (E' := E1) (I' := I1) (J' := J1) (S' := S1) am_e34 rfl rfl rfl rfl ?_
      refine w_st (i' := 17) (ls' := [.ref 20, .ref 12, .int v1]) (st' := [.int v1, .ref 12]) (E' := E1) (I' := I1) (J' := J1) (S' := S1) am_e34 rfl rfl rfl rfl ?_
      refine w_st (i' := 18) (ls' := [.ref 20, .ref 12, .int v1]) (st' := [.int (nI 1), .int v1, .ref 12]) (E' := E1) (I' := I1) (J' := J1) (S' := S1) am_e34 rfl rfl rfl rfl ?_
      refine w_cI am_e34 rfl rfl (as := [.ref 12, .int v1, .int (nI 1)]) (rest := []) rfl rfl ?_
      show am_ww 26 0 [.ref 12, .int v1, .int (nI 1)] [] E1 I1 J1 S1 _
      refine w_st (i' := 1) (ls' := [.ref 12, .int v1, .int (nI 1)]) (st' := [.ref 12]) (E' := E1) (I' := I1) (J' := J1) (S' := S1) am_e26 rfl rfl rfl rfl ?_
      refine w_st (i' := 2) (ls' := [.ref 12, .int v1, .int (nI 1)]) (st' := [.ref 14]) (E' := E1) (I' := I1) (J' := J1) (S' := S1) am_e26 rfl rfl rfl rfl ?_
      refine w_st (i' := 3) (ls' := [.ref 12, .int v1, .int (nI 1)]) (st' := [.int v1, .ref 14]) (E' := E1) (I' := I1) (J' := J1) (S' := S1) am_e26 rfl rfl rfl rfl ?_
      refine w_st (i' := 4) (ls' := [.ref 12, .int v1, .int (nI 1)]) (st' := [.int (nI 3), .int v1, .ref 14]) (E' := E1) (I' := I1) (J' := J1) (S' := S1) am_e26 rfl rfl rfl rfl ?_
      refine w_st (i' := 5) (ls' := [.ref 12, .int v1, .int (nI 1)]) (st' := [.int (v1 * (nI 3)), .ref 14]) (E' := E1) (I' := I1) (J' := J1) (S' := S1) am_e26 rfl rfl rfl rfl ?_
      refine w_st (i' := 6) (ls' := [.ref 12, .int v1, .int (nI 1)]) (st' := [.int (nI 1), .int (v1 * (nI 3)), .ref 14]) (E' := E1) (I' := I1) (J' := J1) (S' := S1) am_e26 rfl rfl rfl rfl ?_
      refine w_st (i' := 7) (ls' := [.ref 12, .int v1, .int (nI 1)]) (st' := [.int ((v1 * (nI 3)) + (nI 1)), .ref 14]) (E' := E1) (I' := I1) (J' := J1) (S' := S1) am_e26 rfl rfl rfl rfl ?_
      have hf3 := h.1
      replace h := h.2
      refine w_ia (k := 14) (n := 192) (jn := ((v1 * (nI 3)) + (nI 1)).toNatClampNeg) am_e26 rfl rfl (by decide) hf3 rfl ?_
      refine w_ri am_e26 rfl rfl (q_mkI ?_)
      show am_ww 34 19 [.ref 20, .ref 12, .int v1] [.int ((I1 14) (((v1 * (nI 3)) + (nI 1)).toNatClampNeg))] E1 I1 J1 S1 _
      refine w_var (fun w4 => am_ww 34 19 [.ref 20, .ref 12, .int v1] [.int w4] E1 I1 J1 S1 _) ((I1 14) (((v1 * (nI 3)) + (nI 1)).toNatClampNeg)) (fun w4 hw4 => ?_)
      replace h := h w4 hw4
      refine w_st (i' := 21) (ls' := [.ref 20, .ref 12, .int v1]) (st' := [.int w4]) (E' := E1) (I' := I1) (J' := J1) (S' := S1) am_e34 rfl rfl rfl rfl ?_
      exact w_ri am_e34 rfl rfl h
-- 36 obey
theorem g36_0_20 {p2 : Int32} {E : am_Ev} {I : Nat → Nat → Int32} {J : Nat → Nat → Int64} {S : Nat → Nat → Option Nat} {Q : am_Qt}  (h : am_cl 24 [.ref 20, .ref 12, .int ((I 20) 6)] E I J S (q_I fun v1 E1 I1 J1 S1 => (v1 = (-1) → (Q (.inl none) E1 I1 J1 S1)) ∧ (¬ v1 = (-1) → (vp_in v1 64 ∧ ((((I1 13) v1.toNatClampNeg) = (nI 15) → (am_cl 37 [.ref 20, .ref 12, .int v1] E1 I1 J1 S1 (q_V fun E3 I3 J3 S3 => Q (.inl none) E3 I3 J3 S3))) ∧ (¬ ((I1 13) v1.toNatClampNeg) = (nI 15) → ((((I1 13) v1.toNatClampNeg) = (nI 16) → (am_cl 37 [.ref 20, .ref 12, .int v1] E1 I1 J1 S1 (q_V fun E4 I4 J4 S4 => Q (.inl none) E4 I4 J4 S4))) ∧ (¬ ((I1 13) v1.toNatClampNeg) = (nI 16) → ((((I1 13) v1.toNatClampNeg) = (nI 17) → (am_cl 37 [.ref 20, .ref 12, .int v1] E1 I1 J1 S1 (q_V fun E7 I7 J7 S7 => Q (.inl none) E7 I7 J7 S7))) ∧ (¬ ((I1 13) v1.toNatClampNeg) = (nI 17) → (am_cl 38 [.ref 20, .ref 12, .int v1, .int p2] E1 I1 J1 S1 (q_V fun E5 I5 J5 S5 => vp_in ((I5 20) 6) 4 ∧ (Q (.inl none) E5 (u_I I5 23 (upd (I5 23) (((I5 20) 6).toNatClampNeg) (((I5 23) (((I5 20) 6).toNatClampNeg)) + (nI 1)))) J5 S5))))))))))))) : am_ww 36 0 [.ref 20, .ref 12, .int p2, am_U, am_U] [] E I J S Q := by
  refine w_st (i' := 1) (ls' := [.ref 20, .ref 12, .int p2, am_U, am_U]) (st' := [.ref 20]) (E' := E) (I' := I) (J' := J) (S' := S) am_e36 rfl rfl rfl rfl ?_
  refine w_st (i' := 2) (ls' := [.ref 20, .ref 12, .int p2, am_U, am_U]) (st' := [.ref 12, .ref 20]) (E' := E) (I' := I) (J' := J) (S' := S) am_e36 rfl rfl rfl rfl ?_
  refine w_st (i' := 3) (ls' := [.ref 20, .ref 12, .int p2, am_U, am_U]) (st' := [.ref 20, .ref 12, .ref 20]) (E' := E) (I' := I) (J' := J) (S' := S) am_e36 rfl rfl rfl rfl ?_
  refine w_st (i' := 4) (ls' := [.ref 20, .ref 12, .int p2, am_U, am_U]) (st' := [.int ((I 20) 6), .ref 12, .ref 20]) (E' := E) (I' := I) (J' := J) (S' := S) am_e36 rfl rfl rfl rfl ?_
  refine w_cI am_e36 rfl rfl (as := [.ref 20, .ref 12, .int ((I 20) 6)]) (rest := []) rfl rfl (am_ww.mono h ?_)
  rintro _ E1 I1 J1 S1 ⟨v1, rfl, h⟩
  refine q_mkI ?_
  refine w_st (i' := 6) (ls' := [.ref 20, .ref 12, .int p2, .int v1, am_U]) (st' := []) (E' := E1) (I' := I1) (J' := J1) (S' := S1) am_e36 rfl rfl rfl rfl ?_
  refine w_st (i' := 7) (ls' := [.ref 20, .ref 12, .int p2, .int v1, am_U]) (st' := [.int v1]) (E' := E1) (I' := I1) (J' := J1) (S' := S1) am_e36 rfl rfl rfl rfl ?_
  refine w_st (i' := 8) (ls' := [.ref 20, .ref 12, .int p2, .int v1, am_U]) (st' := [.int (-1), .int v1]) (E' := E1) (I' := I1) (J' := J1) (S' := S1) am_e36 rfl rfl rfl rfl ?_
  refine w_if2 am_e36 rfl rfl (fun c => ?_) (fun c => ?_)
  · replace h := h.2 (of_decide_eq_true c)
    refine w_st (i' := 11) (ls' := [.ref 20, .ref 12, .int p2, .int v1, am_U]) (st' := [.ref 12]) (E' := E1) (I' := I1) (J' := J1) (S' := S1) am_e36 rfl rfl rfl rfl ?_
    refine w_st (i' := 12) (ls' := [.ref 20, .ref 12, .int p2, .int v1, am_U]) (st' := [.ref 13]) (E' := E1) (I' := I1) (J' := J1) (S' := S1) am_e36 rfl rfl rfl rfl ?_
    refine w_st (i' := 13) (ls' := [.ref 20, .ref 12, .int p2, .int v1, am_U]) (st' := [.int v1, .ref 13]) (E' := E1) (I' := I1) (J' := J1) (S' := S1) am_e36 rfl rfl rfl rfl ?_
    have hf2 := h.1
    replace h := h.2
    refine w_ia (k := 13) (n := 64) (jn := v1.toNatClampNeg) am_e36 rfl rfl (by decide) hf2 rfl ?_
    refine w_st (i' := 15) (ls' := [.ref 20, .ref 12, .int p2, .int v1, .int ((I1 13) v1.toNatClampNeg)]) (st' := []) (E' := E1) (I' := I1) (J' := J1) (S' := S1) am_e36 rfl rfl rfl rfl ?_
    refine w_st (i' := 16) (ls' := [.ref 20, .ref 12, .int p2, .int v1, .int ((I1 13) v1.toNatClampNeg)]) (st' := [.int ((I1 13) v1.toNatClampNeg)]) (E' := E1) (I' := I1) (J' := J1) (S' := S1) am_e36 rfl rfl rfl rfl ?_
    refine w_st (i' := 17) (ls' := [.ref 20, .ref 12, .int p2, .int v1, .int ((I1 13) v1.toNatClampNeg)]) (st' := [.int (nI 15), .int ((I1 13) v1.toNatClampNeg)]) (E' := E1) (I' := I1) (J' := J1) (S' := S1) am_e36 rfl rfl rfl rfl ?_
    refine w_if2 am_e36 rfl rfl (fun c => ?_) (fun c => ?_)
    · replace h := h.1 (of_decide_eq_true c)
      refine w_st (i' := 25) (ls' := [.ref 20, .ref 12, .int p2, .int v1, .int ((I1 13) v1.toNatClampNeg)]) (st' := [.ref 20]) (E' := E1) (I' := I1) (J' := J1) (S' := S1) am_e36 rfl rfl rfl rfl ?_
      refine w_st (i' := 26) (ls' := [.ref 20, .ref 12, .int p2, .int v1, .int ((I1 13) v1.toNatClampNeg)]) (st' := [.ref 12, .ref 20]) (E' := E1) (I' := I1) (J' := J1) (S' := S1) am_e36 rfl rfl rfl rfl ?_
      refine w_st (i' := 27) (ls' := [.ref 20, .ref 12, .int p2, .int v1, .int ((I1 13) v1.toNatClampNeg)]) (st' := [.int v1, .ref 12, .ref 20]) (E' := E1) (I' := I1) (J' := J1) (S' := S1) am_e36 rfl rfl rfl rfl ?_
      refine w_cV am_e36 rfl rfl (as := [.ref 20, .ref 12, .int v1]) (rest := []) rfl rfl (am_ww.mono h ?_)
      rintro _ E3 I3 J3 S3 ⟨rfl, h⟩
      refine q_mkV ?_
      refine w_st (i' := 43) (ls' := [.ref 20, .ref 12, .int p2, .int v1, .int ((I1 13) v1.toNatClampNeg)]) (st' := []) (E' := E3) (I' := I3) (J' := J3) (S' := S3) am_e36 rfl rfl rfl rfl ?_
      exact w_end am_e36 rfl rfl rfl h
    · replace h := h.2 (of_decide_eq_false c)
      refine w_st (i' := 19) (ls' := [.ref 20, .ref 12, .int p2, .int v1, .int ((I1 13) v1.toNatClampNeg)]) (st' := [.int ((I1 13) v1.toNatClampNeg)]) (E' := E1) (I' := I1) (J' := J1) (S' := S1) am_e36 rfl rfl rfl rfl ?_
      refine w_st (i' := 20) (ls' := [.ref 20, .ref 12, .int p2, .int v1, .int ((I1 13) v1.toNatClampNeg)]) (st' := [.int (nI 16), .int ((I1 13) v1.toNatClampNeg)]) (E' := E1) (I' := I1) (J' := J1) (S' := S1) am_e36 rfl rfl rfl rfl ?_
      refine w_if2 am_e36 rfl rfl (fun c => ?_) (fun c => ?_)
      · replace h := h.1 (of_decide_eq_true c)
        refine w_st (i' := 25) (ls' := [.ref 20, .ref 12, .int p2, .int v1, .int ((I1 13) v1.toNatClampNeg)]) (st' := [.ref 20]) (E' := E1) (I' := I1) (J' := J1) (S' := S1) am_e36 rfl rfl rfl rfl ?_
        refine w_st (i' := 26) (ls' := [.ref 20, .ref 12, .int p2, .int v1, .int ((I1 13) v1.toNatClampNeg)]) (st' := [.ref 12, .ref 20]) (E' := E1) (I' := I1) (J' := J1) (S' := S1) am_e36 rfl rfl rfl rfl ?_
        refine w_st (i' := 27) (ls' := [.ref 20, .ref 12, .int p2, .int v1, .int ((I1 13) v1.toNatClampNeg)]) (st' := [.int v1, .ref 12, .ref 20]) (E' := E1) (I' := I1) (J' := J1) (S' := S1) am_e36 rfl rfl rfl rfl ?_
        refine w_cV am_e36 rfl rfl (as := [.ref 20, .ref 12, .int v1]) (rest := []) rfl rfl (am_ww.mono h ?_)
        rintro _ E4 I4 J4 S4 ⟨rfl, h⟩
        refine q_mkV ?_
        refine w_st (i' := 43) (ls' := [.ref 20, .ref 12, .int p2, .int v1, .int ((I1 13) v1.toNatClampNeg)]) (st' := []) (E' := E4) (I' := I4) (J' := J4) (S' := S4) am_e36 rfl rfl rfl rfl ?_
        exact w_end am_e36 rfl rfl rfl h
      · replace h := h.2 (of_decide_eq_false c)
        refine w_st (i' := 22) (ls' := [.ref 20, .ref 12, .int p2, .int v1, .int ((I1 13) v1.toNatClampNeg)]) (st' := [.int ((I1 13) v1.toNatClampNeg)]) (E' := E1) (I' := I1) (J' := J1) (S' := S1) am_e36 rfl rfl rfl rfl ?_
        refine w_st (i' := 23) (ls' := [.ref 20, .ref 12, .int p2, .int v1, .int ((I1 13) v1.toNatClampNeg)]) (st' := [.int (nI 17), .int ((I1 13) v1.toNatClampNeg)]) (E' := E1) (I' := I1) (J' := J1) (S' := S1) am_e36 rfl rfl rfl rfl ?_
        refine w_if2 am_e36 rfl rfl (fun c => ?_) (fun c => ?_)
        · replace h := h.2 (of_decide_eq_true c)
          refine w_st (i' := 30) (ls' := [.ref 20, .ref 12, .int p2, .int v1, .int ((I1 13) v1.toNatClampNeg)]) (st' := [.ref 20]) (E' := E1) (I' := I1) (J' := J1) (S' := S1) am_e36 rfl rfl rfl rfl ?_
          refine w_st (i' := 31) (ls' := [.ref 20, .ref 12, .int p2, .int v1, .int ((I1 13) v1.toNatClampNeg)]) (st' := [.ref 12, .ref 20]) (E' := E1) (I' := I1) (J' := J1) (S' := S1) am_e36 rfl rfl rfl rfl ?_
          refine w_st (i' := 32) (ls' := [.ref 20, .ref 12, .int p2, .int v1, .int ((I1 13) v1.toNatClampNeg)]) (st' := [.int v1, .ref 12, .ref 20]) (E' := E1) (I' := I1) (J' := J1) (S' := S1) am_e36 rfl rfl rfl rfl ?_
          refine w_st (i' := 33) (ls' := [.ref 20, .ref 12, .int p2, .int v1, .int ((I1 13) v1.toNatClampNeg)]) (st' := [.int p2, .int v1, .ref 12, .ref 20]) (E' := E1) (I' := I1) (J' := J1) (S' := S1) am_e36 rfl rfl rfl rfl ?_
          refine w_cV am_e36 rfl rfl (as := [.ref 20, .ref 12, .int v1, .int p2]) (rest := []) rfl rfl (am_ww.mono h ?_)
          rintro _ E5 I5 J5 S5 ⟨rfl, h⟩
          refine q_mkV ?_
          refine w_st (i' := 35) (ls' := [.ref 20, .ref 12, .int p2, .int v1, .int ((I1 13) v1.toNatClampNeg)]) (st' := [.ref 20]) (E' := E5) (I' := I5) (J' := J5) (S' := S5) am_e36 rfl rfl rfl rfl ?_
          refine w_st (i' := 36) (ls' := [.ref 20, .ref 12, .int p2, .int v1, .int ((I1 13) v1.toNatClampNeg)]) (st' := [.ref 23]) (E' := E5) (I' := I5) (J' := J5) (S' := S5) am_e36 rfl rfl rfl rfl ?_
          refine w_st (i' := 37) (ls' := [.ref 20, .ref 12, .int p2, .int v1, .int ((I1 13) v1.toNatClampNeg)]) (st' := [.ref 20, .ref 23]) (E' := E5) (I' := I5) (J' := J5) (S' := S5) am_e36 rfl rfl rfl rfl ?_
          refine w_st (i' := 38) (ls' := [.ref 20, .ref 12, .int p2, .int v1, .int ((I1 13) v1.toNatClampNeg)]) (st' := [.int ((I5 20) 6), .ref 23]) (E' := E5) (I' := I5) (J' := J5) (S' := S5) am_e36 rfl rfl rfl rfl ?_
          refine w_st (i' := 39) (ls' := [.ref 20, .ref 12, .int p2, .int v1, .int ((I1 13) v1.toNatClampNeg)]) (st' := [.int ((I5 20) 6), .ref 23, .int ((I5 20) 6), .ref 23]) (E' := E5) (I' := I5) (J' := J5) (S' := S5) am_e36 rfl rfl rfl rfl ?_
          have hf6 := h.1
          replace h := h.2
          refine w_ia (k := 23) (n := 4) (jn := ((I5 20) 6).toNatClampNeg) am_e36 rfl rfl (by decide) hf6 rfl ?_
          refine w_st (i' := 41) (ls' := [.ref 20, .ref 12, .int p2, .int v1, .int ((I1 13) v1.toNatClampNeg)]) (st' := [.int (nI 1), .int ((I5 23) (((I5 20) 6).toNatClampNeg)), .int ((I5 20) 6), .ref 23]) (E' := E5) (I' := I5) (J' := J5) (S' := S5) am_e36 rfl rfl rfl rfl ?_
          refine w_st (i' := 42) (ls' := [.ref 20, .ref 12, .int p2, .int v1, .int ((I1 13) v1.toNatClampNeg)]) (st' := [.int (((I5 23) (((I5 20) 6).toNatClampNeg)) + (nI 1)), .int ((I5 20) 6), .ref 23]) (E' := E5) (I' := I5) (J' := J5) (S' := S5) am_e36 rfl rfl rfl rfl ?_
          refine w_is (k := 23) (n := 4) (jn := ((I5 20) 6).toNatClampNeg) am_e36 rfl rfl (by decide) hf6 rfl ?_
          show am_ww 36 43 [.ref 20, .ref 12, .int p2, .int v1, .int ((I1 13) v1.toNatClampNeg)] [] E5 (u_I I5 23 (upd (I5 23) (((I5 20) 6).toNatClampNeg) (((I5 23) (((I5 20) 6).toNatClampNeg)) + (nI 1)))) J5 S5 _
          exact w_end am_e36 rfl rfl rfl h
        · replace h := h.1 (Decidable.not_not.mp (of_decide_eq_false c))
          refine w_st (i' := 25) (ls' := [.ref 20, .ref 12, .int p2, .int v1, .int ((I1 13) v1.toNatClampNeg)]) (st' := [.ref 20]) (E' := E1) (I' := I1) (J' := J1) (S' := S1) am_e36 rfl rfl rfl rfl ?_
          refine w_st (i' := 26) (ls' := [.ref 20, .ref 12, .int p2, .int v1, .int ((I1 13) v1.toNatClampNeg)]) (st' := [.ref 12, .ref 20]) (E' := E1) (I' := I1) (J' := J1) (S' := S1) am_e36 rfl rfl rfl rfl ?_
          refine w_st (i' := 27) (ls' := [.ref 20, .ref 12, .int p2, .int v1, .int ((I1 13) v1.toNatClampNeg)]) (st' := [.int v1, .ref 12, .ref 20]) (E' := E1) (I' := I1) (J' := J1) (S' := S1) am_e36 rfl rfl rfl rfl ?_
          refine w_cV am_e36 rfl rfl (as := [.ref 20, .ref 12, .int v1]) (rest := []) rfl rfl (am_ww.mono h ?_)
          rintro _ E7 I7 J7 S7 ⟨rfl, h⟩
          refine q_mkV ?_
          refine w_st (i' := 43) (ls' := [.ref 20, .ref 12, .int p2, .int v1, .int ((I1 13) v1.toNatClampNeg)]) (st' := []) (E' := E7) (I' := I7) (J' := J7) (S' := S7) am_e36 rfl rfl rfl rfl ?_
          exact w_end am_e36 rfl rfl rfl h
  · replace h := h.1 (Decidable.not_not.mp (of_decide_eq_false c))
    exact w_end am_e36 rfl rfl rfl h
-- 37 branch
theorem g37_0_20 {p2 : Int32} {E : am_Ev} {I : Nat → Nat → Int32} {J : Nat → Nat → Int64} {S : Nat → Nat → Option Nat} {Q : am_Qt}  (h : vp_in ((p2 * (nI 3)) + (nI 0)) 192 ∧ (∀ w2 : Int32, w2 = ((I 14) (((p2 * (nI 3)) + (nI 0)).toNatClampNeg)) → (vp_in ((p2 * (nI 3)) + (nI 1)) 192 ∧ (∀ w4 : Int32, w4 = ((I 14) (((p2 * (nI 3)) + (nI 1)).toNatClampNeg)) → (vp_in ((I 20) 6) 4 ∧ (∀ w6 : Int32, w6 = (((I 23) (((I 20) 6).toNatClampNeg)) + (nI 1)) → (vp_in p2 64 ∧ ((((I 13) p2.toNatClampNeg) = nI 15 → (am_ww 37 69 [.ref 20, .ref 12, .int p2, .int (((I 20) 6) * (nI 4)), .int w2, .int w4, .int w2, am_U] [] E I J S Q)) ∧ (((I 13) p2.toNatClampNeg) = nI 16 → (vp_in ((((I 20) 6) * (nI 4)) + w2) 16 ∧ (∀ w10 : Int32, w10 = (if ((I 22) (((((I 20) 6) * (nI 4)) + w2).toNatClampNeg)) = 0 then w4 else w6) → (am_ww 37 69 [.ref 20, .ref 12, .int p2, .int (((I 20) 6) * (nI 4)), .int w2, .int w4, .int w10, am_U] [] E I J S Q)))) ∧ (¬ ((I 13) p2.toNatClampNeg) = nI 15 → ¬ ((I 13) p2.toNatClampNeg) = nI 16 → (vp_in ((((I 20) 6) * (nI 4)) + w2) 16 ∧ (vp_in ((((I 20) 6) * (nI 4)) + w4) 16 ∧ (∀ w14 : Int32, w14 = (if ((I 22) (((((I 20) 6) * (nI 4)) + w4).toNatClampNeg)) ≤ ((I 22) (((((I 20) 6) * (nI 4)) + w2).toNatClampNeg)) then nI 0 else nI 1) → ((w14 = 0 → (am_ww 37 69 [.ref 20, .ref 12, .int p2, .int (((I 20) 6) * (nI 4)), .int w2, .int w4, .int w6, .int w14] [] E I J S Q)) ∧ (¬ w14 = 0 → (vp_in ((p2 * (nI 3)) + (nI 2)) 192 ∧ (∀ w16 : Int32, w16 = ((I 14) (((p2 * (nI 3)) + (nI 2)).toNatClampNeg)) → (am_ww 37 69 [.ref 20, .ref 12, .int p2, .int (((I 20) 6) * (nI 4)), .int w2, .int w4, .int w16, .int w14] [] E I J S Q))))))))))))))))) : am_ww 37 0 [.ref 20, .ref 12, .int p2, am_U, am_U, am_U, am_U, am_U] [] E I J S Q := by
  refine w_st (i' := 1) (ls' := [.ref 20, .ref 12, .int p2, am_U, am_U, am_U, am_U, am_U]) (st' := [.ref 20]) (E' := E) (I' := I) (J' := J) (S' := S) am_e37 rfl rfl rfl rfl ?_
  refine w_st (i' := 2) (ls' := [.ref 20, .ref 12, .int p2, am_U, am_U, am_U, am_U, am_U]) (st' := [.int ((I 20) 6)]) (E' := E) (I' := I) (J' := J) (S' := S) am_e37 rfl rfl rfl rfl ?_
  refine w_st (i' := 3) (ls' := [.ref 20, .ref 12, .int p2, am_U, am_U, am_U, am_U, am_U]) (st' := [.int (nI 4), .int ((I 20) 6)]) (E' := E) (I' := I) (J' := J) (S' := S) am_e37 rfl rfl rfl rfl ?_
  refine w_st (i' := 4) (ls' := [.ref 20, .ref 12, .int p2, am_U, am_U, am_U, am_U, am_U]) (st' := [.int (((I 20) 6) * (nI 4))]) (E' := E) (I' := I) (J' := J) (S' := S) am_e37 rfl rfl rfl rfl ?_
  refine w_st (i' := 5) (ls' := [.ref 20, .ref 12, .int p2, .int (((I 20) 6) * (nI 4)), am_U, am_U, am_U, am_U]) (st' := []) (E' := E) (I' := I) (J' := J) (S' := S) am_e37 rfl rfl rfl rfl ?_
  refine w_st (i' := 6) (ls' := [.ref 20, .ref 12, .int p2, .int (((I 20) 6) * (nI 4)), am_U, am_U, am_U, am_U]) (st' := [.ref 12]) (E' := E) (I' := I) (J' := J) (S' := S) am_e37 rfl rfl rfl rfl ?_
  refine w_st (i' := 7) (ls' := [.ref 20, .ref 12, .int p2, .int (((I 20) 6) * (nI 4)), am_U, am_U, am_U, am_U]) (st' := [.int p2, .ref 12]) (E' := E) (I' := I) (J' := J) (S' := S) am_e37 rfl rfl rfl rfl ?_
  refine w_st (i' := 8) (ls' := [.ref 20, .ref 12, .int p2, .int (((I 20) 6) * (nI 4)), am_U, am_U, am_U, am_U]) (st' := [.int (nI 0), .int p2, .ref 12]) (E' := E) (I' := I) (J' := J) (S' := S) am_e37 rfl rfl rfl rfl ?_
  refine w_cI am_e37 rfl rfl (as := [.ref 12, .int p2, .int (nI 0)]) (rest := []) rfl rfl ?_
  show am_ww 26 0 [.ref 12, .int p2, .int (nI 0)] [] E I J S _
  refine w_st (i' := 1) (ls' := [.ref 12, .int p2, .int (nI 0)]) (st' := [.ref 12]) (E' := E) (I' := I) (J' := J) (S' := S) am_e26 rfl rfl rfl rfl ?_
  refine w_st (i' := 2) (ls' := [.ref 12, .int p2, .int (nI 0)]) (st' := [.ref 14]) (E' := E) (I' := I) (J' := J) (S' := S) am_e26 rfl rfl rfl rfl ?_
  refine w_st (i' := 3) (ls' := [.ref 12, .int p2, .int (nI 0)]) (st' := [.int p2, .ref 14]) (E' := E) (I' := I) (J' := J) (S' := S) am_e26 rfl rfl rfl rfl ?_
  refine w_st (i' := 4) (ls' := [.ref 12, .int p2, .int (nI 0)]) (st' := [.int (nI 3), .int p2, .ref 14]) (E' := E) (I' := I) (J' := J) (S' := S) am_e26 rfl rfl rfl rfl ?_
  refine w_st (i' := 5) (ls' := [.ref 12, .int p2, .int (nI 0)]) (st' := [.int (p2 * (nI 3)), .ref 14]) (E' := E) (I' := I) (J' := J) (S' := S) am_e26 rfl rfl rfl rfl ?_
  refine w_st (i' := 6) (ls' := [.ref 12, .int p2, .int (nI 0)]) (st' := [.int (nI 0), .int (p2 * (nI 3)), .ref 14]) (E' := E) (I' := I) (J' := J) (S' := S) am_e26 rfl rfl rfl rfl ?_
  refine w_st (i' := 7) (ls' := [.ref 12, .int p2, .int (nI 0)]) (st' := [.int ((p2 * (nI 3)) + (nI 0)), .ref 14]) (E' := E) (I' := I) (J' := J) (S' := S) am_e26 rfl rfl rfl rfl ?_
  have hf1 := h.1
  replace h := h.2
  refine w_ia (k := 14) (n := 192) (jn := ((p2 * (nI 3)) + (nI 0)).toNatClampNeg) am_e26 rfl rfl (by decide) hf1 rfl ?_
  refine w_ri am_e26 rfl rfl (q_mkI ?_)
  show am_ww 37 9 [.ref 20, .ref 12, .int p2, .int (((I 20) 6) * (nI 4)), am_U, am_U, am_U, am_U] [.int ((I 14) (((p2 * (nI 3)) + (nI 0)).toNatClampNeg))] E I J S _
  refine w_var (fun w2 => am_ww 37 9 [.ref 20, .ref 12, .int p2, .int (((I 20) 6) * (nI 4)), am_U, am_U, am_U, am_U] [.int w2] E I J S _) ((I 14) (((p2 * (nI 3)) + (nI 0)).toNatClampNeg)) (fun w2 hw2 => ?_)
  replace h := h w2 hw2
  refine w_st (i' := 10) (ls' := [.ref 20, .ref 12, .int p2, .int (((I 20) 6) * (nI 4)), .int w2, am_U, am_U, am_U]) (st' := []) (E' := E) (I' := I) (J' := J) (S' := S) am_e37 rfl rfl rfl rfl ?_
  refine w_st (i' := 11) (ls' := [.ref 20, .ref 12, .int p2, .int (((I 20) 6) * (nI 4)), .int w2, am_U, am_U, am_U]) (st' := [.ref 12]) (E' := E) (I' := I) (J' := J) (S' := S) am_e37 rfl rfl rfl rfl ?_
  refine w_st (i' := 12) (ls' := [.ref 20, .ref 12, .int p2, .int (((I 20) 6) * (nI 4)), .int w2, am_U, am_U, am_U]) (st' := [.int p2, .ref 12]) (E' := E) (I' := I) (J' := J) (S' := S) am_e37 rfl rfl rfl rfl ?_
  refine w_st (i' := 13) (ls' := [.ref 20, .ref 12, .int p2, .int (((I 20) 6) * (nI 4)), .int w2, am_U, am_U, am_U]) (st' := [.int (nI 1), .int p2, .ref 12]) (E' := E) (I' := I) (J' := J) (S' := S) am_e37 rfl rfl rfl rfl ?_
  refine w_cI am_e37 rfl rfl (as := [.ref 12, .int p2, .int (nI 1)]) (rest := []) rfl rfl ?_
  show am_ww 26 0 [.ref 12, .int p2, .int (nI 1)] [] E I J S _
  refine w_st (i' := 1) (ls' := [.ref 12, .int p2, .int (nI 1)]) (st' := [.ref 12]) (E' := E) (I' := I) (J' := J) (S' := S) am_e26 rfl rfl rfl rfl ?_
  refine w_st (i' := 2) (ls' := [.ref 12, .int p2, .int (nI 1)]) (st' := [.ref 14]) (E' := E) (I' := I) (J' := J) (S' := S) am_e26 rfl rfl rfl rfl ?_
  refine w_st (i' := 3) (ls' := [.ref 12, .int p2, .int (nI 1)]) (st' := [.int p2, .ref 14]) (E' := E) (I' := I) (J' := J) (S' := S) am_e26 rfl rfl rfl rfl ?_
  refine w_st (i' := 4) (ls' := [.ref 12, .int p2, .int (nI 1)]) (st' := [.int (nI 3), .int p2, .ref 14]) (E' := E) (I' := I) (J' := J) (S' := S) am_e26 rfl rfl rfl rfl ?_
  refine w_st (i' := 5) (ls' := [.ref 12, .int p2, .int (nI 1)]) (st' := [.int (p2 * (nI 3)), .ref 14]) (E' := E) (I' := I) (J' := J) (S' := S) am_e26 rfl rfl rfl rfl ?_
  refine w_st (i' := 6) (ls' := [.ref 12, .int p2, .int (nI 1)]) (st' := [.int (nI 1), .int (p2 * (nI 3)), .ref 14]) (E' := E) (I' := I) (J' := J) (S' := S) am_e26 rfl rfl rfl rfl ?_
  refine w_st (i' := 7) (ls' := [.ref 12, .int p2, .int (nI 1)]) (st' := [.int ((p2 * (nI 3)) + (nI 1)), .ref 14]) (E' := E) (I' := I) (J' := J) (S' := S) am_e26 rfl rfl rfl rfl ?_
  have hf3 := h.1
  replace h := h.2
  refine w_ia (k := 14) (n := 192) (jn := ((p2 * (nI 3)) + (nI 1)).toNatClampNeg) am_e26 rfl rfl (by decide) hf3 rfl ?_
  refine w_ri am_e26 rfl rfl (q_mkI ?_)
  show am_ww 37 14 [.ref 20, .ref 12, .int p2, .int (((I 20) 6) * (nI 4)), .int w2, am_U, am_U, am_U] [.int ((I 14) (((p2 * (nI 3)) + (nI 1)).toNatClampNeg))] E I J S _
  refine w_var (fun w4 => am_ww 37 14 [.ref 20, .ref 12, .int p2, .int (((I 20) 6) * (nI 4)), .int w2, am_U, am_U, am_U] [.int w4] E I J S _) ((I 14) (((p2 * (nI 3)) + (nI 1)).toNatClampNeg)) (fun w4 hw4 => ?_)
  replace h := h w4 hw4
  refine w_st (i' := 15) (ls' := [.ref 20, .ref 12, .int p2, .int (((I 20) 6) * (nI 4)), .int w2, .int w4, am_U, am_U]) (st' := []) (E' := E) (I' := I) (J' := J) (S' := S) am_e37 rfl rfl rfl rfl ?_
  refine w_st (i' := 16) (ls' := [.ref 20, .ref 12, .int p2, .int (((I 20) 6) * (nI 4)), .int w2, .int w4, am_U, am_U]) (st' := [.ref 20]) (E' := E) (I' := I) (J' := J) (S' := S) am_e37 rfl rfl rfl rfl ?_
  refine w_st (i' := 17) (ls' := [.ref 20, .ref 12, .int p2, .int (((I 20) 6) * (nI 4)), .int w2, .int w4, am_U, am_U]) (st' := [.ref 23]) (E' := E) (I' := I) (J' := J) (S' := S) am_e37 rfl rfl rfl rfl ?_
  refine w_st (i' := 18) (ls' := [.ref 20, .ref 12, .int p2, .int (((I 20) 6) * (nI 4)), .int w2, .int w4, am_U, am_U]) (st' := [.ref 20, .ref 23]) (E' := E) (I' := I) (J' := J) (S' := S) am_e37 rfl rfl rfl rfl ?_
  refine w_st (i' := 19) (ls' := [.ref 20, .ref 12, .int p2, .int (((I 20) 6) * (nI 4)), .int w2, .int w4, am_U, am_U]) (st' := [.int ((I 20) 6), .ref 23]) (E' := E) (I' := I) (J' := J) (S' := S) am_e37 rfl rfl rfl rfl ?_
  have hf5 := h.1
  replace h := h.2
  refine w_ia (k := 23) (n := 4) (jn := ((I 20) 6).toNatClampNeg) am_e37 rfl rfl (by decide) hf5 rfl ?_
  refine w_st (i' := 21) (ls' := [.ref 20, .ref 12, .int p2, .int (((I 20) 6) * (nI 4)), .int w2, .int w4, am_U, am_U]) (st' := [.int (nI 1), .int ((I 23) (((I 20) 6).toNatClampNeg))]) (E' := E) (I' := I) (J' := J) (S' := S) am_e37 rfl rfl rfl rfl ?_
  refine w_st (i' := 22) (ls' := [.ref 20, .ref 12, .int p2, .int (((I 20) 6) * (nI 4)), .int w2, .int w4, am_U, am_U]) (st' := [.int (((I 23) (((I 20) 6).toNatClampNeg)) + (nI 1))]) (E' := E) (I' := I) (J' := J) (S' := S) am_e37 rfl rfl rfl rfl ?_
  refine w_st (i' := 23) (ls' := [.ref 20, .ref 12, .int p2, .int (((I 20) 6) * (nI 4)), .int w2, .int w4, .int (((I 23) (((I 20) 6).toNatClampNeg)) + (nI 1)), am_U]) (st' := []) (E' := E) (I' := I) (J' := J) (S' := S) am_e37 rfl rfl rfl rfl ?_
  refine w_var (fun w6 => am_ww 37 23 [.ref 20, .ref 12, .int p2, .int (((I 20) 6) * (nI 4)), .int w2, .int w4, .int w6, am_U] [] E I J S _) (((I 23) (((I 20) 6).toNatClampNeg)) + (nI 1)) (fun w6 hw6 => ?_)
  replace h := h w6 hw6
  refine w_st (i' := 24) (ls' := [.ref 20, .ref 12, .int p2, .int (((I 20) 6) * (nI 4)), .int w2, .int w4, .int w6, am_U]) (st' := [.ref 12]) (E' := E) (I' := I) (J' := J) (S' := S) am_e37 rfl rfl rfl rfl ?_
  refine w_st (i' := 25) (ls' := [.ref 20, .ref 12, .int p2, .int (((I 20) 6) * (nI 4)), .int w2, .int w4, .int w6, am_U]) (st' := [.ref 13]) (E' := E) (I' := I) (J' := J) (S' := S) am_e37 rfl rfl rfl rfl ?_
  refine w_st (i' := 26) (ls' := [.ref 20, .ref 12, .int p2, .int (((I 20) 6) * (nI 4)), .int w2, .int w4, .int w6, am_U]) (st' := [.int p2, .ref 13]) (E' := E) (I' := I) (J' := J) (S' := S) am_e37 rfl rfl rfl rfl ?_
  have hf7 := h.1
  replace h := h.2
  refine w_ia (k := 13) (n := 64) (jn := p2.toNatClampNeg) am_e37 rfl rfl (by decide) hf7 rfl ?_
  refine w_lk am_e37 rfl ?_
  by_cases c15 : ((I 13) p2.toNatClampNeg) = nI 15
  · replace h := h.1 c15
    refine w_to (i2 := 28) (by rw [c15]; first | done | rfl) ?_
    refine w_st (i' := 29) (ls' := [.ref 20, .ref 12, .int p2, .int (((I 20) 6) * (nI 4)), .int w2, .int w4, .int w6, am_U]) (st' := [.int w2]) (E' := E) (I' := I) (J' := J) (S' := S) am_e37 rfl rfl rfl rfl ?_
    refine w_st (i' := 30) (ls' := [.ref 20, .ref 12, .int p2, .int (((I 20) 6) * (nI 4)), .int w2, .int w4, .int w2, am_U]) (st' := []) (E' := E) (I' := I) (J' := J) (S' := S) am_e37 rfl rfl rfl rfl ?_
    refine w_st (i' := 69) (ls' := [.ref 20, .ref 12, .int p2, .int (((I 20) 6) * (nI 4)), .int w2, .int w4, .int w2, am_U]) (st' := []) (E' := E) (I' := I) (J' := J) (S' := S) am_e37 rfl rfl rfl rfl ?_
    exact h
  by_cases c16 : ((I 13) p2.toNatClampNeg) = nI 16
  · replace h := h.2.1 c16
    refine w_to (i2 := 31) (by rw [c16]; first | done | rfl) ?_
    refine w_st (i' := 32) (ls' := [.ref 20, .ref 12, .int p2, .int (((I 20) 6) * (nI 4)), .int w2, .int w4, .int w6, am_U]) (st' := [.ref 20]) (E' := E) (I' := I) (J' := J) (S' := S) am_e37 rfl rfl rfl rfl ?_
    refine w_st (i' := 33) (ls' := [.ref 20, .ref 12, .int p2, .int (((I 20) 6) * (nI 4)), .int w2, .int w4, .int w6, am_U]) (st' := [.ref 22]) (E' := E) (I' := I) (J' := J) (S' := S) am_e37 rfl rfl rfl rfl ?_
    refine w_st (i' := 34) (ls' := [.ref 20, .ref 12, .int p2, .int (((I 20) 6) * (nI 4)), .int w2, .int w4, .int w6, am_U]) (st' := [.int (((I 20) 6) * (nI 4)), .ref 22]) (E' := E) (I' := I) (J' := J) (S' := S) am_e37 rfl rfl rfl rfl ?_
    refine w_st (i' := 35) (ls' := [.ref 20, .ref 12, .int p2, .int (((I 20) 6) * (nI 4)), .int w2, .int w4, .int w6, am_U]) (st' := [.int w2, .int (((I 20) 6) * (nI 4)), .ref 22]) (E' := E) (I' := I) (J' := J) (S' := S) am_e37 rfl rfl rfl rfl ?_
    refine w_st (i' := 36) (ls' := [.ref 20, .ref 12, .int p2, .int (((I 20) 6) * (nI 4)), .int w2, .int w4, .int w6, am_U]) (st' := [.int ((((I 20) 6) * (nI 4)) + w2), .ref 22]) (E' := E) (I' := I) (J' := J) (S' := S) am_e37 rfl rfl rfl rfl ?_
    have hf8 := h.1
    replace h := h.2
    refine w_ia (k := 22) (n := 16) (jn := ((((I 20) 6) * (nI 4)) + w2).toNatClampNeg) am_e37 rfl rfl (by decide) hf8 rfl ?_
    refine w_mg (i := 41) (ls' := [.ref 20, .ref 12, .int p2, .int (((I 20) 6) * (nI 4)), .int w2, .int w4, .int w6, am_U]) (st' := [.int (if ((I 22) (((((I 20) 6) * (nI 4)) + w2).toNatClampNeg)) = 0 then w4 else w6)]) (fun hm => ?_) ?_
    · clear h
      refine w_if1 am_e37 rfl rfl (fun c => ?_) (fun c => ?_)
      · have m9 : ¬ (((I 22) (((((I 20) 6) * (nI 4)) + w2).toNatClampNeg)) = 0) := (of_decide_eq_true c)
        refine w_st (i' := 41) (ls' := [.ref 20, .ref 12, .int p2, .int (((I 20) 6) * (nI 4)), .int w2, .int w4, .int w6, am_U]) (st' := [.int w6]) (E' := E) (I' := I) (J' := J) (S' := S) am_e37 rfl rfl rfl rfl ?_
        first | exact hm | (simp only [if_neg m9] at hm; exact hm)
      · have m9 : ((I 22) (((((I 20) 6) * (nI 4)) + w2).toNatClampNeg)) = 0 := (Decidable.not_not.mp (of_decide_eq_false c))
        refine w_st (i' := 39) (ls' := [.ref 20, .ref 12, .int p2, .int (((I 20) 6) * (nI 4)), .int w2, .int w4, .int w6, am_U]) (st' := [.int w4]) (E' := E) (I' := I) (J' := J) (S' := S) am_e37 rfl rfl rfl rfl ?_
        refine w_st (i' := 41) (ls' := [.ref 20, .ref 12, .int p2, .int (((I 20) 6) * (nI 4)), .int w2, .int w4, .int w6, am_U]) (st' := [.int w4]) (E' := E) (I' := I) (J' := J) (S' := S) am_e37 rfl rfl rfl rfl ?_
        first | exact hm | (simp only [if_pos m9] at hm; exact hm)
    refine w_var (fun w10 => am_ww 37 41 [.ref 20, .ref 12, .int p2, .int (((I 20) 6) * (nI 4)), .int w2, .int w4, .int w6, am_U] [.int w10] E I J S _) (if ((I 22) (((((I 20) 6) * (nI 4)) + w2).toNatClampNeg)) = 0 then w4 else w6) (fun w10 hw10 => ?_)
    replace h := h w10 hw10
    refine w_st (i' := 42) (ls' := [.ref 20, .ref 12, .int p2, .int (((I 20) 6) * (nI 4)), .int w2, .int w4, .int w10, am_U]) (st' := []) (E' := E) (I' := I) (J' := J) (S' := S) am_e37 rfl rfl rfl rfl ?_
    refine w_st (i' := 69) (ls' := [.ref 20, .ref 12, .int p2, .int (((I 20) 6) * (nI 4)), .int w2, .int w4, .int w10, am_U]) (st' := []) (E' := E) (I' := I) (J' := J) (S' := S) am_e37 rfl rfl rfl rfl ?_
    exact h
  replace h := h.2.2 c15 c16
  refine w_to (i2 := 43) (am_lk_out (by intro q h1; have : q = 15 ∨ q = 16 := (by simpa using h1); rcases this with rfl | rfl <;> assumption)) ?_
  refine w_st (i' := 44) (ls' := [.ref 20, .ref 12, .int p2, .int (((I 20) 6) * (nI 4)), .int w2, .int w4, .int w6, am_U]) (st' := [.ref 20]) (E' := E) (I' := I) (J' := J) (S' := S) am_e37 rfl rfl rfl rfl ?_
  refine w_st (i' := 45) (ls' := [.ref 20, .ref 12, .int p2, .int (((I 20) 6) * (nI 4)), .int w2, .int w4, .int w6, am_U]) (st' := [.ref 22]) (E' := E) (I' := I) (J' := J) (S' := S) am_e37 rfl rfl rfl rfl ?_
  refine w_st (i' := 46) (ls' := [.ref 20, .ref 12, .int p2, .int (((I 20) 6) * (nI 4)), .int w2, .int w4, .int w6, am_U]) (st' := [.int (((I 20) 6) * (nI 4)), .ref 22]) (E' := E) (I' := I) (J' := J) (S' := S) am_e37 rfl rfl rfl rfl ?_
  refine w_st (i' := 47) (ls' := [.ref 20, .ref 12, .int p2, .int (((I 20) 6) * (nI 4)), .int w2, .int w4, .int w6, am_U]) (st' := [.int w2, .int (((I 20) 6) * (nI 4)), .ref 22]) (E' := E) (I' := I) (J' := J) (S' := S) am_e37 rfl rfl rfl rfl ?_
  refine w_st (i' := 48) (ls' := [.ref 20, .ref 12, .int p2, .int (((I 20) 6) * (nI 4)), .int w2, .int w4, .int w6, am_U]) (st' := [.int ((((I 20) 6) * (nI 4)) + w2), .ref 22]) (E' := E) (I' := I) (J' := J) (S' := S) am_e37 rfl rfl rfl rfl ?_
  have hf11 := h.1
  replace h := h.2
  refine w_ia (k := 22) (n := 16) (jn := ((((I 20) 6) * (nI 4)) + w2).toNatClampNeg) am_e37 rfl rfl (by decide) hf11 rfl ?_
  refine w_st (i' := 50) (ls' := [.ref 20, .ref 12, .int p2, .int (((I 20) 6) * (nI 4)), .int w2, .int w4, .int w6, am_U]) (st' := [.ref 20, .int ((I 22) (((((I 20) 6) * (nI 4)) + w2).toNatClampNeg))]) (E' := E) (I' := I) (J' := J) (S' := S) am_e37 rfl rfl rfl rfl ?_
  refine w_st (i' := 51) (ls' := [.ref 20, .ref 12, .int p2, .int (((I 20) 6) * (nI 4)), .int w2, .int w4, .int w6, am_U]) (st' := [.ref 22, .int ((I 22) (((((I 20) 6) * (nI 4)) + w2).toNatClampNeg))]) (E' := E) (I' := I) (J' := J) (S' := S) am_e37 rfl rfl rfl rfl ?_
  refine w_st (i' := 52) (ls' := [.ref 20, .ref 12, .int p2, .int (((I 20) 6) * (nI 4)), .int w2, .int w4, .int w6, am_U]) (st' := [.int (((I 20) 6) * (nI 4)), .ref 22, .int ((I 22) (((((I 20) 6) * (nI 4)) + w2).toNatClampNeg))]) (E' := E) (I' := I) (J' := J) (S' := S) am_e37 rfl rfl rfl rfl ?_
  refine w_st (i' := 53) (ls' := [.ref 20, .ref 12, .int p2, .int (((I 20) 6) * (nI 4)), .int w2, .int w4, .int w6, am_U]) (st' := [.int w4, .int (((I 20) 6) * (nI 4)), .ref 22, .int ((I 22) (((((I 20) 6) * (nI 4)) + w2).toNatClampNeg))]) (E' := E) (I' := I) (J' := J) (S' := S) am_e37 rfl rfl rfl rfl ?_
  refine w_st (i' := 54) (ls' := [.ref 20, .ref 12, .int p2, .int (((I 20) 6) * (nI 4)), .int w2, .int w4, .int w6, am_U]) (st' := [.int ((((I 20) 6) * (nI 4)) + w4), .ref 22, .int ((I 22) (((((I 20) 6) * (nI 4)) + w2).toNatClampNeg))]) (E' := E) (I' := I) (J' := J) (S' := S) am_e37 rfl rfl rfl rfl ?_
  have hf12 := h.1
  replace h := h.2
  refine w_ia (k := 22) (n := 16) (jn := ((((I 20) 6) * (nI 4)) + w4).toNatClampNeg) am_e37 rfl rfl (by decide) hf12 rfl ?_
  refine w_mg (i := 59) (ls' := [.ref 20, .ref 12, .int p2, .int (((I 20) 6) * (nI 4)), .int w2, .int w4, .int w6, am_U]) (st' := [.int (if ((I 22) (((((I 20) 6) * (nI 4)) + w4).toNatClampNeg)) ≤ ((I 22) (((((I 20) 6) * (nI 4)) + w2).toNatClampNeg)) then nI 0 else nI 1)]) (fun hm => ?_) ?_
  · clear h
    refine w_if2 am_e37 rfl rfl (fun c => ?_) (fun c => ?_)
    · have m13 : ((I 22) (((((I 20) 6) * (nI 4)) + w4).toNatClampNeg)) ≤ ((I 22) (((((I 20) 6) * (nI 4)) + w2).toNatClampNeg)) := (of_decide_eq_true c)
      refine w_st (i' := 59) (ls' := [.ref 20, .ref 12, .int p2, .int (((I 20) 6) * (nI 4)), .int w2, .int w4, .int w6, am_U]) (st' := [.int (nI 0)]) (E' := E) (I' := I) (J' := J) (S' := S) am_e37 rfl rfl rfl rfl ?_
      first | exact hm | (simp only [if_pos m13] at hm; exact hm)
    · have m13 : ¬ (((I 22) (((((I 20) 6) * (nI 4)) + w4).toNatClampNeg)) ≤ ((I 22) (((((I 20) 6) * (nI 4)) + w2).toNatClampNeg))) := (of_decide_eq_false c)
      refine w_st (i' := 57) (ls' := [.ref 20, .ref 12, .int p2, .int (((I 20) 6) * (nI 4)), .int w2, .int w4, .int w6, am_U]) (st' := [.int (nI 1)]) (E' := E) (I' := I) (J' := J) (S' := S) am_e37 rfl rfl rfl rfl ?_
      refine w_st (i' := 59) (ls' := [.ref 20, .ref 12, .int p2, .int (((I 20) 6) * (nI 4)), .int w2, .int w4, .int w6, am_U]) (st' := [.int (nI 1)]) (E' := E) (I' := I) (J' := J) (S' := S) am_e37 rfl rfl rfl rfl ?_
      first | exact hm | (simp only [if_neg m13] at hm; exact hm)
  refine w_var (fun w14 => am_ww 37 59 [.ref 20, .ref 12, .int p2, .int (((I 20) 6) * (nI 4)), .int w2, .int w4, .int w6, am_U] [.int w14] E I J S _) (if ((I 22) (((((I 20) 6) * (nI 4)) + w4).toNatClampNeg)) ≤ ((I 22) (((((I 20) 6) * (nI 4)) + w2).toNatClampNeg)) then nI 0 else nI 1) (fun w14 hw14 => ?_)
  replace h := h w14 hw14
  refine w_st (i' := 60) (ls' := [.ref 20, .ref 12, .int p2, .int (((I 20) 6) * (nI 4)), .int w2, .int w4, .int w6, .int w14]) (st' := []) (E' := E) (I' := I) (J' := J) (S' := S) am_e37 rfl rfl rfl rfl ?_
  refine w_st (i' := 61) (ls' := [.ref 20, .ref 12, .int p2, .int (((I 20) 6) * (nI 4)), .int w2, .int w4, .int w6, .int w14]) (st' := [.int w14]) (E' := E) (I' := I) (J' := J) (S' := S) am_e37 rfl rfl rfl rfl ?_
  refine w_if1 am_e37 rfl rfl (fun c => ?_) (fun c => ?_)
  · replace h := h.1 (of_decide_eq_true c)
    refine w_st (i' := 68) (ls' := [.ref 20, .ref 12, .int p2, .int (((I 20) 6) * (nI 4)), .int w2, .int w4, .int w6, .int w14]) (st' := [.int w6]) (E' := E) (I' := I) (J' := J) (S' := S) am_e37 rfl rfl rfl rfl ?_
    refine w_st (i' := 69) (ls' := [.ref 20, .ref 12, .int p2, .int (((I 20) 6) * (nI 4)), .int w2, .int w4, .int w6, .int w14]) (st' := []) (E' := E) (I' := I) (J' := J) (S' := S) am_e37 rfl rfl rfl rfl ?_
    exact h
  · replace h := h.2 (of_decide_eq_false c)
    refine w_st (i' := 63) (ls' := [.ref 20, .ref 12, .int p2, .int (((I 20) 6) * (nI 4)), .int w2, .int w4, .int w6, .int w14]) (st' := [.ref 12]) (E' := E) (I' := I) (J' := J) (S' := S) am_e37 rfl rfl rfl rfl ?_
    refine w_st (i' := 64) (ls' := [.ref 20, .ref 12, .int p2, .int (((I 20) 6) * (nI 4)), .int w2, .int w4, .int w6, .int w14]) (st' := [.int p2, .ref 12]) (E' := E) (I' := I) (J' := J) (S' := S) am_e37 rfl rfl rfl rfl ?_
    refine w_st (i' := 65) (ls' := [.ref 20, .ref 12, .int p2, .int (((I 20) 6) * (nI 4)), .int w2, .int w4, .int w6, .int w14]) (st' := [.int (nI 2), .int p2, .ref 12]) (E' := E) (I' := I) (J' := J) (S' := S) am_e37 rfl rfl rfl rfl ?_
    refine w_cI am_e37 rfl rfl (as := [.ref 12, .int p2, .int (nI 2)]) (rest := []) rfl rfl ?_
    show am_ww 26 0 [.ref 12, .int p2, .int (nI 2)] [] E I J S _
    refine w_st (i' := 1) (ls' := [.ref 12, .int p2, .int (nI 2)]) (st' := [.ref 12]) (E' := E) (I' := I) (J' := J) (S' := S) am_e26 rfl rfl rfl rfl ?_
    refine w_st (i' := 2) (ls' := [.ref 12, .int p2, .int (nI 2)]) (st' := [.ref 14]) (E' := E) (I' := I) (J' := J) (S' := S) am_e26 rfl rfl rfl rfl ?_
    refine w_st (i' := 3) (ls' := [.ref 12, .int p2, .int (nI 2)]) (st' := [.int p2, .ref 14]) (E' := E) (I' := I) (J' := J) (S' := S) am_e26 rfl rfl rfl rfl ?_
    refine w_st (i' := 4) (ls' := [.ref 12, .int p2, .int (nI 2)]) (st' := [.int (nI 3), .int p2, .ref 14]) (E' := E) (I' := I) (J' := J) (S' := S) am_e26 rfl rfl rfl rfl ?_
    refine w_st (i' := 5) (ls' := [.ref 12, .int p2, .int (nI 2)]) (st' := [.int (p2 * (nI 3)), .ref 14]) (E' := E) (I' := I) (J' := J) (S' := S) am_e26 rfl rfl rfl rfl ?_
    refine w_st (i' := 6) (ls' := [.ref 12, .int p2, .int (nI 2)]) (st' := [.int (nI 2), .int (p2 * (nI 3)), .ref 14]) (E' := E) (I' := I) (J' := J) (S' := S) am_e26 rfl rfl rfl rfl ?_
    refine w_st (i' := 7) (ls' := [.ref 12, .int p2, .int (nI 2)]) (st' := [.int ((p2 * (nI 3)) + (nI 2)), .ref 14]) (E' := E) (I' := I) (J' := J) (S' := S) am_e26 rfl rfl rfl rfl ?_
    have hf15 := h.1
    replace h := h.2
    refine w_ia (k := 14) (n := 192) (jn := ((p2 * (nI 3)) + (nI 2)).toNatClampNeg) am_e26 rfl rfl (by decide) hf15 rfl ?_
    refine w_ri am_e26 rfl rfl (q_mkI ?_)
    show am_ww 37 66 [.ref 20, .ref 12, .int p2, .int (((I 20) 6) * (nI 4)), .int w2, .int w4, .int w6, .int w14] [.int ((I 14) (((p2 * (nI 3)) + (nI 2)).toNatClampNeg))] E I J S _
    refine w_var (fun w16 => am_ww 37 66 [.ref 20, .ref 12, .int p2, .int (((I 20) 6) * (nI 4)), .int w2, .int w4, .int w6, .int w14] [.int w16] E I J S _) ((I 14) (((p2 * (nI 3)) + (nI 2)).toNatClampNeg)) (fun w16 hw16 => ?_)
    replace h := h w16 hw16
    refine w_st (i' := 68) (ls' := [.ref 20, .ref 12, .int p2, .int (((I 20) 6) * (nI 4)), .int w2, .int w4, .int w6, .int w14]) (st' := [.int w16]) (E' := E) (I' := I) (J' := J) (S' := S) am_e37 rfl rfl rfl rfl ?_
    refine w_st (i' := 69) (ls' := [.ref 20, .ref 12, .int p2, .int (((I 20) 6) * (nI 4)), .int w2, .int w4, .int w16, .int w14]) (st' := []) (E' := E) (I' := I) (J' := J) (S' := S) am_e37 rfl rfl rfl rfl ?_
    exact h
theorem g37_69_20 {d1 : Value} {d2 : Value} {d3 : Value} {d4 : Value} {d5 : Value} {x6 : Int32} {d7 : Value} {E : am_Ev} {I : Nat → Nat → Int32} {J : Nat → Nat → Int64} {S : Nat → Nat → Option Nat} {Q : am_Qt} (hd1 : am_isL d1 = false) (hd2 : am_isL d2 = false) (hd3 : am_isL d3 = false) (hd4 : am_isL d4 = false) (hd5 : am_isL d5 = false) (hd7 : am_isL d7 = false) (h : vp_in ((I 20) 6) 4 ∧ (Q (.inl none) E (u_I (u_I I 23 (upd (I 23) (((I 20) 6).toNatClampNeg) x6)) 24 (upd (I 24) (((I 20) 6).toNatClampNeg) (((I 24) (((I 20) 6).toNatClampNeg)) + (nI 1)))) J S)) : am_ww 37 69 [.ref 20, d1, d2, d3, d4, d5, .int x6, d7] [] E I J S Q := by
  refine w_st (i' := 70) (ls' := [.ref 20, d1, d2, d3, d4, d5, .int x6, d7]) (st' := [.ref 20]) (E' := E) (I' := I) (J' := J) (S' := S) am_e37 rfl rfl rfl rfl ?_
  refine w_st (i' := 71) (ls' := [.ref 20, d1, d2, d3, d4, d5, .int x6, d7]) (st' := [.ref 23]) (E' := E) (I' := I) (J' := J) (S' := S) am_e37 rfl rfl rfl rfl ?_
  refine w_st (i' := 72) (ls' := [.ref 20, d1, d2, d3, d4, d5, .int x6, d7]) (st' := [.ref 20, .ref 23]) (E' := E) (I' := I) (J' := J) (S' := S) am_e37 rfl rfl rfl rfl ?_
  refine w_st (i' := 73) (ls' := [.ref 20, d1, d2, d3, d4, d5, .int x6, d7]) (st' := [.int ((I 20) 6), .ref 23]) (E' := E) (I' := I) (J' := J) (S' := S) am_e37 rfl rfl rfl rfl ?_
  refine w_st (i' := 74) (ls' := [.ref 20, d1, d2, d3, d4, d5, .int x6, d7]) (st' := [.int x6, .int ((I 20) 6), .ref 23]) (E' := E) (I' := I) (J' := J) (S' := S) am_e37 rfl rfl rfl rfl ?_
  have hf1 := h.1
  replace h := h.2
  refine w_is (k := 23) (n := 4) (jn := ((I 20) 6).toNatClampNeg) am_e37 rfl rfl (by decide) hf1 rfl ?_
  show am_ww 37 75 [.ref 20, d1, d2, d3, d4, d5, .int x6, d7] [] E (u_I I 23 (upd (I 23) (((I 20) 6).toNatClampNeg) x6)) J S _
  refine w_st (i' := 76) (ls' := [.ref 20, d1, d2, d3, d4, d5, .int x6, d7]) (st' := [.ref 20]) (E' := E) (I' := (u_I I 23 (upd (I 23) (((I 20) 6).toNatClampNeg) x6))) (J' := J) (S' := S) am_e37 rfl rfl rfl rfl ?_
  refine w_st (i' := 77) (ls' := [.ref 20, d1, d2, d3, d4, d5, .int x6, d7]) (st' := [.ref 24]) (E' := E) (I' := (u_I I 23 (upd (I 23) (((I 20) 6).toNatClampNeg) x6))) (J' := J) (S' := S) am_e37 rfl rfl rfl rfl ?_
  refine w_st (i' := 78) (ls' := [.ref 20, d1, d2, d3, d4, d5, .int x6, d7]) (st' := [.ref 20, .ref 24]) (E' := E) (I' := (u_I I 23 (upd (I 23) (((I 20) 6).toNatClampNeg) x6))) (J' := J) (S' := S) am_e37 rfl rfl rfl rfl ?_
  refine w_st (i' := 79) (ls' := [.ref 20, d1, d2, d3, d4, d5, .int x6, d7]) (st' := [.int ((I 20) 6), .ref 24]) (E' := E) (I' := (u_I I 23 (upd (I 23) (((I 20) 6).toNatClampNeg) x6))) (J' := J) (S' := S) am_e37 rfl rfl rfl rfl ?_
  refine w_st (i' := 80) (ls' := [.ref 20, d1, d2, d3, d4, d5, .int x6, d7]) (st' := [.int ((I 20) 6), .ref 24, .int ((I 20) 6), .ref 24]) (E' := E) (I' := (u_I I 23 (upd (I 23) (((I 20) 6).toNatClampNeg) x6))) (J' := J) (S' := S) am_e37 rfl rfl rfl rfl ?_
  refine w_ia (k := 24) (n := 4) (jn := ((I 20) 6).toNatClampNeg) am_e37 rfl rfl (by decide) hf1 rfl ?_
  show am_ww 37 81 [.ref 20, d1, d2, d3, d4, d5, .int x6, d7] [.int ((I 24) (((I 20) 6).toNatClampNeg)), .int ((I 20) 6), .ref 24] E (u_I I 23 (upd (I 23) (((I 20) 6).toNatClampNeg) x6)) J S _
  refine w_st (i' := 82) (ls' := [.ref 20, d1, d2, d3, d4, d5, .int x6, d7]) (st' := [.int (nI 1), .int ((I 24) (((I 20) 6).toNatClampNeg)), .int ((I 20) 6), .ref 24]) (E' := E) (I' := (u_I I 23 (upd (I 23) (((I 20) 6).toNatClampNeg) x6))) (J' := J) (S' := S) am_e37 rfl rfl rfl rfl ?_
  refine w_st (i' := 83) (ls' := [.ref 20, d1, d2, d3, d4, d5, .int x6, d7]) (st' := [.int (((I 24) (((I 20) 6).toNatClampNeg)) + (nI 1)), .int ((I 20) 6), .ref 24]) (E' := E) (I' := (u_I I 23 (upd (I 23) (((I 20) 6).toNatClampNeg) x6))) (J' := J) (S' := S) am_e37 rfl rfl rfl rfl ?_
  refine w_is (k := 24) (n := 4) (jn := ((I 20) 6).toNatClampNeg) am_e37 rfl rfl (by decide) hf1 rfl ?_
  show am_ww 37 84 [.ref 20, d1, d2, d3, d4, d5, .int x6, d7] [] E (u_I (u_I I 23 (upd (I 23) (((I 20) 6).toNatClampNeg) x6)) 24 (upd (I 24) (((I 20) 6).toNatClampNeg) (((I 24) (((I 20) 6).toNatClampNeg)) + (nI 1)))) J S _
  exact w_end am_e37 rfl rfl rfl h
-- 38 work
theorem g38_0_20 {p2 : Int32} {p3 : Int32} {E : am_Ev} {I : Nat → Nat → Int32} {J : Nat → Nat → Int64} {S : Nat → Nat → Option Nat} {Q : am_Qt}  (h : vp_in ((p2 * (nI 3)) + (nI 0)) 192 ∧ (∀ w2 : Int32, w2 = ((I 14) (((p2 * (nI 3)) + (nI 0)).toNatClampNeg)) → (vp_in ((p2 * (nI 3)) + (nI 1)) 192 ∧ (∀ w4 : Int32, w4 = ((I 14) (((p2 * (nI 3)) + (nI 1)).toNatClampNeg)) → (vp_in p2 64 ∧ ((((I 13) p2.toNatClampNeg) = nI 6 → (vp_in ((((I 20) 6) * (nI 4)) + w2) 16 ∧ (Q (.inl none) E (u_I I 22 (upd (I 22) (((((I 20) 6) * (nI 4)) + w2).toNatClampNeg) w4)) J S))) ∧ (((I 13) p2.toNatClampNeg) = nI 7 → (vp_in w4 16 ∧ (vp_in ((((I 20) 6) * (nI 4)) + w2) 16 ∧ (Q (.inl none) E (u_I I 22 (upd (I 22) (((((I 20) 6) * (nI 4)) + w2).toNatClampNeg) ((I 21) w4.toNatClampNeg))) J S)))) ∧ (((I 13) p2.toNatClampNeg) = nI 8 → (vp_in ((((I 20) 6) * (nI 4)) + w4) 16 ∧ (vp_in w2 16 ∧ (Q (.inl none) E (u_I I 21 (upd (I 21) w2.toNatClampNeg ((I 22) (((((I 20) 6) * (nI 4)) + w4).toNatClampNeg)))) J S)))) ∧ (((I 13) p2.toNatClampNeg) = nI 9 → (vp_in ((((I 20) 6) * (nI 4)) + w2) 16 ∧ (vp_in ((((I 20) 6) * (nI 4)) + w4) 16 ∧ (Q (.inl none) E (u_I I 22 (upd (I 22) (((((I 20) 6) * (nI 4)) + w2).toNatClampNeg) (((I 22) (((((I 20) 6) * (nI 4)) + w2).toNatClampNeg)) + ((I 22) (((((I 20) 6) * (nI 4)) + w4).toNatClampNeg))))) J S)))) ∧ (((I 13) p2.toNatClampNeg) = nI 10 → (vp_in ((((I 20) 6) * (nI 4)) + w2) 16 ∧ (vp_in ((((I 20) 6) * (nI 4)) + w4) 16 ∧ (Q (.inl none) E (u_I I 22 (upd (I 22) (((((I 20) 6) * (nI 4)) + w2).toNatClampNeg) (((I 22) (((((I 20) 6) * (nI 4)) + w2).toNatClampNeg)) - ((I 22) (((((I 20) 6) * (nI 4)) + w4).toNatClampNeg))))) J S)))) ∧ (((I 13) p2.toNatClampNeg) = nI 11 → (vp_in ((((I 20) 6) * (nI 4)) + w2) 16 ∧ (vp_in ((((I 20) 6) * (nI 4)) + w4) 16 ∧ (Q (.inl none) E (u_I I 22 (upd (I 22) (((((I 20) 6) * (nI 4)) + w2).toNatClampNeg) (((I 22) (((((I 20) 6) * (nI 4)) + w2).toNatClampNeg)) * ((I 22) (((((I 20) 6) * (nI 4)) + w4).toNatClampNeg))))) J S)))) ∧ (((I 13) p2.toNatClampNeg) = nI 12 → (vp_in ((((I 20) 6) * (nI 4)) + w2) 16 ∧ (vp_in w4 3 ∧ (Q (.inl none) E (u_I (u_I I 22 (upd (I 22) (((((I 20) 6) * (nI 4)) + w2).toNatClampNeg) p3)) 26 (upd (I 26) w4.toNatClampNeg (((I 26) w4.toNatClampNeg) + (nI 1)))) J S)))) ∧ (((I 13) p2.toNatClampNeg) = nI 13 → (vp_in w2 4 ∧ (Q (.inl none) E (u_I I 25 (upd (I 25) w2.toNatClampNeg ((I 20) 6))) J S))) ∧ (((I 13) p2.toNatClampNeg) = nI 14 → (vp_in w2 4 ∧ (∀ w22 : Int32, w22 = (if ((I 25) w2.toNatClampNeg) = ((I 20) 6) then (-1) else ((I 25) w2.toNatClampNeg)) → (Q (.inl none) E (u_I I 25 (upd (I 25) w2.toNatClampNeg w22)) J S)))) ∧ (¬ ((I 13) p2.toNatClampNeg) = nI 6 → ¬ ((I 13) p2.toNatClampNeg) = nI 7 → ¬ ((I 13) p2.toNatClampNeg) = nI 8 → ¬ ((I 13) p2.toNatClampNeg) = nI 9 → ¬ ((I 13) p2.toNatClampNeg) = nI 10 → ¬ ((I 13) p2.toNatClampNeg) = nI 11 → ¬ ((I 13) p2.toNatClampNeg) = nI 12 → ¬ ((I 13) p2.toNatClampNeg) = nI 13 → ¬ ((I 13) p2.toNatClampNeg) = nI 14 → (Q (.inl none) E I J S)))))))) : am_ww 38 0 [.ref 20, .ref 12, .int p2, .int p3, am_U, am_U, am_U] [] E I J S Q := by
  refine w_st (i' := 1) (ls' := [.ref 20, .ref 12, .int p2, .int p3, am_U, am_U, am_U]) (st' := [.ref 20]) (E' := E) (I' := I) (J' := J) (S' := S) am_e38 rfl rfl rfl rfl ?_
  refine w_st (i' := 2) (ls' := [.ref 20, .ref 12, .int p2, .int p3, am_U, am_U, am_U]) (st' := [.int ((I 20) 6)]) (E' := E) (I' := I) (J' := J) (S' := S) am_e38 rfl rfl rfl rfl ?_
  refine w_st (i' := 3) (ls' := [.ref 20, .ref 12, .int p2, .int p3, am_U, am_U, am_U]) (st' := [.int (nI 4), .int ((I 20) 6)]) (E' := E) (I' := I) (J' := J) (S' := S) am_e38 rfl rfl rfl rfl ?_
  refine w_st (i' := 4) (ls' := [.ref 20, .ref 12, .int p2, .int p3, am_U, am_U, am_U]) (st' := [.int (((I 20) 6) * (nI 4))]) (E' := E) (I' := I) (J' := J) (S' := S) am_e38 rfl rfl rfl rfl ?_
  refine w_st (i' := 5) (ls' := [.ref 20, .ref 12, .int p2, .int p3, .int (((I 20) 6) * (nI 4)), am_U, am_U]) (st' := []) (E' := E) (I' := I) (J' := J) (S' := S) am_e38 rfl rfl rfl rfl ?_
  refine w_st (i' := 6) (ls' := [.ref 20, .ref 12, .int p2, .int p3, .int (((I 20) 6) * (nI 4)), am_U, am_U]) (st' := [.ref 12]) (E' := E) (I' := I) (J' := J) (S' := S) am_e38 rfl rfl rfl rfl ?_
  refine w_st (i' := 7) (ls' := [.ref 20, .ref 12, .int p2, .int p3, .int (((I 20) 6) * (nI 4)), am_U, am_U]) (st' := [.int p2, .ref 12]) (E' := E) (I' := I) (J' := J) (S' := S) am_e38 rfl rfl rfl rfl ?_
  refine w_st (i' := 8) (ls' := [.ref 20, .ref 12, .int p2, .int p3, .int (((I 20) 6) * (nI 4)), am_U, am_U]) (st' := [.int (nI 0), .int p2, .ref 12]) (E' := E) (I' := I) (J' := J) (S' := S) am_e38 rfl rfl rfl rfl ?_
  refine w_cI am_e38 rfl rfl (as := [.ref 12, .int p2, .int (nI 0)]) (rest := []) rfl rfl ?_
  show am_ww 26 0 [.ref 12, .int p2, .int (nI 0)] [] E I J S _
  refine w_st (i' := 1) (ls' := [.ref 12, .int p2, .int (nI 0)]) (st' := [.ref 12]) (E' := E) (I' := I) (J' := J) (S' := S) am_e26 rfl rfl rfl rfl ?_
  refine w_st (i' := 2) (ls' := [.ref 12, .int p2, .int (nI 0)]) (st' := [.ref 14]) (E' := E) (I' := I) (J' := J) (S' := S) am_e26 rfl rfl rfl rfl ?_
  refine w_st (i' := 3) (ls' := [.ref 12, .int p2, .int (nI 0)]) (st' := [.int p2, .ref 14]) (E' := E) (I' := I) (J' := J) (S' := S) am_e26 rfl rfl rfl rfl ?_
  refine w_st (i' := 4) (ls' := [.ref 12, .int p2, .int (nI 0)]) (st' := [.int (nI 3), .int p2, .ref 14]) (E' := E) (I' := I) (J' := J) (S' := S) am_e26 rfl rfl rfl rfl ?_
  refine w_st (i' := 5) (ls' := [.ref 12, .int p2, .int (nI 0)]) (st' := [.int (p2 * (nI 3)), .ref 14]) (E' := E) (I' := I) (J' := J) (S' := S) am_e26 rfl rfl rfl rfl ?_
  refine w_st (i' := 6) (ls' := [.ref 12, .int p2, .int (nI 0)]) (st' := [.int (nI 0), .int (p2 * (nI 3)), .ref 14]) (E' := E) (I' := I) (J' := J) (S' := S) am_e26 rfl rfl rfl rfl ?_
  refine w_st (i' := 7) (ls' := [.ref 12, .int p2, .int (nI 0)]) (st' := [.int ((p2 * (nI 3)) + (nI 0)), .ref 14]) (E' := E) (I' := I) (J' := J) (S' := S) am_e26 rfl rfl rfl rfl ?_
  have hf1 := h.1
  replace h := h.2
  refine w_ia (k := 14) (n := 192) (jn := ((p2 * (nI 3)) + (nI 0)).toNatClampNeg) am_e26 rfl rfl (by decide) hf1 rfl ?_
  refine w_ri am_e26 rfl rfl (q_mkI ?_)
  show am_ww 38 9 [.ref 20, .ref 12, .int p2, .int p3, .int (((I 20) 6) * (nI 4)), am_U, am_U] [.int ((I 14) (((p2 * (nI 3)) + (nI 0)).toNatClampNeg))] E I J S _
  refine w_var (fun w2 => am_ww 38 9 [.ref 20, .ref 12, .int p2, .int p3, .int (((I 20) 6) * (nI 4)), am_U, am_U] [.int w2] E I J S _) ((I 14) (((p2 * (nI 3)) + (nI 0)).toNatClampNeg)) (fun w2 hw2 => ?_)
  replace h := h w2 hw2
  refine w_st (i' := 10) (ls' := [.ref 20, .ref 12, .int p2, .int p3, .int (((I 20) 6) * (nI 4)), .int w2, am_U]) (st' := []) (E' := E) (I' := I) (J' := J) (S' := S) am_e38 rfl rfl rfl rfl ?_
  refine w_st (i' := 11) (ls' := [.ref 20, .ref 12, .int p2, .int p3, .int (((I 20) 6) * (nI 4)), .int w2, am_U]) (st' := [.ref 12]) (E' := E) (I' := I) (J' := J) (S' := S) am_e38 rfl rfl rfl rfl ?_
  refine w_st (i' := 12) (ls' := [.ref 20, .ref 12, .int p2, .int p3, .int (((I 20) 6) * (nI 4)), .int w2, am_U]) (st' := [.int p2, .ref 12]) (E' := E) (I' := I) (J' := J) (S' := S) am_e38 rfl rfl rfl rfl ?_
  refine w_st (i' := 13) (ls' := [.ref 20, .ref 12, .int p2, .int p3, .int (((I 20) 6) * (nI 4)), .int w2, am_U]) (st' := [.int (nI 1), .int p2, .ref 12]) (E' := E) (I' := I) (J' := J) (S' := S) am_e38 rfl rfl rfl rfl ?_
  refine w_cI am_e38 rfl rfl (as := [.ref 12, .int p2, .int (nI 1)]) (rest := []) rfl rfl ?_
  show am_ww 26 0 [.ref 12, .int p2, .int (nI 1)] [] E I J S _
  refine w_st (i' := 1) (ls' := [.ref 12, .int p2, .int (nI 1)]) (st' := [.ref 12]) (E' := E) (I' := I) (J' := J) (S' := S) am_e26 rfl rfl rfl rfl ?_
  refine w_st (i' := 2) (ls' := [.ref 12, .int p2, .int (nI 1)]) (st' := [.ref 14]) (E' := E) (I' := I) (J' := J) (S' := S) am_e26 rfl rfl rfl rfl ?_
  refine w_st (i' := 3) (ls' := [.ref 12, .int p2, .int (nI 1)]) (st' := [.int p2, .ref 14]) (E' := E) (I' := I) (J' := J) (S' := S) am_e26 rfl rfl rfl rfl ?_
  refine w_st (i' := 4) (ls' := [.ref 12, .int p2, .int (nI 1)]) (st' := [.int (nI 3), .int p2, .ref 14]) (E' := E) (I' := I) (J' := J) (S' := S) am_e26 rfl rfl rfl rfl ?_
  refine w_st (i' := 5) (ls' := [.ref 12, .int p2, .int (nI 1)]) (st' := [.int (p2 * (nI 3)), .ref 14]) (E' := E) (I' := I) (J' := J) (S' := S) am_e26 rfl rfl rfl rfl ?_
  refine w_st (i' := 6) (ls' := [.ref 12, .int p2, .int (nI 1)]) (st' := [.int (nI 1), .int (p2 * (nI 3)), .ref 14]) (E' := E) (I' := I) (J' := J) (S' := S) am_e26 rfl rfl rfl rfl ?_
  refine w_st (i' := 7) (ls' := [.ref 12, .int p2, .int (nI 1)]) (st' := [.int ((p2 * (nI 3)) + (nI 1)), .ref 14]) (E' := E) (I' := I) (J' := J) (S' := S) am_e26 rfl rfl rfl rfl ?_
  have hf3 := h.1
  replace h := h.2
  refine w_ia (k := 14) (n := 192) (jn := ((p2 * (nI 3)) + (nI 1)).toNatClampNeg) am_e26 rfl rfl (by decide) hf3 rfl ?_
  refine w_ri am_e26 rfl rfl (q_mkI ?_)
  show am_ww 38 14 [.ref 20, .ref 12, .int p2, .int p3, .int (((I 20) 6) * (nI 4)), .int w2, am_U] [.int ((I 14) (((p2 * (nI 3)) + (nI 1)).toNatClampNeg))] E I J S _
  refine w_var (fun w4 => am_ww 38 14 [.ref 20, .ref 12, .int p2, .int p3, .int (((I 20) 6) * (nI 4)), .int w2, am_U] [.int w4] E I J S _) ((I 14) (((p2 * (nI 3)) + (nI 1)).toNatClampNeg)) (fun w4 hw4 => ?_)
  replace h := h w4 hw4
  refine w_st (i' := 15) (ls' := [.ref 20, .ref 12, .int p2, .int p3, .int (((I 20) 6) * (nI 4)), .int w2, .int w4]) (st' := []) (E' := E) (I' := I) (J' := J) (S' := S) am_e38 rfl rfl rfl rfl ?_
  refine w_st (i' := 16) (ls' := [.ref 20, .ref 12, .int p2, .int p3, .int (((I 20) 6) * (nI 4)), .int w2, .int w4]) (st' := [.ref 12]) (E' := E) (I' := I) (J' := J) (S' := S) am_e38 rfl rfl rfl rfl ?_
  refine w_st (i' := 17) (ls' := [.ref 20, .ref 12, .int p2, .int p3, .int (((I 20) 6) * (nI 4)), .int w2, .int w4]) (st' := [.ref 13]) (E' := E) (I' := I) (J' := J) (S' := S) am_e38 rfl rfl rfl rfl ?_
  refine w_st (i' := 18) (ls' := [.ref 20, .ref 12, .int p2, .int p3, .int (((I 20) 6) * (nI 4)), .int w2, .int w4]) (st' := [.int p2, .ref 13]) (E' := E) (I' := I) (J' := J) (S' := S) am_e38 rfl rfl rfl rfl ?_
  have hf5 := h.1
  replace h := h.2
  refine w_ia (k := 13) (n := 64) (jn := p2.toNatClampNeg) am_e38 rfl rfl (by decide) hf5 rfl ?_
  refine w_tb am_e38 rfl ?_
  by_cases c6 : ((I 13) p2.toNatClampNeg) = nI 6
  · replace h := h.1 c6
    refine w_to (i2 := 20) (by rw [c6]; first | done | rfl) ?_
    refine w_st (i' := 21) (ls' := [.ref 20, .ref 12, .int p2, .int p3, .int (((I 20) 6) * (nI 4)), .int w2, .int w4]) (st' := [.ref 20]) (E' := E) (I' := I) (J' := J) (S' := S) am_e38 rfl rfl rfl rfl ?_
    refine w_st (i' := 22) (ls' := [.ref 20, .ref 12, .int p2, .int p3, .int (((I 20) 6) * (nI 4)), .int w2, .int w4]) (st' := [.ref 22]) (E' := E) (I' := I) (J' := J) (S' := S) am_e38 rfl rfl rfl rfl ?_
    refine w_st (i' := 23) (ls' := [.ref 20, .ref 12, .int p2, .int p3, .int (((I 20) 6) * (nI 4)), .int w2, .int w4]) (st' := [.int (((I 20) 6) * (nI 4)), .ref 22]) (E' := E) (I' := I) (J' := J) (S' := S) am_e38 rfl rfl rfl rfl ?_
    refine w_st (i' := 24) (ls' := [.ref 20, .ref 12, .int p2, .int p3, .int (((I 20) 6) * (nI 4)), .int w2, .int w4]) (st' := [.int w2, .int (((I 20) 6) * (nI 4)), .ref 22]) (E' := E) (I' := I) (J' := J) (S' := S) am_e38 rfl rfl rfl rfl ?_
    refine w_st (i' := 25) (ls' := [.ref 20, .ref 12, .int p2, .int p3, .int (((I 20) 6) * (nI 4)), .int w2, .int w4]) (st' := [.int ((((I 20) 6) * (nI 4)) + w2), .ref 22]) (E' := E) (I' := I) (J' := J) (S' := S) am_e38 rfl rfl rfl rfl ?_
    refine w_st (i' := 26) (ls' := [.ref 20, .ref 12, .int p2, .int p3, .int (((I 20) 6) * (nI 4)), .int w2, .int w4]) (st' := [.int w4, .int ((((I 20) 6) * (nI 4)) + w2), .ref 22]) (E' := E) (I' := I) (J' := J) (S' := S) am_e38 rfl rfl rfl rfl ?_
    have hf6 := h.1
    replace h := h.2
    refine w_is (k := 22) (n := 16) (jn := ((((I 20) 6) * (nI 4)) + w2).toNatClampNeg) am_e38 rfl rfl (by decide) hf6 rfl ?_
    show am_ww 38 27 [.ref 20, .ref 12, .int p2, .int p3, .int (((I 20) 6) * (nI 4)), .int w2, .int w4] [] E (u_I I 22 (upd (I 22) (((((I 20) 6) * (nI 4)) + w2).toNatClampNeg) w4)) J S _
    refine w_st (i' := 139) (ls' := [.ref 20, .ref 12, .int p2, .int p3, .int (((I 20) 6) * (nI 4)), .int w2, .int w4]) (st' := []) (E' := E) (I' := (u_I I 22 (upd (I 22) (((((I 20) 6) * (nI 4)) + w2).toNatClampNeg) w4))) (J' := J) (S' := S) am_e38 rfl rfl rfl rfl ?_
    exact w_end am_e38 rfl rfl rfl h
  by_cases c7 : ((I 13) p2.toNatClampNeg) = nI 7
  · replace h := h.2.1 c7
    refine w_to (i2 := 28) (by rw [c7]; first | done | rfl) ?_
    refine w_st (i' := 29) (ls' := [.ref 20, .ref 12, .int p2, .int p3, .int (((I 20) 6) * (nI 4)), .int w2, .int w4]) (st' := [.ref 20]) (E' := E) (I' := I) (J' := J) (S' := S) am_e38 rfl rfl rfl rfl ?_
    refine w_st (i' := 30) (ls' := [.ref 20, .ref 12, .int p2, .int p3, .int (((I 20) 6) * (nI 4)), .int w2, .int w4]) (st' := [.ref 22]) (E' := E) (I' := I) (J' := J) (S' := S) am_e38 rfl rfl rfl rfl ?_
    refine w_st (i' := 31) (ls' := [.ref 20, .ref 12, .int p2, .int p3, .int (((I 20) 6) * (nI 4)), .int w2, .int w4]) (st' := [.int (((I 20) 6) * (nI 4)), .ref 22]) (E' := E) (I' := I) (J' := J) (S' := S) am_e38 rfl rfl rfl rfl ?_
    refine w_st (i' := 32) (ls' := [.ref 20, .ref 12, .int p2, .int p3, .int (((I 20) 6) * (nI 4)), .int w2, .int w4]) (st' := [.int w2, .int (((I 20) 6) * (nI 4)), .ref 22]) (E' := E) (I' := I) (J' := J) (S' := S) am_e38 rfl rfl rfl rfl ?_
    refine w_st (i' := 33) (ls' := [.ref 20, .ref 12, .int p2, .int p3, .int (((I 20) 6) * (nI 4)), .int w2, .int w4]) (st' := [.int ((((I 20) 6) * (nI 4)) + w2), .ref 22]) (E' := E) (I' := I) (J' := J) (S' := S) am_e38 rfl rfl rfl rfl ?_
    refine w_st (i' := 34) (ls' := [.ref 20, .ref 12, .int p2, .int p3, .int (((I 20) 6) * (nI 4)), .int w2, .int w4]) (st' := [.ref 20, .int ((((I 20) 6) * (nI 4)) + w2), .ref 22]) (E' := E) (I' := I) (J' := J) (S' := S) am_e38 rfl rfl rfl rfl ?_
    refine w_st (i' := 35) (ls' := [.ref 20, .ref 12, .int p2, .int p3, .int (((I 20) 6) * (nI 4)), .int w2, .int w4]) (st' := [.ref 21, .int ((((I 20) 6) * (nI 4)) + w2), .ref 22]) (E' := E) (I' := I) (J' := J) (S' := S) am_e38 rfl rfl rfl rfl ?_
    refine w_st (i' := 36) (ls' := [.ref 20, .ref 12, .int p2, .int p3, .int (((I 20) 6) * (nI 4)), .int w2, .int w4]) (st' := [.int w4, .ref 21, .int ((((I 20) 6) * (nI 4)) + w2), .ref 22]) (E' := E) (I' := I) (J' := J) (S' := S) am_e38 rfl rfl rfl rfl ?_
    have hf7 := h.1
    replace h := h.2
    refine w_ia (k := 21) (n := 16) (jn := w4.toNatClampNeg) am_e38 rfl rfl (by decide) hf7 rfl ?_
    have hf8 := h.1
    replace h := h.2
    refine w_is (k := 22) (n := 16) (jn := ((((I 20) 6) * (nI 4)) + w2).toNatClampNeg) am_e38 rfl rfl (by decide) hf8 rfl ?_
    show am_ww 38 38 [.ref 20, .ref 12, .int p2, .int p3, .int (((I 20) 6) * (nI 4)), .int w2, .int w4] [] E (u_I I 22 (upd (I 22) (((((I 20) 6) * (nI 4)) + w2).toNatClampNeg) ((I 21) w4.toNatClampNeg))) J S _
    refine w_st (i' := 139) (ls' := [.ref 20, .ref 12, .int p2, .int p3, .int (((I 20) 6) * (nI 4)), .int w2, .int w4]) (st' := []) (E' := E) (I' := (u_I I 22 (upd (I 22) (((((I 20) 6) * (nI 4)) + w2).toNatClampNeg) ((I 21) w4.toNatClampNeg)))) (J' := J) (S' := S) am_e38 rfl rfl rfl rfl ?_
    exact w_end am_e38 rfl rfl rfl h
  by_cases c8 : ((I 13) p2.toNatClampNeg) = nI 8
  · replace h := h.2.2.1 c8
    refine w_to (i2 := 39) (by rw [c8]; first | done | rfl) ?_
    refine w_st (i' := 40) (ls' := [.ref 20, .ref 12, .int p2, .int p3, .int (((I 20) 6) * (nI 4)), .int w2, .int w4]) (st' := [.ref 20]) (E' := E) (I' := I) (J' := J) (S' := S) am_e38 rfl rfl rfl rfl ?_
    refine w_st (i' := 41) (ls' := [.ref 20, .ref 12, .int p2, .int p3, .int (((I 20) 6) * (nI 4)), .int w2, .int w4]) (st' := [.ref 21]) (E' := E) (I' := I) (J' := J) (S' := S) am_e38 rfl rfl rfl rfl ?_
    refine w_st (i' := 42) (ls' := [.ref 20, .ref 12, .int p2, .int p3, .int (((I 20) 6) * (nI 4)), .int w2, .int w4]) (st' := [.int w2, .ref 21]) (E' := E) (I' := I) (J' := J) (S' := S) am_e38 rfl rfl rfl rfl ?_
    refine w_st (i' := 43) (ls' := [.ref 20, .ref 12, .int p2, .int p3, .int (((I 20) 6) * (nI 4)), .int w2, .int w4]) (st' := [.ref 20, .int w2, .ref 21]) (E' := E) (I' := I) (J' := J) (S' := S) am_e38 rfl rfl rfl rfl ?_
    refine w_st (i' := 44) (ls' := [.ref 20, .ref 12, .int p2, .int p3, .int (((I 20) 6) * (nI 4)), .int w2, .int w4]) (st' := [.ref 22, .int w2, .ref 21]) (E' := E) (I' := I) (J' := J) (S' := S) am_e38 rfl rfl rfl rfl ?_
    refine w_st (i' := 45) (ls' := [.ref 20, .ref 12, .int p2, .int p3, .int (((I 20) 6) * (nI 4)), .int w2, .int w4]) (st' := [.int (((I 20) 6) * (nI 4)), .ref 22, .int w2, .ref 21]) (E' := E) (I' := I) (J' := J) (S' := S) am_e38 rfl rfl rfl rfl ?_
    refine w_st (i' := 46) (ls' := [.ref 20, .ref 12, .int p2, .int p3, .int (((I 20) 6) * (nI 4)), .int w2, .int w4]) (st' := [.int w4, .int (((I 20) 6) * (nI 4)), .ref 22, .int w2, .ref 21]) (E' := E) (I' := I) (J' := J) (S' := S) am_e38 rfl rfl rfl rfl ?_
    refine w_st (i' := 47) (ls' := [.ref 20, .ref 12, .int p2, .int p3, .int (((I 20) 6) * (nI 4)), .int w2, .int w4]) (st' := [.int ((((I 20) 6) * (nI 4)) + w4), .ref 22, .int w2, .ref 21]) (E' := E) (I' := I) (J' := J) (S' := S) am_e38 rfl rfl rfl rfl ?_
    have hf9 := h.1
    replace h := h.2
    refine w_ia (k := 22) (n := 16) (jn := ((((I 20) 6) * (nI 4)) + w4).toNatClampNeg) am_e38 rfl rfl (by decide) hf9 rfl ?_
    have hf10 := h.1
    replace h := h.2
    refine w_is (k := 21) (n := 16) (jn := w2.toNatClampNeg) am_e38 rfl rfl (by decide) hf10 rfl ?_
    show am_ww 38 49 [.ref 20, .ref 12, .int p2, .int p3, .int (((I 20) 6) * (nI 4)), .int w2, .int w4] [] E (u_I I 21 (upd (I 21) w2.toNatClampNeg ((I 22) (((((I 20) 6) * (nI 4)) + w4).toNatClampNeg)))) J S _
    refine w_st (i' := 139) (ls' := [.ref 20, .ref 12, .int p2, .int p3, .int (((I 20) 6) * (nI 4)), .int w2, .int w4]) (st' := []) (E' := E) (I' := (u_I I 21 (upd (I 21) w2.toNatClampNeg ((I 22) (((((I 20) 6) * (nI 4)) + w4).toNatClampNeg))))) (J' := J) (S' := S) am_e38 rfl rfl rfl rfl ?_
    exact w_end am_e38 rfl rfl rfl h
  by_cases c9 : ((I 13) p2.toNatClampNeg) = nI 9
  · replace h := h.2.2.2.1 c9
    refine w_to (i2 := 50) (by rw [c9]; first | done | rfl) ?_
    refine w_st (i' := 51) (ls' := [.ref 20, .ref 12, .int p2, .int p3, .int (((I 20) 6) * (nI 4)), .int w2, .int w4]) (st' := [.ref 20]) (E' := E) (I' := I) (J' := J) (S' := S) am_e38 rfl rfl rfl rfl ?_
    refine w_st (i' := 52) (ls' := [.ref 20, .ref 12, .int p2, .int p3, .int (((I 20) 6) * (nI 4)), .int w2, .int w4]) (st' := [.ref 22]) (E' := E) (I' := I) (J' := J) (S' := S) am_e38 rfl rfl rfl rfl ?_
    refine w_st (i' := 53) (ls' := [.ref 20, .ref 12, .int p2, .int p3, .int (((I 20) 6) * (nI 4)), .int w2, .int w4]) (st' := [.int (((I 20) 6) * (nI 4)), .ref 22]) (E' := E) (I' := I) (J' := J) (S' := S) am_e38 rfl rfl rfl rfl ?_
    refine w_st (i' := 54) (ls' := [.ref 20, .ref 12, .int p2, .int p3, .int (((I 20) 6) * (nI 4)), .int w2, .int w4]) (st' := [.int w2, .int (((I 20) 6) * (nI 4)), .ref 22]) (E' := E) (I' := I) (J' := J) (S' := S) am_e38 rfl rfl rfl rfl ?_
    refine w_st (i' := 55) (ls' := [.ref 20, .ref 12, .int p2, .int p3, .int (((I 20) 6) * (nI 4)), .int w2, .int w4]) (st' := [.int ((((I 20) 6) * (nI 4)) + w2), .ref 22]) (E' := E) (I' := I) (J' := J) (S' := S) am_e38 rfl rfl rfl rfl ?_
    refine w_st (i' := 56) (ls' := [.ref 20, .ref 12, .int p2, .int p3, .int (((I 20) 6) * (nI 4)), .int w2, .int w4]) (st' := [.int ((((I 20) 6) * (nI 4)) + w2), .ref 22, .int ((((I 20) 6) * (nI 4)) + w2), .ref 22]) (E' := E) (I' := I) (J' := J) (S' := S) am_e38 rfl rfl rfl rfl ?_
    have hf11 := h.1
    replace h := h.2
    refine w_ia (k := 22) (n := 16) (jn := ((((I 20) 6) * (nI 4)) + w2).toNatClampNeg) am_e38 rfl rfl (by decide) hf11 rfl ?_
    refine w_st (i' := 58) (ls' := [.ref 20, .ref 12, .int p2, .int p3, .int (((I 20) 6) * (nI 4)), .int w2, .int w4]) (st' := [.ref 20, .int ((I 22) (((((I 20) 6) * (nI 4)) + w2).toNatClampNeg)), .int ((((I 20) 6) * (nI 4)) + w2), .ref 22]) (E' := E) (I' := I) (J' := J) (S' := S) am_e38 rfl rfl rfl rfl ?_
    refine w_st (i' := 59) (ls' := [.ref 20, .ref 12, .int p2, .int p3, .int (((I 20) 6) * (nI 4)), .int w2, .int w4]) (st' := [.ref 22, .int ((I 22) (((((I 20) 6) * (nI 4)) + w2).toNatClampNeg)), .int ((((I 20) 6) * (nI 4)) + w2), .ref 22]) (E' := E) (I' := I) (J' := J) (S' := S) am_e38 rfl rfl rfl rfl ?_
    refine w_st (i' := 60) (ls' := [.ref 20, .ref 12, .int p2, .int p3, .int (((I 20) 6) * (nI 4)), .int w2, .int w4]) (st' := [.int (((I 20) 6) * (nI 4)), .ref 22, .int ((I 22) (((((I 20) 6) * (nI 4)) + w2).toNatClampNeg)), .int ((((I 20) 6) * (nI 4)) + w2), .ref 22]) (E' := E) (I' := I) (J' := J) (S' := S) am_e38 rfl rfl rfl rfl ?_
    refine w_st (i' := 61) (ls' := [.ref 20, .ref 12, .int p2, .int p3, .int (((I 20) 6) * (nI 4)), .int w2, .int w4]) (st' := [.int w4, .int (((I 20) 6) * (nI 4)), .ref 22, .int ((I 22) (((((I 20) 6) * (nI 4)) + w2).toNatClampNeg)), .int ((((I 20) 6) * (nI 4)) + w2), .ref 22]) (E' := E) (I' := I) (J' := J) (S' := S) am_e38 rfl rfl rfl rfl ?_
    refine w_st (i' := 62) (ls' := [.ref 20, .ref 12, .int p2, .int p3, .int (((I 20) 6) * (nI 4)), .int w2, .int w4]) (st' := [.int ((((I 20) 6) * (nI 4)) + w4), .ref 22, .int ((I 22) (((((I 20) 6) * (nI 4)) + w2).toNatClampNeg)), .int ((((I 20) 6) * (nI 4)) + w2), .ref 22]) (E' := E) (I' := I) (J' := J) (S' := S) am_e38 rfl rfl rfl rfl ?_
    have hf12 := h.1
    replace h := h.2
    refine w_ia (k := 22) (n := 16) (jn := ((((I 20) 6) * (nI 4)) + w4).toNatClampNeg) am_e38 rfl rfl (by decide) hf12 rfl ?_
    refine w_st (i' := 64) (ls' := [.ref 20, .ref 12, .int p2, .int p3, .int (((I 20) 6) * (nI 4)), .int w2, .int w4]) (st' := [.int (((I 22) (((((I 20) 6) * (nI 4)) + w2).toNatClampNeg)) + ((I 22) (((((I 20) 6) * (nI 4)) + w4).toNatClampNeg))), .int ((((I 20) 6) * (nI 4)) + w2), .ref 22]) (E' := E) (I' := I) (J' := J) (S' := S) am_e38 rfl rfl rfl rfl ?_
    refine w_is (k := 22) (n := 16) (jn := ((((I 20) 6) * (nI 4)) + w2).toNatClampNeg) am_e38 rfl rfl (by decide) hf11 rfl ?_
    show am_ww 38 65 [.ref 20, .ref 12, .int p2, .int p3, .int (((I 20) 6) * (nI 4)), .int w2, .int w4] [] E (u_I I 22 (upd (I 22) (((((I 20) 6) * (nI 4)) + w2).toNatClampNeg) (((I 22) (((((I 20) 6) * (nI 4)) + w2).toNatClampNeg)) + ((I 22) (((((I 20) 6) * (nI 4)) + w4).toNatClampNeg))))) J S _
    refine w_st (i' := 139) (ls' := [.ref 20, .ref 12, .int p2, .int p3, .int (((I 20) 6) * (nI 4)), .int w2, .int w4]) (st' := []) (E' := E) (I' := (u_I I 22 (upd (I 22) (((((I 20) 6) * (nI 4)) + w2).toNatClampNeg) (((I 22) (((((I 20) 6) * (nI 4)) + w2).toNatClampNeg)) + ((I 22) (((((I 20) 6) * (nI 4)) + w4).toNatClampNeg)))))) (J' := J) (S' := S) am_e38 rfl rfl rfl rfl ?_
    exact w_end am_e38 rfl rfl rfl h
  by_cases c10 : ((I 13) p2.toNatClampNeg) = nI 10
  · replace h := h.2.2.2.2.1 c10
    refine w_to (i2 := 66) (by rw [c10]; first | done | rfl) ?_
    refine w_st (i' := 67) (ls' := [.ref 20, .ref 12, .int p2, .int p3, .int (((I 20) 6) * (nI 4)), .int w2, .int w4]) (st' := [.ref 20]) (E' := E) (I' := I) (J' := J) (S' := S) am_e38 rfl rfl rfl rfl ?_
    refine w_st (i' := 68) (ls' := [.ref 20, .ref 12, .int p2, .int p3, .int (((I 20) 6) * (nI 4)), .int w2, .int w4]) (st' := [.ref 22]) (E' := E) (I' := I) (J' := J) (S' := S) am_e38 rfl rfl rfl rfl ?_
    refine w_st (i' := 69) (ls' := [.ref 20, .ref 12, .int p2, .int p3, .int (((I 20) 6) * (nI 4)), .int w2, .int w4]) (st' := [.int (((I 20) 6) * (nI 4)), .ref 22]) (E' := E) (I' := I) (J' := J) (S' := S) am_e38 rfl rfl rfl rfl ?_
    refine w_st (i' := 70) (ls' := [.ref 20, .ref 12, .int p2, .int p3, .int (((I 20) 6) * (nI 4)), .int w2, .int w4]) (st' := [.int w2, .int (((I 20) 6) * (nI 4)), .ref 22]) (E' := E) (I' := I) (J' := J) (S' := S) am_e38 rfl rfl rfl rfl ?_
    refine w_st (i' := 71) (ls' := [.ref 20, .ref 12, .int p2, .int p3, .int (((I 20) 6) * (nI 4)), .int w2, .int w4]) (st' := [.int ((((I 20) 6) * (nI 4)) + w2), .ref 22]) (E' := E) (I' := I) (J' := J) (S' := S) am_e38 rfl rfl rfl rfl ?_
    refine w_st (i' := 72) (ls' := [.ref 20, .ref 12, .int p2, .int p3, .int (((I 20) 6) * (nI 4)), .int w2, .int w4]) (st' := [.int ((((I 20) 6) * (nI 4)) + w2), .ref 22, .int ((((I 20) 6) * (nI 4)) + w2), .ref 22]) (E' := E) (I' := I) (J' := J) (S' := S) am_e38 rfl rfl rfl rfl ?_
    have hf13 := h.1
    replace h := h.2
    refine w_ia (k := 22) (n := 16) (jn := ((((I 20) 6) * (nI 4)) + w2).toNatClampNeg) am_e38 rfl rfl (by decide) hf13 rfl ?_
    refine w_st (i' := 74) (ls' := [.ref 20, .ref 12, .int p2, .int p3, .int (((I 20) 6) * (nI 4)), .int w2, .int w4]) (st' := [.ref 20, .int ((I 22) (((((I 20) 6) * (nI 4)) + w2).toNatClampNeg)), .int ((((I 20) 6) * (nI 4)) + w2), .ref 22]) (E' := E) (I' := I) (J' := J) (S' := S) am_e38 rfl rfl rfl rfl ?_
    refine w_st (i' := 75) (ls' := [.ref 20, .ref 12, .int p2, .int p3, .int (((I 20) 6) * (nI 4)), .int w2, .int w4]) (st' := [.ref 22, .int ((I 22) (((((I 20) 6) * (nI 4)) + w2).toNatClampNeg)), .int ((((I 20) 6) * (nI 4)) + w2), .ref 22]) (E' := E) (I' := I) (J' := J) (S' := S) am_e38 rfl rfl rfl rfl ?_
    refine w_st (i' := 76) (ls' := [.ref 20, .ref 12, .int p2, .int p3, .int (((I 20) 6) * (nI 4)), .int w2, .int w4]) (st' := [.int (((I 20) 6) * (nI 4)), .ref 22, .int ((I 22) (((((I 20) 6) * (nI 4)) + w2).toNatClampNeg)), .int ((((I 20) 6) * (nI 4)) + w2), .ref 22]) (E' := E) (I' := I) (J' := J) (S' := S) am_e38 rfl rfl rfl rfl ?_
    refine w_st (i' := 77) (ls' := [.ref 20, .ref 12, .int p2, .int p3, .int (((I 20) 6) * (nI 4)), .int w2, .int w4]) (st' := [.int w4, .int (((I 20) 6) * (nI 4)), .ref 22, .int ((I 22) (((((I 20) 6) * (nI 4)) + w2).toNatClampNeg)), .int ((((I 20) 6) * (nI 4)) + w2), .ref 22]) (E' := E) (I' := I) (J' := J) (S' := S) am_e38 rfl rfl rfl rfl ?_
    refine w_st (i' := 78) (ls' := [.ref 20, .ref 12, .int p2, .int p3, .int (((I 20) 6) * (nI 4)), .int w2, .int w4]) (st' := [.int ((((I 20) 6) * (nI 4)) + w4), .ref 22, .int ((I 22) (((((I 20) 6) * (nI 4)) + w2).toNatClampNeg)), .int ((((I 20) 6) * (nI 4)) + w2), .ref 22]) (E' := E) (I' := I) (J' := J) (S' := S) am_e38 rfl rfl rfl rfl ?_
    have hf14 := h.1
    replace h := h.2
    refine w_ia (k := 22) (n := 16) (jn := ((((I 20) 6) * (nI 4)) + w4).toNatClampNeg) am_e38 rfl rfl (by decide) hf14 rfl ?_
    refine w_st (i' := 80) (ls' := [.ref 20, .ref 12, .int p2, .int p3, .int (((I 20) 6) * (nI 4)), .int w2, .int w4]) (st' := [.int (((I 22) (((((I 20) 6) * (nI 4)) + w2).toNatClampNeg)) - ((I 22) (((((I 20) 6) * (nI 4)) + w4).toNatClampNeg))), .int ((((I 20) 6) * (nI 4)) + w2), .ref 22]) (E' := E) (I' := I) (J' := J) (S' := S) am_e38 rfl rfl rfl rfl ?_
    refine w_is (k := 22) (n := 16) (jn := ((((I 20) 6) * (nI 4)) + w2).toNatClampNeg) am_e38 rfl rfl (by decide) hf13 rfl ?_
    show am_ww 38 81 [.ref 20, .ref 12, .int p2, .int p3, .int (((I 20) 6) * (nI 4)), .int w2, .int w4] [] E (u_I I 22 (upd (I 22) (((((I 20) 6) * (nI 4)) + w2).toNatClampNeg) (((I 22) (((((I 20) 6) * (nI 4)) + w2).toNatClampNeg)) - ((I 22) (((((I 20) 6) * (nI 4)) + w4).toNatClampNeg))))) J S _
    refine w_st (i' := 139) (ls' := [.ref 20, .ref 12, .int p2, .int p3, .int (((I 20) 6) * (nI 4)), .int w2, .int w4]) (st' := []) (E' := E) (I' := (u_I I 22 (upd (I 22) (((((I 20) 6) * (nI 4)) + w2).toNatClampNeg) (((I 22) (((((I 20) 6) * (nI 4)) + w2).toNatClampNeg)) - ((I 22) (((((I 20) 6) * (nI 4)) + w4).toNatClampNeg)))))) (J' := J) (S' := S) am_e38 rfl rfl rfl rfl ?_
    exact w_end am_e38 rfl rfl rfl h
  by_cases c11 : ((I 13) p2.toNatClampNeg) = nI 11
  · replace h := h.2.2.2.2.2.1 c11
    refine w_to (i2 := 82) (by rw [c11]; first | done | rfl) ?_
    refine w_st (i' := 83) (ls' := [.ref 20, .ref 12, .int p2, .int p3, .int (((I 20) 6) * (nI 4)), .int w2, .int w4]) (st' := [.ref 20]) (E' := E) (I' := I) (J' := J) (S' := S) am_e38 rfl rfl rfl rfl ?_
    refine w_st (i' := 84) (ls' := [.ref 20, .ref 12, .int p2, .int p3, .int (((I 20) 6) * (nI 4)), .int w2, .int w4]) (st' := [.ref 22]) (E' := E) (I' := I) (J' := J) (S' := S) am_e38 rfl rfl rfl rfl ?_
    refine w_st (i' := 85) (ls' := [.ref 20, .ref 12, .int p2, .int p3, .int (((I 20) 6) * (nI 4)), .int w2, .int w4]) (st' := [.int (((I 20) 6) * (nI 4)), .ref 22]) (E' := E) (I' := I) (J' := J) (S' := S) am_e38 rfl rfl rfl rfl ?_
    refine w_st (i' := 86) (ls' := [.ref 20, .ref 12, .int p2, .int p3, .int (((I 20) 6) * (nI 4)), .int w2, .int w4]) (st' := [.int w2, .int (((I 20) 6) * (nI 4)), .ref 22]) (E' := E) (I' := I) (J' := J) (S' := S) am_e38 rfl rfl rfl rfl ?_
    refine w_st (i' := 87) (ls' := [.ref 20, .ref 12, .int p2, .int p3, .int (((I 20) 6) * (nI 4)), .int w2, .int w4]) (st' := [.int ((((I 20) 6) * (nI 4)) + w2), .ref 22]) (E' := E) (I' := I) (J' := J) (S' := S) am_e38 rfl rfl rfl rfl ?_
    refine w_st (i' := 88) (ls' := [.ref 20, .ref 12, .int p2, .int p3, .int (((I 20) 6) * (nI 4)), .int w2, .int w4]) (st' := [.int ((((I 20) 6) * (nI 4)) + w2), .ref 22, .int ((((I 20) 6) * (nI 4)) + w2), .ref 22]) (E' := E) (I' := I) (J' := J) (S' := S) am_e38 rfl rfl rfl rfl ?_
    have hf15 := h.1
    replace h := h.2
    refine w_ia (k := 22) (n := 16) (jn := ((((I 20) 6) * (nI 4)) + w2).toNatClampNeg) am_e38 rfl rfl (by decide) hf15 rfl ?_
    refine w_st (i' := 90) (ls' := [.ref 20, .ref 12, .int p2, .int p3, .int (((I 20) 6) * (nI 4)), .int w2, .int w4]) (st' := [.ref 20, .int ((I 22) (((((I 20) 6) * (nI 4)) + w2).toNatClampNeg)), .int ((((I 20) 6) * (nI 4)) + w2), .ref 22]) (E' := E) (I' := I) (J' := J) (S' := S) am_e38 rfl rfl rfl rfl ?_
    refine w_st (i' := 91) (ls' := [.ref 20, .ref 12, .int p2, .int p3, .int (((I 20) 6) * (nI 4)), .int w2, .int w4]) (st' := [.ref 22, .int ((I 22) (((((I 20) 6) * (nI 4)) + w2).toNatClampNeg)), .int ((((I 20) 6) * (nI 4)) + w2), .ref 22]) (E' := E) (I' := I) (J' := J) (S' := S) am_e38 rfl rfl rfl rfl ?_
    refine w_st (i' := 92) (ls' := [.ref 20, .ref 12, .int p2, .int p3, .int (((I 20) 6) * (nI 4)), .int w2, .int w4]) (st' := [.int (((I 20) 6) * (nI 4)), .ref 22, .int ((I 22) (((((I 20) 6) * (nI 4)) + w2).toNatClampNeg)), .int ((((I 20) 6) * (nI 4)) + w2), .ref 22]) (E' := E) (I' := I) (J' := J) (S' := S) am_e38 rfl rfl rfl rfl ?_
    refine w_st (i' := 93) (ls' := [.ref 20, .ref 12, .int p2, .int p3, .int (((I 20) 6) * (nI 4)), .int w2, .int w4]) (st' := [.int w4, .int (((I 20) 6) * (nI 4)), .ref 22, .int ((I 22) (((((I 20) 6) * (nI 4)) + w2).toNatClampNeg)), .int ((((I 20) 6) * (nI 4)) + w2), .ref 22]) (E' := E) (I' := I) (J' := J) (S' := S) am_e38 rfl rfl rfl rfl ?_
    refine w_st (i' := 94) (ls' := [.ref 20, .ref 12, .int p2, .int p3, .int (((I 20) 6) * (nI 4)), .int w2, .int w4]) (st' := [.int ((((I 20) 6) * (nI 4)) + w4), .ref 22, .int ((I 22) (((((I 20) 6) * (nI 4)) + w2).toNatClampNeg)), .int ((((I 20) 6) * (nI 4)) + w2), .ref 22]) (E' := E) (I' := I) (J' := J) (S' := S) am_e38 rfl rfl rfl rfl ?_
    have hf16 := h.1
    replace h := h.2
    refine w_ia (k := 22) (n := 16) (jn := ((((I 20) 6) * (nI 4)) + w4).toNatClampNeg) am_e38 rfl rfl (by decide) hf16 rfl ?_
    refine w_st (i' := 96) (ls' := [.ref 20, .ref 12, .int p2, .int p3, .int (((I 20) 6) * (nI 4)), .int w2, .int w4]) (st' := [.int (((I 22) (((((I 20) 6) * (nI 4)) + w2).toNatClampNeg)) * ((I 22) (((((I 20) 6) * (nI 4)) + w4).toNatClampNeg))), .int ((((I 20) 6) * (nI 4)) + w2), .ref 22]) (E' := E) (I' := I) (J' := J) (S' := S) am_e38 rfl rfl rfl rfl ?_
    refine w_is (k := 22) (n := 16) (jn := ((((I 20) 6) * (nI 4)) + w2).toNatClampNeg) am_e38 rfl rfl (by decide) hf15 rfl ?_
    show am_ww 38 97 [.ref 20, .ref 12, .int p2, .int p3, .int (((I 20) 6) * (nI 4)), .int w2, .int w4] [] E (u_I I 22 (upd (I 22) (((((I 20) 6) * (nI 4)) + w2).toNatClampNeg) (((I 22) (((((I 20) 6) * (nI 4)) + w2).toNatClampNeg)) * ((I 22) (((((I 20) 6) * (nI 4)) + w4).toNatClampNeg))))) J S _
    refine w_st (i' := 139) (ls' := [.ref 20, .ref 12, .int p2, .int p3, .int (((I 20) 6) * (nI 4)), .int w2, .int w4]) (st' := []) (E' := E) (I' := (u_I I 22 (upd (I 22) (((((I 20) 6) * (nI 4)) + w2).toNatClampNeg) (((I 22) (((((I 20) 6) * (nI 4)) + w2).toNatClampNeg)) * ((I 22) (((((I 20) 6) * (nI 4)) + w4).toNatClampNeg)))))) (J' := J) (S' := S) am_e38 rfl rfl rfl rfl ?_
    exact w_end am_e38 rfl rfl rfl h
  by_cases c12 : ((I 13) p2.toNatClampNeg) = nI 12
  · replace h := h.2.2.2.2.2.2.1 c12
    refine w_to (i2 := 98) (by rw [c12]; first | done | rfl) ?_
    refine w_st (i' := 99) (ls' := [.ref 20, .ref 12, .int p2, .int p3, .int (((I 20) 6) * (nI 4)), .int w2, .int w4]) (st' := [.ref 20]) (E' := E) (I' := I) (J' := J) (S' := S) am_e38 rfl rfl rfl rfl ?_
    refine w_st (i' := 100) (ls' := [.ref 20, .ref 12, .int p2, .int p3, .int (((I 20) 6) * (nI 4)), .int w2, .int w4]) (st' := [.ref 22]) (E' := E) (I' := I) (J' := J) (S' := S) am_e38 rfl rfl rfl rfl ?_
    refine w_st (i' := 101) (ls' := [.ref 20, .ref 12, .int p2, .int p3, .int (((I 20) 6) * (nI 4)), .int w2, .int w4]) (st' := [.int (((I 20) 6) * (nI 4)), .ref 22]) (E' := E) (I' := I) (J' := J) (S' := S) am_e38 rfl rfl rfl rfl ?_
    refine w_st (i' := 102) (ls' := [.ref 20, .ref 12, .int p2, .int p3, .int (((I 20) 6) * (nI 4)), .int w2, .int w4]) (st' := [.int w2, .int (((I 20) 6) * (nI 4)), .ref 22]) (E' := E) (I' := I) (J' := J) (S' := S) am_e38 rfl rfl rfl rfl ?_
    refine w_st (i' := 103) (ls' := [.ref 20, .ref 12, .int p2, .int p3, .int (((I 20) 6) * (nI 4)), .int w2, .int w4]) (st' := [.int ((((I 20) 6) * (nI 4)) + w2), .ref 22]) (E' := E) (I' := I) (J' := J) (S' := S) am_e38 rfl rfl rfl rfl ?_
    refine w_st (i' := 104) (ls' := [.ref 20, .ref 12, .int p2, .int p3, .int (((I 20) 6) * (nI 4)), .int w2, .int w4]) (st' := [.int p3, .int ((((I 20) 6) * (nI 4)) + w2), .ref 22]) (E' := E) (I' := I) (J' := J) (S' := S) am_e38 rfl rfl rfl rfl ?_
    have hf17 := h.1
    replace h := h.2
    refine w_is (k := 22) (n := 16) (jn := ((((I 20) 6) * (nI 4)) + w2).toNatClampNeg) am_e38 rfl rfl (by decide) hf17 rfl ?_
    show am_ww 38 105 [.ref 20, .ref 12, .int p2, .int p3, .int (((I 20) 6) * (nI 4)), .int w2, .int w4] [] E (u_I I 22 (upd (I 22) (((((I 20) 6) * (nI 4)) + w2).toNatClampNeg) p3)) J S _
    refine w_st (i' := 106) (ls' := [.ref 20, .ref 12, .int p2, .int p3, .int (((I 20) 6) * (nI 4)), .int w2, .int w4]) (st' := [.ref 20]) (E' := E) (I' := (u_I I 22 (upd (I 22) (((((I 20) 6) * (nI 4)) + w2).toNatClampNeg) p3))) (J' := J) (S' := S) am_e38 rfl rfl rfl rfl ?_
    refine w_st (i' := 107) (ls' := [.ref 20, .ref 12, .int p2, .int p3, .int (((I 20) 6) * (nI 4)), .int w2, .int w4]) (st' := [.ref 26]) (E' := E) (I' := (u_I I 22 (upd (I 22) (((((I 20) 6) * (nI 4)) + w2).toNatClampNeg) p3))) (J' := J) (S' := S) am_e38 rfl rfl rfl rfl ?_
    refine w_st (i' := 108) (ls' := [.ref 20, .ref 12, .int p2, .int p3, .int (((I 20) 6) * (nI 4)), .int w2, .int w4]) (st' := [.int w4, .ref 26]) (E' := E) (I' := (u_I I 22 (upd (I 22) (((((I 20) 6) * (nI 4)) + w2).toNatClampNeg) p3))) (J' := J) (S' := S) am_e38 rfl rfl rfl rfl ?_
    refine w_st (i' := 109) (ls' := [.ref 20, .ref 12, .int p2, .int p3, .int (((I 20) 6) * (nI 4)), .int w2, .int w4]) (st' := [.int w4, .ref 26, .int w4, .ref 26]) (E' := E) (I' := (u_I I 22 (upd (I 22) (((((I 20) 6) * (nI 4)) + w2).toNatClampNeg) p3))) (J' := J) (S' := S) am_e38 rfl rfl rfl rfl ?_
    have hf18 := h.1
    replace h := h.2
    refine w_ia (k := 26) (n := 3) (jn := w4.toNatClampNeg) am_e38 rfl rfl (by decide) hf18 rfl ?_
    show am_ww 38 110 [.ref 20, .ref 12, .int p2, .int p3, .int (((I 20) 6) * (nI 4)), .int w2, .int w4] [.int ((I 26) w4.toNatClampNeg), .int w4, .ref 26] E (u_I I 22 (upd (I 22) (((((I 20) 6) * (nI 4)) + w2).toNatClampNeg) p3)) J S _
    refine w_st (i' := 111) (ls' := [.ref 20, .ref 12, .int p2, .int p3, .int (((I 20) 6) * (nI 4)), .int w2, .int w4]) (st' := [.int (nI 1), .int ((I 26) w4.toNatClampNeg), .int w4, .ref 26]) (E' := E) (I' := (u_I I 22 (upd (I 22) (((((I 20) 6) * (nI 4)) + w2).toNatClampNeg) p3))) (J' := J) (S' := S) am_e38 rfl rfl rfl rfl ?_
    refine w_st (i' := 112) (ls' := [.ref 20, .ref 12, .int p2, .int p3, .int (((I 20) 6) * (nI 4)), .int w2, .int w4]) (st' := [.int (((I 26) w4.toNatClampNeg) + (nI 1)), .int w4, .ref 26]) (E' := E) (I' := (u_I I 22 (upd (I 22) (((((I 20) 6) * (nI 4)) + w2).toNatClampNeg) p3))) (J' := J) (S' := S) am_e38 rfl rfl rfl rfl ?_
    refine w_is (k := 26) (n := 3) (jn := w4.toNatClampNeg) am_e38 rfl rfl (by decide) hf18 rfl ?_
    show am_ww 38 113 [.ref 20, .ref 12, .int p2, .int p3, .int (((I 20) 6) * (nI 4)), .int w2, .int w4] [] E (u_I (u_I I 22 (upd (I 22) (((((I 20) 6) * (nI 4)) + w2).toNatClampNeg) p3)) 26 (upd (I 26) w4.toNatClampNeg (((I 26) w4.toNatClampNeg) + (nI 1)))) J S _
    refine w_st (i' := 139) (ls' := [.ref 20, .ref 12, .int p2, .int p3, .int (((I 20) 6) * (nI 4)), .int w2, .int w4]) (st' := []) (E' := E) (I' := (u_I (u_I I 22 (upd (I 22) (((((I 20) 6) * (nI 4)) + w2).toNatClampNeg) p3)) 26 (upd (I 26) w4.toNatClampNeg (((I 26) w4.toNatClampNeg) + (nI 1))))) (J' := J) (S' := S) am_e38 rfl rfl rfl rfl ?_
    exact w_end am_e38 rfl rfl rfl h
  by_cases c13 : ((I 13) p2.toNatClampNeg) = nI 13
  · replace h := h.2.2.2.2.2.2.2.1 c13
    refine w_to (i2 := 114) (by rw [c13]; first | done | rfl) ?_
    refine w_st (i' := 115) (ls' := [.ref 20, .ref 12, .int p2, .int p3, .int (((I 20) 6) * (nI 4)), .int w2, .int w4]) (st' := [.ref 20]) (E' := E) (I' := I) (J' := J) (S' := S) am_e38 rfl rfl rfl rfl ?_
    refine w_st (i' := 116) (ls' := [.ref 20, .ref 12, .int p2, .int p3, .int (((I 20) 6) * (nI 4)), .int w2, .int w4]) (st' := [.ref 25]) (E' := E) (I' := I) (J' := J) (S' := S) am_e38 rfl rfl rfl rfl ?_
    refine w_st (i' := 117) (ls' := [.ref 20, .ref 12, .int p2, .int p3, .int (((I 20) 6) * (nI 4)), .int w2, .int w4]) (st' := [.int w2, .ref 25]) (E' := E) (I' := I) (J' := J) (S' := S) am_e38 rfl rfl rfl rfl ?_
    refine w_st (i' := 118) (ls' := [.ref 20, .ref 12, .int p2, .int p3, .int (((I 20) 6) * (nI 4)), .int w2, .int w4]) (st' := [.ref 20, .int w2, .ref 25]) (E' := E) (I' := I) (J' := J) (S' := S) am_e38 rfl rfl rfl rfl ?_
    refine w_st (i' := 119) (ls' := [.ref 20, .ref 12, .int p2, .int p3, .int (((I 20) 6) * (nI 4)), .int w2, .int w4]) (st' := [.int ((I 20) 6), .int w2, .ref 25]) (E' := E) (I' := I) (J' := J) (S' := S) am_e38 rfl rfl rfl rfl ?_
    have hf19 := h.1
    replace h := h.2
    refine w_is (k := 25) (n := 4) (jn := w2.toNatClampNeg) am_e38 rfl rfl (by decide) hf19 rfl ?_
    show am_ww 38 120 [.ref 20, .ref 12, .int p2, .int p3, .int (((I 20) 6) * (nI 4)), .int w2, .int w4] [] E (u_I I 25 (upd (I 25) w2.toNatClampNeg ((I 20) 6))) J S _
    refine w_st (i' := 139) (ls' := [.ref 20, .ref 12, .int p2, .int p3, .int (((I 20) 6) * (nI 4)), .int w2, .int w4]) (st' := []) (E' := E) (I' := (u_I I 25 (upd (I 25) w2.toNatClampNeg ((I 20) 6)))) (J' := J) (S' := S) am_e38 rfl rfl rfl rfl ?_
    exact w_end am_e38 rfl rfl rfl h
  by_cases c14 : ((I 13) p2.toNatClampNeg) = nI 14
  · replace h := h.2.2.2.2.2.2.2.2.1 c14
    refine w_to (i2 := 121) (by rw [c14]; first | done | rfl) ?_
    refine w_st (i' := 122) (ls' := [.ref 20, .ref 12, .int p2, .int p3, .int (((I 20) 6) * (nI 4)), .int w2, .int w4]) (st' := [.ref 20]) (E' := E) (I' := I) (J' := J) (S' := S) am_e38 rfl rfl rfl rfl ?_
    refine w_st (i' := 123) (ls' := [.ref 20, .ref 12, .int p2, .int p3, .int (((I 20) 6) * (nI 4)), .int w2, .int w4]) (st' := [.ref 25]) (E' := E) (I' := I) (J' := J) (S' := S) am_e38 rfl rfl rfl rfl ?_
    refine w_st (i' := 124) (ls' := [.ref 20, .ref 12, .int p2, .int p3, .int (((I 20) 6) * (nI 4)), .int w2, .int w4]) (st' := [.int w2, .ref 25]) (E' := E) (I' := I) (J' := J) (S' := S) am_e38 rfl rfl rfl rfl ?_
    refine w_st (i' := 125) (ls' := [.ref 20, .ref 12, .int p2, .int p3, .int (((I 20) 6) * (nI 4)), .int w2, .int w4]) (st' := [.ref 20, .int w2, .ref 25]) (E' := E) (I' := I) (J' := J) (S' := S) am_e38 rfl rfl rfl rfl ?_
    refine w_st (i' := 126) (ls' := [.ref 20, .ref 12, .int p2, .int p3, .int (((I 20) 6) * (nI 4)), .int w2, .int w4]) (st' := [.ref 25, .int w2, .ref 25]) (E' := E) (I' := I) (J' := J) (S' := S) am_e38 rfl rfl rfl rfl ?_
    refine w_st (i' := 127) (ls' := [.ref 20, .ref 12, .int p2, .int p3, .int (((I 20) 6) * (nI 4)), .int w2, .int w4]) (st' := [.int w2, .ref 25, .int w2, .ref 25]) (E' := E) (I' := I) (J' := J) (S' := S) am_e38 rfl rfl rfl rfl ?_
    have hf20 := h.1
    replace h := h.2
    refine w_ia (k := 25) (n := 4) (jn := w2.toNatClampNeg) am_e38 rfl rfl (by decide) hf20 rfl ?_
    refine w_st (i' := 129) (ls' := [.ref 20, .ref 12, .int p2, .int p3, .int (((I 20) 6) * (nI 4)), .int w2, .int w4]) (st' := [.ref 20, .int ((I 25) w2.toNatClampNeg), .int w2, .ref 25]) (E' := E) (I' := I) (J' := J) (S' := S) am_e38 rfl rfl rfl rfl ?_
    refine w_st (i' := 130) (ls' := [.ref 20, .ref 12, .int p2, .int p3, .int (((I 20) 6) * (nI 4)), .int w2, .int w4]) (st' := [.int ((I 20) 6), .int ((I 25) w2.toNatClampNeg), .int w2, .ref 25]) (E' := E) (I' := I) (J' := J) (S' := S) am_e38 rfl rfl rfl rfl ?_
    refine w_mg (i := 137) (ls' := [.ref 20, .ref 12, .int p2, .int p3, .int (((I 20) 6) * (nI 4)), .int w2, .int w4]) (st' := [.int (if ((I 25) w2.toNatClampNeg) = ((I 20) 6) then (-1) else ((I 25) w2.toNatClampNeg)), .int w2, .ref 25]) (fun hm => ?_) ?_
    · clear h
      refine w_if2 am_e38 rfl rfl (fun c => ?_) (fun c => ?_)
      · have m21 : ¬ (((I 25) w2.toNatClampNeg) = ((I 20) 6)) := (of_decide_eq_true c)
        refine w_st (i' := 134) (ls' := [.ref 20, .ref 12, .int p2, .int p3, .int (((I 20) 6) * (nI 4)), .int w2, .int w4]) (st' := [.ref 20, .int w2, .ref 25]) (E' := E) (I' := I) (J' := J) (S' := S) am_e38 rfl rfl rfl rfl ?_
        refine w_st (i' := 135) (ls' := [.ref 20, .ref 12, .int p2, .int p3, .int (((I 20) 6) * (nI 4)), .int w2, .int w4]) (st' := [.ref 25, .int w2, .ref 25]) (E' := E) (I' := I) (J' := J) (S' := S) am_e38 rfl rfl rfl rfl ?_
        refine w_st (i' := 136) (ls' := [.ref 20, .ref 12, .int p2, .int p3, .int (((I 20) 6) * (nI 4)), .int w2, .int w4]) (st' := [.int w2, .ref 25, .int w2, .ref 25]) (E' := E) (I' := I) (J' := J) (S' := S) am_e38 rfl rfl rfl rfl ?_
        refine w_ia (k := 25) (n := 4) (jn := w2.toNatClampNeg) am_e38 rfl rfl (by decide) hf20 rfl ?_
        show am_ww 38 137 [.ref 20, .ref 12, .int p2, .int p3, .int (((I 20) 6) * (nI 4)), .int w2, .int w4] [.int ((I 25) w2.toNatClampNeg), .int w2, .ref 25] E I J S _
        first | exact hm | (simp only [if_neg m21] at hm; exact hm)
      · have m21 : ((I 25) w2.toNatClampNeg) = ((I 20) 6) := (Decidable.not_not.mp (of_decide_eq_false c))
        refine w_st (i' := 132) (ls' := [.ref 20, .ref 12, .int p2, .int p3, .int (((I 20) 6) * (nI 4)), .int w2, .int w4]) (st' := [.int (-1), .int w2, .ref 25]) (E' := E) (I' := I) (J' := J) (S' := S) am_e38 rfl rfl rfl rfl ?_
        refine w_st (i' := 137) (ls' := [.ref 20, .ref 12, .int p2, .int p3, .int (((I 20) 6) * (nI 4)), .int w2, .int w4]) (st' := [.int (-1), .int w2, .ref 25]) (E' := E) (I' := I) (J' := J) (S' := S) am_e38 rfl rfl rfl rfl ?_
        first | exact hm | (simp only [if_pos m21] at hm; exact hm)
    refine w_var (fun w22 => am_ww 38 137 [.ref 20, .ref 12, .int p2, .int p3, .int (((I 20) 6) * (nI 4)), .int w2, .int w4] [.int w22, .int w2, .ref 25] E I J S _) (if ((I 25) w2.toNatClampNeg) = ((I 20) 6) then (-1) else ((I 25) w2.toNatClampNeg)) (fun w22 hw22 => ?_)
    replace h := h w22 hw22
    refine w_is (k := 25) (n := 4) (jn := w2.toNatClampNeg) am_e38 rfl rfl (by decide) hf20 rfl ?_
    show am_ww 38 138 [.ref 20, .ref 12, .int p2, .int p3, .int (((I 20) 6) * (nI 4)), .int w2, .int w4] [] E (u_I I 25 (upd (I 25) w2.toNatClampNeg w22)) J S _
    refine w_st (i' := 139) (ls' := [.ref 20, .ref 12, .int p2, .int p3, .int (((I 20) 6) * (nI 4)), .int w2, .int w4]) (st' := []) (E' := E) (I' := (u_I I 25 (upd (I 25) w2.toNatClampNeg w22))) (J' := J) (S' := S) am_e38 rfl rfl rfl rfl ?_
    exact w_end am_e38 rfl rfl rfl h
  replace h := h.2.2.2.2.2.2.2.2.2 c6 c7 c8 c9 c10 c11 c12 c13 c14
  refine w_to (i2 := 139) (am_tb_out (lo := 6) (up := 14) (by intro q h1 h2; have : q = 6 ∨ q = 7 ∨ q = 8 ∨ q = 9 ∨ q = 10 ∨ q = 11 ∨ q = 12 ∨ q = 13 ∨ q = 14 := (by omega); rcases this with rfl | rfl | rfl | rfl | rfl | rfl | rfl | rfl | rfl <;> assumption)) ?_
  exact w_end am_e38 rfl rfl rfl h
-- 16 begin
theorem g16_0_61  {E : am_Ev} {I : Nat → Nat → Int32} {J : Nat → Nat → Int64} {S : Nat → Nat → Option Nat} {Q : am_Qt}  (h : am_cl 13 [.ref 63, .int (nI 0)] E (u_I I 62 (va_cpy (I 16) (I 62) 0 0 16)) J S (q_V fun E1 I1 J1 S1 => am_cl 13 [.ref 64, .int (nI 0)] E1 I1 J1 S1 (q_V fun E2 I2 J2 S2 => am_cl 13 [.ref 65, .int (nI 0)] E2 I2 J2 S2 (q_V fun E3 I3 J3 S3 => am_cl 13 [.ref 66, .int (-1)] E3 I3 J3 S3 (q_V fun E4 I4 J4 S4 => am_cl 13 [.ref 67, .int (nI 0)] E4 I4 J4 S4 (q_V fun E5 I5 J5 S5 => Q (.inl none) E5 (u_I I5 61 (upd (I5 61) 6 (-1))) J5 S5)))))) : am_ww 16 0 [.ref 61, .ref 12] [] E I J S Q := by
  refine w_st (i' := 1) (ls' := [.ref 61, .ref 12]) (st' := [.ref 12]) (E' := E) (I' := I) (J' := J) (S' := S) am_e16 rfl rfl rfl rfl ?_
  refine w_st (i' := 2) (ls' := [.ref 61, .ref 12]) (st' := [.ref 16]) (E' := E) (I' := I) (J' := J) (S' := S) am_e16 rfl rfl rfl rfl ?_
  refine w_st (i' := 3) (ls' := [.ref 61, .ref 12]) (st' := [.int (nI 0), .ref 16]) (E' := E) (I' := I) (J' := J) (S' := S) am_e16 rfl rfl rfl rfl ?_
  refine w_st (i' := 4) (ls' := [.ref 61, .ref 12]) (st' := [.ref 61, .int (nI 0), .ref 16]) (E' := E) (I' := I) (J' := J) (S' := S) am_e16 rfl rfl rfl rfl ?_
  refine w_st (i' := 5) (ls' := [.ref 61, .ref 12]) (st' := [.ref 62, .int (nI 0), .ref 16]) (E' := E) (I' := I) (J' := J) (S' := S) am_e16 rfl rfl rfl rfl ?_
  refine w_st (i' := 6) (ls' := [.ref 61, .ref 12]) (st' := [.int (nI 0), .ref 62, .int (nI 0), .ref 16]) (E' := E) (I' := I) (J' := J) (S' := S) am_e16 rfl rfl rfl rfl ?_
  refine w_st (i' := 7) (ls' := [.ref 61, .ref 12]) (st' := [.int (nI 16), .int (nI 0), .ref 62, .int (nI 0), .ref 16]) (E' := E) (I' := I) (J' := J) (S' := S) am_e16 rfl rfl rfl rfl ?_
  refine w_cp (k := 16) (a := 62) (nk := 16) (na := 16) am_e16 rfl (by decide) (by decide) rfl rfl (by decide) (by unfold am_cpOk; decide) ?_
  show am_ww 16 8 [.ref 61, .ref 12] [] E (u_I I 62 (va_cpy (I 16) (I 62) 0 0 16)) J S _
  refine w_st (i' := 9) (ls' := [.ref 61, .ref 12]) (st' := [.ref 61]) (E' := E) (I' := (u_I I 62 (va_cpy (I 16) (I 62) 0 0 16))) (J' := J) (S' := S) am_e16 rfl rfl rfl rfl ?_
  refine w_st (i' := 10) (ls' := [.ref 61, .ref 12]) (st' := [.ref 63]) (E' := E) (I' := (u_I I 62 (va_cpy (I 16) (I 62) 0 0 16))) (J' := J) (S' := S) am_e16 rfl rfl rfl rfl ?_
  refine w_st (i' := 11) (ls' := [.ref 61, .ref 12]) (st' := [.int (nI 0), .ref 63]) (E' := E) (I' := (u_I I 62 (va_cpy (I 16) (I 62) 0 0 16))) (J' := J) (S' := S) am_e16 rfl rfl rfl rfl ?_
  refine w_cV am_e16 rfl rfl (as := [.ref 63, .int (nI 0)]) (rest := []) rfl rfl (am_ww.mono h ?_)
  rintro _ E1 I1 J1 S1 ⟨rfl, h⟩
  refine q_mkV ?_
  refine w_st (i' := 13) (ls' := [.ref 61, .ref 12]) (st' := [.ref 61]) (E' := E1) (I' := I1) (J' := J1) (S' := S1) am_e16 rfl rfl rfl rfl ?_
  refine w_st (i' := 14) (ls' := [.ref 61, .ref 12]) (st' := [.ref 64]) (E' := E1) (I' := I1) (J' := J1) (S' := S1) am_e16 rfl rfl rfl rfl ?_
  refine w_st (i' := 15) (ls' := [.ref 61, .ref 12]) (st' := [.int (nI 0), .ref 64]) (E' := E1) (I' := I1) (J' := J1) (S' := S1) am_e16 rfl rfl rfl rfl ?_
  refine w_cV am_e16 rfl rfl (as := [.ref 64, .int (nI 0)]) (rest := []) rfl rfl (am_ww.mono h ?_)
  rintro _ E2 I2 J2 S2 ⟨rfl, h⟩
  refine q_mkV ?_
  refine w_st (i' := 17) (ls' := [.ref 61, .ref 12]) (st' := [.ref 61]) (E' := E2) (I' := I2) (J' := J2) (S' := S2) am_e16 rfl rfl rfl rfl ?_
  refine w_st (i' := 18) (ls' := [.ref 61, .ref 12]) (st' := [.ref 65]) (E' := E2) (I' := I2) (J' := J2) (S' := S2) am_e16 rfl rfl rfl rfl ?_
  refine w_st (i' := 19) (ls' := [.ref 61, .ref 12]) (st' := [.int (nI 0), .ref 65]) (E' := E2) (I' := I2) (J' := J2) (S' := S2) am_e16 rfl rfl rfl rfl ?_
  refine w_cV am_e16 rfl rfl (as := [.ref 65, .int (nI 0)]) (rest := []) rfl rfl (am_ww.mono h ?_)
  rintro _ E3 I3 J3 S3 ⟨rfl, h⟩
  refine q_mkV ?_
  refine w_st (i' := 21) (ls' := [.ref 61, .ref 12]) (st' := [.ref 61]) (E' := E3) (I' := I3) (J' := J3) (S' := S3) am_e16 rfl rfl rfl rfl ?_
  refine w_st (i' := 22) (ls' := [.ref 61, .ref 12]) (st' := [.ref 66]) (E' := E3) (I' := I3) (J' := J3) (S' := S3) am_e16 rfl rfl rfl rfl ?_
  refine w_st (i' := 23) (ls' := [.ref 61, .ref 12]) (st' := [.int (-1), .ref 66]) (E' := E3) (I' := I3) (J' := J3) (S' := S3) am_e16 rfl rfl rfl rfl ?_
  refine w_cV am_e16 rfl rfl (as := [.ref 66, .int (-1)]) (rest := []) rfl rfl (am_ww.mono h ?_)
  rintro _ E4 I4 J4 S4 ⟨rfl, h⟩
  refine q_mkV ?_
  refine w_st (i' := 25) (ls' := [.ref 61, .ref 12]) (st' := [.ref 61]) (E' := E4) (I' := I4) (J' := J4) (S' := S4) am_e16 rfl rfl rfl rfl ?_
  refine w_st (i' := 26) (ls' := [.ref 61, .ref 12]) (st' := [.ref 67]) (E' := E4) (I' := I4) (J' := J4) (S' := S4) am_e16 rfl rfl rfl rfl ?_
  refine w_st (i' := 27) (ls' := [.ref 61, .ref 12]) (st' := [.int (nI 0), .ref 67]) (E' := E4) (I' := I4) (J' := J4) (S' := S4) am_e16 rfl rfl rfl rfl ?_
  refine w_cV am_e16 rfl rfl (as := [.ref 67, .int (nI 0)]) (rest := []) rfl rfl (am_ww.mono h ?_)
  rintro _ E5 I5 J5 S5 ⟨rfl, h⟩
  refine q_mkV ?_
  refine w_st (i' := 29) (ls' := [.ref 61, .ref 12]) (st' := [.ref 61]) (E' := E5) (I' := I5) (J' := J5) (S' := S5) am_e16 rfl rfl rfl rfl ?_
  refine w_st (i' := 30) (ls' := [.ref 61, .ref 12]) (st' := [.int (-1), .ref 61]) (E' := E5) (I' := I5) (J' := J5) (S' := S5) am_e16 rfl rfl rfl rfl ?_
  refine w_st (i' := 31) (ls' := [.ref 61, .ref 12]) (st' := []) (E' := E5) (I' := (u_I I5 61 (upd (I5 61) 6 (-1)))) (J' := J5) (S' := S5) am_e16 rfl rfl rfl rfl ?_
  exact w_end am_e16 rfl rfl rfl h
-- 24 nextRow
theorem g24_0_61 {p2 : Int32} {E : am_Ev} {I : Nat → Nat → Int32} {J : Nat → Nat → Int64} {S : Nat → Nat → Option Nat} {Q : am_Qt}  (h : (p2 < 0 → (Q (.inl (some (.int (-1)))) E I J S)) ∧ (¬ p2 < 0 → ((((I 12) 5) ≤ p2 → (Q (.inl (some (.int (-1)))) E I J S)) ∧ (¬ ((I 12) 5) ≤ p2 → (vp_in p2 4 ∧ ((((I 64) p2.toNatClampNeg) < ((I 15) p2.toNatClampNeg) → (Q (.inl (some (.int ((p2 * (nI 16)) + ((I 64) p2.toNatClampNeg))))) E I J S)) ∧ (¬ ((I 64) p2.toNatClampNeg) < ((I 15) p2.toNatClampNeg) → (Q (.inl (some (.int (-1)))) E I J S)))))))) : am_ww 24 0 [.ref 61, .ref 12, .int p2] [] E I J S Q := by
  refine w_st (i' := 1) (ls' := [.ref 61, .ref 12, .int p2]) (st' := [.int p2]) (E' := E) (I' := I) (J' := J) (S' := S) am_e24 rfl rfl rfl rfl ?_
  refine w_if1 am_e24 rfl rfl (fun c => ?_) (fun c => ?_)
  · replace h := h.1 (of_decide_eq_true c)
    refine w_st (i' := 12) (ls' := [.ref 61, .ref 12, .int p2]) (st' := [.int (-1)]) (E' := E) (I' := I) (J' := J) (S' := S) am_e24 rfl rfl rfl rfl ?_
    exact w_end am_e24 rfl rfl rfl h
  · replace h := h.2 (of_decide_eq_false c)
    refine w_st (i' := 3) (ls' := [.ref 61, .ref 12, .int p2]) (st' := [.int p2]) (E' := E) (I' := I) (J' := J) (S' := S) am_e24 rfl rfl rfl rfl ?_
    refine w_st (i' := 4) (ls' := [.ref 61, .ref 12, .int p2]) (st' := [.ref 12, .int p2]) (E' := E) (I' := I) (J' := J) (S' := S) am_e24 rfl rfl rfl rfl ?_
    refine w_st (i' := 5) (ls' := [.ref 61, .ref 12, .int p2]) (st' := [.int ((I 12) 5), .int p2]) (E' := E) (I' := I) (J' := J) (S' := S) am_e24 rfl rfl rfl rfl ?_
    refine w_if2 am_e24 rfl rfl (fun c => ?_) (fun c => ?_)
    · replace h := h.1 (of_decide_eq_true c)
      refine w_st (i' := 12) (ls' := [.ref 61, .ref 12, .int p2]) (st' := [.int (-1)]) (E' := E) (I' := I) (J' := J) (S' := S) am_e24 rfl rfl rfl rfl ?_
      exact w_end am_e24 rfl rfl rfl h
    · replace h := h.2 (of_decide_eq_false c)
      refine w_st (i' := 7) (ls' := [.ref 61, .ref 12, .int p2]) (st' := [.ref 61]) (E' := E) (I' := I) (J' := J) (S' := S) am_e24 rfl rfl rfl rfl ?_
      refine w_st (i' := 8) (ls' := [.ref 61, .ref 12, .int p2]) (st' := [.ref 12, .ref 61]) (E' := E) (I' := I) (J' := J) (S' := S) am_e24 rfl rfl rfl rfl ?_
      refine w_st (i' := 9) (ls' := [.ref 61, .ref 12, .int p2]) (st' := [.int p2, .ref 12, .ref 61]) (E' := E) (I' := I) (J' := J) (S' := S) am_e24 rfl rfl rfl rfl ?_
      refine w_cI am_e24 rfl rfl (as := [.ref 61, .ref 12, .int p2]) (rest := []) rfl rfl ?_
      show am_ww 25 0 [.ref 61, .ref 12, .int p2] [] E I J S _
      refine w_st (i' := 1) (ls' := [.ref 61, .ref 12, .int p2]) (st' := [.ref 61]) (E' := E) (I' := I) (J' := J) (S' := S) am_e25 rfl rfl rfl rfl ?_
      refine w_st (i' := 2) (ls' := [.ref 61, .ref 12, .int p2]) (st' := [.ref 64]) (E' := E) (I' := I) (J' := J) (S' := S) am_e25 rfl rfl rfl rfl ?_
      refine w_st (i' := 3) (ls' := [.ref 61, .ref 12, .int p2]) (st' := [.int p2, .ref 64]) (E' := E) (I' := I) (J' := J) (S' := S) am_e25 rfl rfl rfl rfl ?_
      have hf1 := h.1
      replace h := h.2
      refine w_ia (k := 64) (n := 4) (jn := p2.toNatClampNeg) am_e25 rfl rfl (by decide) hf1 rfl ?_
      refine w_st (i' := 5) (ls' := [.ref 61, .ref 12, .int p2]) (st' := [.ref 12, .int ((I 64) p2.toNatClampNeg)]) (E' := E) (I' := I) (J' := J) (S' := S) am_e25 rfl rfl rfl rfl ?_
      refine w_st (i' := 6) (ls' := [.ref 61, .ref 12, .int p2]) (st' := [.ref 15, .int ((I 64) p2.toNatClampNeg)]) (E' := E) (I' := I) (J' := J) (S' := S) am_e25 rfl rfl rfl rfl ?_
      refine w_st (i' := 7) (ls' := [.ref 61, .ref 12, .int p2]) (st' := [.int p2, .ref 15, .int ((I 64) p2.toNatClampNeg)]) (E' := E) (I' := I) (J' := J) (S' := S) am_e25 rfl rfl rfl rfl ?_
      refine w_ia (k := 15) (n := 4) (jn := p2.toNatClampNeg) am_e25 rfl rfl (by decide) hf1 rfl ?_
      refine w_if2 am_e25 rfl rfl (fun c => ?_) (fun c => ?_)
      · replace h := h.1 (of_decide_eq_true c)
        refine w_st (i' := 12) (ls' := [.ref 61, .ref 12, .int p2]) (st' := [.int (nI 0)]) (E' := E) (I' := I) (J' := J) (S' := S) am_e25 rfl rfl rfl rfl ?_
        refine w_end (E' := E) (I' := I) (J' := J) (S' := S) am_e25 rfl rfl rfl (q_mkI ?_)
        show am_ww 24 10 [.ref 61, .ref 12, .int p2] [.int (nI 0)] E I J S _
        refine w_st (i' := 13) (ls' := [.ref 61, .ref 12, .int p2]) (st' := []) (E' := E) (I' := I) (J' := J) (S' := S) am_e24 rfl rfl rfl rfl ?_
        refine w_st (i' := 14) (ls' := [.ref 61, .ref 12, .int p2]) (st' := [.int p2]) (E' := E) (I' := I) (J' := J) (S' := S) am_e24 rfl rfl rfl rfl ?_
        refine w_st (i' := 15) (ls' := [.ref 61, .ref 12, .int p2]) (st' := [.int (nI 16), .int p2]) (E' := E) (I' := I) (J' := J) (S' := S) am_e24 rfl rfl rfl rfl ?_
        refine w_st (i' := 16) (ls' := [.ref 61, .ref 12, .int p2]) (st' := [.int (p2 * (nI 16))]) (E' := E) (I' := I) (J' := J) (S' := S) am_e24 rfl rfl rfl rfl ?_
        refine w_st (i' := 17) (ls' := [.ref 61, .ref 12, .int p2]) (st' := [.ref 61, .int (p2 * (nI 16))]) (E' := E) (I' := I) (J' := J) (S' := S) am_e24 rfl rfl rfl rfl ?_
        refine w_st (i' := 18) (ls' := [.ref 61, .ref 12, .int p2]) (st' := [.ref 64, .int (p2 * (nI 16))]) (E' := E) (I' := I) (J' := J) (S' := S) am_e24 rfl rfl rfl rfl ?_
        refine w_st (i' := 19) (ls' := [.ref 61, .ref 12, .int p2]) (st' := [.int p2, .ref 64, .int (p2 * (nI 16))]) (E' := E) (I' := I) (J' := J) (S' := S) am_e24 rfl rfl rfl rfl ?_
        refine w_ia (k := 64) (n := 4) (jn := p2.toNatClampNeg) am_e24 rfl rfl (by decide) hf1 rfl ?_
        refine w_st (i' := 21) (ls' := [.ref 61, .ref 12, .int p2]) (st' := [.int ((p2 * (nI 16)) + ((I 64) p2.toNatClampNeg))]) (E' := E) (I' := I) (J' := J) (S' := S) am_e24 rfl rfl rfl rfl ?_
        exact w_ri am_e24 rfl rfl h
      · replace h := h.2 (of_decide_eq_false c)
        refine w_st (i' := 10) (ls' := [.ref 61, .ref 12, .int p2]) (st' := [.int (nI 1)]) (E' := E) (I' := I) (J' := J) (S' := S) am_e25 rfl rfl rfl rfl ?_
        refine w_st (i' := 12) (ls' := [.ref 61, .ref 12, .int p2]) (st' := [.int (nI 1)]) (E' := E) (I' := I) (J' := J) (S' := S) am_e25 rfl rfl rfl rfl ?_
        refine w_end (E' := E) (I' := I) (J' := J) (S' := S) am_e25 rfl rfl rfl (q_mkI ?_)
        show am_ww 24 10 [.ref 61, .ref 12, .int p2] [.int (nI 1)] E I J S _
        refine w_st (i' := 11) (ls' := [.ref 61, .ref 12, .int p2]) (st' := []) (E' := E) (I' := I) (J' := J) (S' := S) am_e24 rfl rfl rfl rfl ?_
        refine w_st (i' := 12) (ls' := [.ref 61, .ref 12, .int p2]) (st' := [.int (-1)]) (E' := E) (I' := I) (J' := J) (S' := S) am_e24 rfl rfl rfl rfl ?_
        exact w_end am_e24 rfl rfl rfl h
-- 23 canGo
theorem g23_0_61 {p2 : Int32} {E : am_Ev} {I : Nat → Nat → Int32} {J : Nat → Nat → Int64} {S : Nat → Nat → Option Nat} {Q : am_Qt}  (h : am_cl 24 [.ref 61, .ref 12, .int p2] E I J S (q_I fun v1 E1 I1 J1 S1 => (v1 = (-1) → (Q (.inl (some (.int (nI 0)))) E1 I1 J1 S1)) ∧ (¬ v1 = (-1) → (vp_in v1 64 ∧ ((((I1 13) v1.toNatClampNeg) = (nI 13) → (vp_in ((v1 * (nI 3)) + (nI 0)) 192 ∧ (∀ w7 : Int32, w7 = ((I1 14) (((v1 * (nI 3)) + (nI 0)).toNatClampNeg)) → (vp_in w7 4 ∧ ((((I1 66) w7.toNatClampNeg) = (-1) → (Q (.inl (some (.int (nI 1)))) E1 I1 J1 S1)) ∧ (¬ ((I1 66) w7.toNatClampNeg) = (-1) → (Q (.inl (some (.int (nI 0)))) E1 I1 J1 S1))))))) ∧ (¬ ((I1 13) v1.toNatClampNeg) = (nI 13) → ((((I1 13) v1.toNatClampNeg) = (nI 12) → (vp_in ((v1 * (nI 3)) + (nI 1)) 192 ∧ (∀ w4 : Int32, w4 = ((I1 14) (((v1 * (nI 3)) + (nI 1)).toNatClampNeg)) → (vp_in w4 3 ∧ ((((I1 26) w4.toNatClampNeg) ≤ ((I1 67) w4.toNatClampNeg) → (Q (.inl (some (.int (nI 0)))) E1 I1 J1 S1)) ∧ (¬ ((I1 26) w4.toNatClampNeg) ≤ ((I1 67) w4.toNatClampNeg) → (Q (.inl (some (.int (nI 1)))) E1 I1 J1 S1))))))) ∧ (¬ ((I1 13) v1.toNatClampNeg) = (nI 12) → (Q (.inl (some (.int (nI 1)))) E1 I1 J1 S1))))))))) : am_ww 23 0 [.ref 61, .ref 12, .int p2, .ref 26, am_U, am_U] [] E I J S Q := by
  refine w_st (i' := 1) (ls' := [.ref 61, .ref 12, .int p2, .ref 26, am_U, am_U]) (st' := [.ref 61]) (E' := E) (I' := I) (J' := J) (S' := S) am_e23 rfl rfl rfl rfl ?_
  refine w_st (i' := 2) (ls' := [.ref 61, .ref 12, .int p2, .ref 26, am_U, am_U]) (st' := [.ref 12, .ref 61]) (E' := E) (I' := I) (J' := J) (S' := S) am_e23 rfl rfl rfl rfl ?_
  refine w_st (i' := 3) (ls' := [.ref 61, .ref 12, .int p2, .ref 26, am_U, am_U]) (st' := [.int p2, .ref 12, .ref 61]) (E' := E) (I' := I) (J' := J) (S' := S) am_e23 rfl rfl rfl rfl ?_
  refine w_cI am_e23 rfl rfl (as := [.ref 61, .ref 12, .int p2]) (rest := []) rfl rfl (am_ww.mono h ?_)
  rintro _ E1 I1 J1 S1 ⟨v1, rfl, h⟩
  refine q_mkI ?_
  refine w_st (i' := 5) (ls' := [.ref 61, .ref 12, .int p2, .ref 26, .int v1, am_U]) (st' := []) (E' := E1) (I' := I1) (J' := J1) (S' := S1) am_e23 rfl rfl rfl rfl ?_
  refine w_st (i' := 6) (ls' := [.ref 61, .ref 12, .int p2, .ref 26, .int v1, am_U]) (st' := [.int v1]) (E' := E1) (I' := I1) (J' := J1) (S' := S1) am_e23 rfl rfl rfl rfl ?_
  refine w_st (i' := 7) (ls' := [.ref 61, .ref 12, .int p2, .ref 26, .int v1, am_U]) (st' := [.int (-1), .int v1]) (E' := E1) (I' := I1) (J' := J1) (S' := S1) am_e23 rfl rfl rfl rfl ?_
  refine w_if2 am_e23 rfl rfl (fun c => ?_) (fun c => ?_)
  · replace h := h.2 (of_decide_eq_true c)
    refine w_st (i' := 11) (ls' := [.ref 61, .ref 12, .int p2, .ref 26, .int v1, am_U]) (st' := [.ref 12]) (E' := E1) (I' := I1) (J' := J1) (S' := S1) am_e23 rfl rfl rfl rfl ?_
    refine w_st (i' := 12) (ls' := [.ref 61, .ref 12, .int p2, .ref 26, .int v1, am_U]) (st' := [.ref 13]) (E' := E1) (I' := I1) (J' := J1) (S' := S1) am_e23 rfl rfl rfl rfl ?_
    refine w_st (i' := 13) (ls' := [.ref 61, .ref 12, .int p2, .ref 26, .int v1, am_U]) (st' := [.int v1, .ref 13]) (E' := E1) (I' := I1) (J' := J1) (S' := S1) am_e23 rfl rfl rfl rfl ?_
    have hf2 := h.1
    replace h := h.2
    refine w_ia (k := 13) (n := 64) (jn := v1.toNatClampNeg) am_e23 rfl rfl (by decide) hf2 rfl ?_
    refine w_st (i' := 15) (ls' := [.ref 61, .ref 12, .int p2, .ref 26, .int v1, am_U]) (st' := [.int (nI 13), .int ((I1 13) v1.toNatClampNeg)]) (E' := E1) (I' := I1) (J' := J1) (S' := S1) am_e23 rfl rfl rfl rfl ?_
    refine w_if2 am_e23 rfl rfl (fun c => ?_) (fun c => ?_)
    · replace h := h.2 (of_decide_eq_true c)
      refine w_st (i' := 30) (ls' := [.ref 61, .ref 12, .int p2, .ref 26, .int v1, am_U]) (st' := [.ref 12]) (E' := E1) (I' := I1) (J' := J1) (S' := S1) am_e23 rfl rfl rfl rfl ?_
      refine w_st (i' := 31) (ls' := [.ref 61, .ref 12, .int p2, .ref 26, .int v1, am_U]) (st' := [.ref 13]) (E' := E1) (I' := I1) (J' := J1) (S' := S1) am_e23 rfl rfl rfl rfl ?_
      refine w_st (i' := 32) (ls' := [.ref 61, .ref 12, .int p2, .ref 26, .int v1, am_U]) (st' := [.int v1, .ref 13]) (E' := E1) (I' := I1) (J' := J1) (S' := S1) am_e23 rfl rfl rfl rfl ?_
      refine w_ia (k := 13) (n := 64) (jn := v1.toNatClampNeg) am_e23 rfl rfl (by decide) hf2 rfl ?_
      refine w_st (i' := 34) (ls' := [.ref 61, .ref 12, .int p2, .ref 26, .int v1, am_U]) (st' := [.int (nI 12), .int ((I1 13) v1.toNatClampNeg)]) (E' := E1) (I' := I1) (J' := J1) (S' := S1) am_e23 rfl rfl rfl rfl ?_
      refine w_if2 am_e23 rfl rfl (fun c => ?_) (fun c => ?_)
      · replace h := h.2 (of_decide_eq_true c)
        refine w_st (i' := 53) (ls' := [.ref 61, .ref 12, .int p2, .ref 26, .int v1, am_U]) (st' := [.int (nI 1)]) (E' := E1) (I' := I1) (J' := J1) (S' := S1) am_e23 rfl rfl rfl rfl ?_
        exact w_end am_e23 rfl rfl rfl h
      · replace h := h.1 (Decidable.not_not.mp (of_decide_eq_false c))
        refine w_st (i' := 36) (ls' := [.ref 61, .ref 12, .int p2, .ref 26, .int v1, am_U]) (st' := [.ref 12]) (E' := E1) (I' := I1) (J' := J1) (S' := S1) am_e23 rfl rfl rfl rfl ?_
        refine w_st (i' := 37) (ls' := [.ref 61, .ref 12, .int p2, .ref 26, .int v1, am_U]) (st' := [.int v1, .ref 12]) (E' := E1) (I' := I1) (J' := J1) (S' := S1) am_e23 rfl rfl rfl rfl ?_
        refine w_st (i' := 38) (ls' := [.ref 61, .ref 12, .int p2, .ref 26, .int v1, am_U]) (st' := [.int (nI 1), .int v1, .ref 12]) (E' := E1) (I' := I1) (J' := J1) (S' := S1) am_e23 rfl rfl rfl rfl ?_
        refine w_cI am_e23 rfl rfl (as := [.ref 12, .int v1, .int (nI 1)]) (rest := []) rfl rfl ?_
        show am_ww 26 0 [.ref 12, .int v1, .int (nI 1)] [] E1 I1 J1 S1 _
        refine w_st (i' := 1) (ls' := [.ref 12, .int v1, .int (nI 1)]) (st' := [.ref 12]) (E' := E1) (I' := I1) (J' := J1) (S' := S1) am_e26 rfl rfl rfl rfl ?_
        refine w_st (i' := 2) (ls' := [.ref 12, .int v1, .int (nI 1)]) (st' := [.ref 14]) (E' := E1) (I' := I1) (J' := J1) (S' := S1) am_e26 rfl rfl rfl rfl ?_
        refine w_st (i' := 3) (ls' := [.ref 12, .int v1, .int (nI 1)]) (st' := [.int v1, .ref 14]) (E' := E1) (I' := I1) (J' := J1) (S' := S1) am_e26 rfl rfl rfl rfl ?_
        refine w_st (i' := 4) (ls' := [.ref 12, .int v1, .int (nI 1)]) (st' := [.int (nI 3), .int v1, .ref 14]) (E' := E1) (I' := I1) (J' := J1) (S' := S1) am_e26 rfl rfl rfl rfl ?_
        refine w_st (i' := 5) (ls' := [.ref 12, .int v1, .int (nI 1)]) (st' := [.int (v1 * (nI 3)), .ref 14]) (E' := E1) (I' := I1) (J' := J1) (S' := S1) am_e26 rfl rfl rfl rfl ?_
        refine w_st (i' := 6) (ls' := [.ref 12, .int v1, .int (nI 1)]) (st' := [.int (nI 1), .int (v1 * (nI 3)), .ref 14]) (E' := E1) (I' := I1) (J' := J1) (S' := S1) am_e26 rfl rfl rfl rfl ?_
        refine w_st (i' := 7) (ls' := [.ref 12, .int v1, .int (nI 1)]) (st' := [.int ((v1 * (nI 3)) + (nI 1)), .ref 14]) (E' := E1) (I' := I1) (J' := J1) (S' := S1) am_e26 rfl rfl rfl rfl ?_
        have hf3 := h.1
        replace h := h.2
        refine w_ia (k := 14) (n := 192) (jn := ((v1 * (nI 3)) + (nI 1)).toNatClampNeg) am_e26 rfl rfl (by decide) hf3 rfl ?_
        refine w_ri am_e26 rfl rfl (q_mkI ?_)
        show am_ww 23 39 [.ref 61, .ref 12, .int p2, .ref 26, .int v1, am_U] [.int ((I1 14) (((v1 * (nI 3)) + (nI 1)).toNatClampNeg))] E1 I1 J1 S1 _
        refine w_var (fun w4 => am_ww 23 39 [.ref 61, .ref 12, .int p2, .ref 26, .int v1, am_U] [.int w4] E1 I1 J1 S1 _) ((I1 14) (((v1 * (nI 3)) + (nI 1)).toNatClampNeg)) (fun w4 hw4 => ?_)
        replace h := h w4 hw4
        refine w_st (i' := 40) (ls' := [.ref 61, .ref 12, .int p2, .ref 26, .int v1, .int w4]) (st' := []) (E' := E1) (I' := I1) (J' := J1) (S' := S1) am_e23 rfl rfl rfl rfl ?_
        refine w_st (i' := 41) (ls' := [.ref 61, .ref 12, .int p2, .ref 26, .int v1, .int w4]) (st' := [.ref 61]) (E' := E1) (I' := I1) (J' := J1) (S' := S1) am_e23 rfl rfl rfl rfl ?_
        refine w_st (i' := 42) (ls' := [.ref 61, .ref 12, .int p2, .ref 26, .int v1, .int w4]) (st' := [.ref 67]) (E' := E1) (I' := I1) (J' := J1) (S' := S1) am_e23 rfl rfl rfl rfl ?_
        refine w_st (i' := 43) (ls' := [.ref 61, .ref 12, .int p2, .ref 26, .int v1, .int w4]) (st' := [.int w4, .ref 67]) (E' := E1) (I' := I1) (J' := J1) (S' := S1) am_e23 rfl rfl rfl rfl ?_
        have hf5 := h.1
        replace h := h.2
        refine w_ia (k := 67) (n := 3) (jn := w4.toNatClampNeg) am_e23 rfl rfl (by decide) hf5 rfl ?_
        refine w_st (i' := 45) (ls' := [.ref 61, .ref 12, .int p2, .ref 26, .int v1, .int w4]) (st' := [.ref 26, .int ((I1 67) w4.toNatClampNeg)]) (E' := E1) (I' := I1) (J' := J1) (S' := S1) am_e23 rfl rfl rfl rfl ?_
        refine w_st (i' := 46) (ls' := [.ref 61, .ref 12, .int p2, .ref 26, .int v1, .int w4]) (st' := [.int w4, .ref 26, .int ((I1 67) w4.toNatClampNeg)]) (E' := E1) (I' := I1) (J' := J1) (S' := S1) am_e23 rfl rfl rfl rfl ?_
        refine w_ia (k := 26) (n := 3) (jn := w4.toNatClampNeg) am_e23 rfl rfl (by decide) hf5 rfl ?_
        refine w_if2 am_e23 rfl rfl (fun c => ?_) (fun c => ?_)
        · replace h := h.1 (of_decide_eq_true c)
          refine w_st (i' := 51) (ls' := [.ref 61, .ref 12, .int p2, .ref 26, .int v1, .int w4]) (st' := [.int (nI 0)]) (E' := E1) (I' := I1) (J' := J1) (S' := S1) am_e23 rfl rfl rfl rfl ?_
          exact w_end am_e23 rfl rfl rfl h
        · replace h := h.2 (of_decide_eq_false c)
          refine w_st (i' := 49) (ls' := [.ref 61, .ref 12, .int p2, .ref 26, .int v1, .int w4]) (st' := [.int (nI 1)]) (E' := E1) (I' := I1) (J' := J1) (S' := S1) am_e23 rfl rfl rfl rfl ?_
          refine w_st (i' := 51) (ls' := [.ref 61, .ref 12, .int p2, .ref 26, .int v1, .int w4]) (st' := [.int (nI 1)]) (E' := E1) (I' := I1) (J' := J1) (S' := S1) am_e23 rfl rfl rfl rfl ?_
          exact w_end am_e23 rfl rfl rfl h
    · replace h := h.1 (Decidable.not_not.mp (of_decide_eq_false c))
      refine w_st (i' := 17) (ls' := [.ref 61, .ref 12, .int p2, .ref 26, .int v1, am_U]) (st' := [.ref 61]) (E' := E1) (I' := I1) (J' := J1) (S' := S1) am_e23 rfl rfl rfl rfl ?_
      refine w_st (i' := 18) (ls' := [.ref 61, .ref 12, .int p2, .ref 26, .int v1, am_U]) (st' := [.ref 66]) (E' := E1) (I' := I1) (J' := J1) (S' := S1) am_e23 rfl rfl rfl rfl ?_
      refine w_st (i' := 19) (ls' := [.ref 61, .ref 12, .int p2, .ref 26, .int v1, am_U]) (st' := [.ref 12, .ref 66]) (E' := E1) (I' := I1) (J' := J1) (S' := S1) am_e23 rfl rfl rfl rfl ?_
      refine w_st (i' := 20) (ls' := [.ref 61, .ref 12, .int p2, .ref 26, .int v1, am_U]) (st' := [.int v1, .ref 12, .ref 66]) (E' := E1) (I' := I1) (J' := J1) (S' := S1) am_e23 rfl rfl rfl rfl ?_
      refine w_st (i' := 21) (ls' := [.ref 61, .ref 12, .int p2, .ref 26, .int v1, am_U]) (st' := [.int (nI 0), .int v1, .ref 12, .ref 66]) (E' := E1) (I' := I1) (J' := J1) (S' := S1) am_e23 rfl rfl rfl rfl ?_
      refine w_cI am_e23 rfl rfl (as := [.ref 12, .int v1, .int (nI 0)]) (rest := [.ref 66]) rfl rfl ?_
      show am_ww 26 0 [.ref 12, .int v1, .int (nI 0)] [] E1 I1 J1 S1 _
      refine w_st (i' := 1) (ls' := [.ref 12, .int v1, .int (nI 0)]) (st' := [.ref 12]) (E' := E1) (I' := I1) (J' := J1) (S' := S1) am_e26 rfl rfl rfl rfl ?_
      refine w_st (i' := 2) (ls' := [.ref 12, .int v1, .int (nI 0)]) (st' := [.ref 14]) (E' := E1) (I' := I1) (J' := J1) (S' := S1) am_e26 rfl rfl rfl rfl ?_
      refine w_st (i' := 3) (ls' := [.ref 12, .int v1, .int (nI 0)]) (st' := [.int v1, .ref 14]) (E' := E1) (I' := I1) (J' := J1) (S' := S1) am_e26 rfl rfl rfl rfl ?_
      refine w_st (i' := 4) (ls' := [.ref 12, .int v1, .int (nI 0)]) (st' := [.int (nI 3), .int v1, .ref 14]) (E' := E1) (I' := I1) (J' := J1) (S' := S1) am_e26 rfl rfl rfl rfl ?_
      refine w_st (i' := 5) (ls' := [.ref 12, .int v1, .int (nI 0)]) (st' := [.int (v1 * (nI 3)), .ref 14]) (E' := E1) (I' := I1) (J' := J1) (S' := S1) am_e26 rfl rfl rfl rfl ?_
      refine w_st (i' := 6) (ls' := [.ref 12, .int v1, .int (nI 0)]) (st' := [.int (nI 0), .int (v1 * (nI 3)), .ref 14]) (E' := E1) (I' := I1) (J' := J1) (S' := S1) am_e26 rfl rfl rfl rfl ?_
      refine w_st (i' := 7) (ls' := [.ref 12, .int v1, .int (nI 0)]) (st' := [.int ((v1 * (nI 3)) + (nI 0)), .ref 14]) (E' := E1) (I' := I1) (J' := J1) (S' := S1) am_e26 rfl rfl rfl rfl ?_
      have hf6 := h.1
      replace h := h.2
      refine w_ia (k := 14) (n := 192) (jn := ((v1 * (nI 3)) + (nI 0)).toNatClampNeg) am_e26 rfl rfl (by decide) hf6 rfl ?_
      refine w_ri am_e26 rfl rfl (q_mkI ?_)
      show am_ww 23 22 [.ref 61, .ref 12, .int p2, .ref 26, .int v1, am_U] [.int ((I1 14) (((v1 * (nI 3)) + (nI 0)).toNatClampNeg)), .ref 66] E1 I1 J1 S1 _
      refine w_var (fun w7 => am_ww 23 22 [.ref 61, .ref 12, .int p2, .ref 26, .int v1, am_U] [.int w7, .ref 66] E1 I1 J1 S1 _) ((I1 14) (((v1 * (nI 3)) + (nI 0)).toNatClampNeg)) (fun w7 hw7 => ?_)
      replace h := h w7 hw7
      have hf8 := h.1
      replace h := h.2
      refine w_ia (k := 66) (n := 4) (jn := w7.toNatClampNeg) am_e23 rfl rfl (by decide) hf8 rfl ?_
      refine w_st (i' := 24) (ls' := [.ref 61, .ref 12, .int p2, .ref 26, .int v1, am_U]) (st' := [.int (-1), .int ((I1 66) w7.toNatClampNeg)]) (E' := E1) (I' := I1) (J' := J1) (S' := S1) am_e23 rfl rfl rfl rfl ?_
      refine w_if2 am_e23 rfl rfl (fun c => ?_) (fun c => ?_)
      · replace h := h.2 (of_decide_eq_true c)
        refine w_st (i' := 28) (ls' := [.ref 61, .ref 12, .int p2, .ref 26, .int v1, am_U]) (st' := [.int (nI 0)]) (E' := E1) (I' := I1) (J' := J1) (S' := S1) am_e23 rfl rfl rfl rfl ?_
        exact w_end am_e23 rfl rfl rfl h
      · replace h := h.1 (Decidable.not_not.mp (of_decide_eq_false c))
        refine w_st (i' := 26) (ls' := [.ref 61, .ref 12, .int p2, .ref 26, .int v1, am_U]) (st' := [.int (nI 1)]) (E' := E1) (I' := I1) (J' := J1) (S' := S1) am_e23 rfl rfl rfl rfl ?_
        refine w_st (i' := 28) (ls' := [.ref 61, .ref 12, .int p2, .ref 26, .int v1, am_U]) (st' := [.int (nI 1)]) (E' := E1) (I' := I1) (J' := J1) (S' := S1) am_e23 rfl rfl rfl rfl ?_
        exact w_end am_e23 rfl rfl rfl h
  · replace h := h.1 (Decidable.not_not.mp (of_decide_eq_false c))
    refine w_st (i' := 9) (ls' := [.ref 61, .ref 12, .int p2, .ref 26, .int v1, am_U]) (st' := [.int (nI 0)]) (E' := E1) (I' := I1) (J' := J1) (S' := S1) am_e23 rfl rfl rfl rfl ?_
    exact w_end am_e23 rfl rfl rfl h
-- 34 sourceWanted
theorem g34_0_61  {E : am_Ev} {I : Nat → Nat → Int32} {J : Nat → Nat → Int64} {S : Nat → Nat → Option Nat} {Q : am_Qt}  (h : am_cl 24 [.ref 61, .ref 12, .int ((I 61) 6)] E I J S (q_I fun v1 E1 I1 J1 S1 => (v1 = (-1) → (Q (.inl (some (.int (-1)))) E1 I1 J1 S1)) ∧ (¬ v1 = (-1) → (vp_in v1 64 ∧ ((((I1 13) v1.toNatClampNeg) = (nI 12) → (vp_in ((v1 * (nI 3)) + (nI 1)) 192 ∧ (∀ w4 : Int32, w4 = ((I1 14) (((v1 * (nI 3)) + (nI 1)).toNatClampNeg)) → (Q (.inl (some (.int w4))) E1 I1 J1 S1)))) ∧ (¬ ((I1 13) v1.toNatClampNeg) = (nI 12) → (Q (.inl (some (.int (-1)))) E1 I1 J1 S1))))))) : am_ww 34 0 [.ref 61, .ref 12, am_U] [] E I J S Q := by
  refine w_st (i' := 1) (ls' := [.ref 61, .ref 12, am_U]) (st' := [.ref 61]) (E' := E) (I' := I) (J' := J) (S' := S) am_e34 rfl rfl rfl rfl ?_
  refine w_st (i' := 2) (ls' := [.ref 61, .ref 12, am_U]) (st' := [.ref 12, .ref 61]) (E' := E) (I' := I) (J' := J) (S' := S) am_e34 rfl rfl rfl rfl ?_
  refine w_st (i' := 3) (ls' := [.ref 61, .ref 12, am_U]) (st' := [.ref 61, .ref 12, .ref 61]) (E' := E) (I' := I) (J' := J) (S' := S) am_e34 rfl rfl rfl rfl ?_
  refine w_st (i' := 4) (ls' := [.ref 61, .ref 12, am_U]) (st' := [.int ((I 61) 6), .ref 12, .ref 61]) (E' := E) (I' := I) (J' := J) (S' := S) am_e34 rfl rfl rfl rfl ?_
  refine w_cI am_e34 rfl rfl (as := [.ref 61, .ref 12, .int ((I 61) 6)]) (rest := []) rfl rfl (am_ww.mono h ?_)
  rintro _ E1 I1 J1 S1 ⟨v1, rfl, h⟩
  refine q_mkI ?_
  refine w_st (i' := 6) (ls' := [.ref 61, .ref 12, .int v1]) (st' := []) (E' := E1) (I' := I1) (J' := J1) (S' := S1) am_e34 rfl rfl rfl rfl ?_
  refine w_st (i' := 7) (ls' := [.ref 61, .ref 12, .int v1]) (st' := [.int v1]) (E' := E1) (I' := I1) (J' := J1) (S' := S1) am_e34 rfl rfl rfl rfl ?_
  refine w_st (i' := 8) (ls' := [.ref 61, .ref 12, .int v1]) (st' := [.int (-1), .int v1]) (E' := E1) (I' := I1) (J' := J1) (S' := S1) am_e34 rfl rfl rfl rfl ?_
  refine w_if2 am_e34 rfl rfl (fun c => ?_) (fun c => ?_)
  · replace h := h.1 (of_decide_eq_true c)
    refine w_st (i' := 21) (ls' := [.ref 61, .ref 12, .int v1]) (st' := [.int (-1)]) (E' := E1) (I' := I1) (J' := J1) (S' := S1) am_e34 rfl rfl rfl rfl ?_
    exact w_end am_e34 rfl rfl rfl h
  · replace h := h.2 (of_decide_eq_false c)
    refine w_st (i' := 10) (ls' := [.ref 61, .ref 12, .int v1]) (st' := [.ref 12]) (E' := E1) (I' := I1) (J' := J1) (S' := S1) am_e34 rfl rfl rfl rfl ?_
    refine w_st (i' := 11) (ls' := [.ref 61, .ref 12, .int v1]) (st' := [.ref 13]) (E' := E1) (I' := I1) (J' := J1) (S' := S1) am_e34 rfl rfl rfl rfl ?_
    refine w_st (i' := 12) (ls' := [.ref 61, .ref 12, .int v1]) (st' := [.int v1, .ref 13]) (E' := E1) (I' := I1) (J' := J1) (S' := S1) am_e34 rfl rfl rfl rfl ?_
    have hf2 := h.1
    replace h := h.2
    refine w_ia (k := 13) (n := 64) (jn := v1.toNatClampNeg) am_e34 rfl rfl (by decide) hf2 rfl ?_
    refine w_st (i' := 14) (ls' := [.ref 61, .ref 12, .int v1]) (st' := [.int (nI 12), .int ((I1 13) v1.toNatClampNeg)]) (E' := E1) (I' := I1) (J' := J1) (S' := S1) am_e34 rfl rfl rfl rfl ?_
    refine w_if2 am_e34 rfl rfl (fun c => ?_) (fun c => ?_)
    · replace h := h.2 (of_decide_eq_true c)
      refine w_st (i' := 21) (ls' := [.ref 61, .ref 12, .int v1]) (st' := [.int (-1)]) (E' := E1) (I' := I1) (J' := J1) (S' := S1) am_e34 rfl rfl rfl rfl ?_
      exact w_end am_e34 rfl rfl rfl h
    · replace h := h.1 (Decidable.not_not.mp (of_decide_eq_false c))
      refine w_st (i' := 16) (ls' := [.ref 61, .ref 12, .int v1]) (st' := [.ref 12]) (E' := E1) (I' := I1) (J' := J1) (S' := S1) am_e34 rfl rfl rfl rfl ?_
      refine w_st (i' := 17) (ls' := [.ref 61, .ref 12, .int v1]) (st' := [.int v1, .ref 12]) (E' := E1) (I' := I1) (J' := J1) (S' := S1) am_e34 rfl rfl rfl rfl ?_
      refine w_st (i' := 18) (ls' := [.ref 61, .ref 12, .int v1]) (st' := [.int (nI 1), .int v1, .ref 12]) (E' := E1) (I' := I1) (J' := J1) (S' := S1) am_e34 rfl rfl rfl rfl ?_
      refine w_cI am_e34 rfl rfl (as := [.ref 12, .int v1, .int (nI 1)]) (rest := []) rfl rfl ?_
      show am_ww 26 0 [.ref 12, .int v1, .int (nI 1)] [] E1 I1 J1 S1 _
      refine w_st (i' := 1) (ls' := [.ref 12, .int v1, .int (nI 1)]) (st' := [.ref 12]) (E' := E1) (I' := I1) (J' := J1) (S' := S1) am_e26 rfl rfl rfl rfl ?_
      refine w_st (i' := 2) (ls' := [.ref 12, .int v1, .int (nI 1)]) (st' := [.ref 14]) (E' := E1) (I' := I1) (J' := J1) (S' := S1) am_e26 rfl rfl rfl rfl ?_
      refine w_st (i' := 3) (ls' := [.ref 12, .int v1, .int (nI 1)]) (st' := [.int v1, .ref 14]) (E' := E1) (I' := I1) (J' := J1) (S' := S1) am_e26 rfl rfl rfl rfl ?_
      refine w_st (i' := 4) (ls' := [.ref 12, .int v1, .int (nI 1)]) (st' := [.int (nI 3), .int v1, .ref 14]) (E' := E1) (I' := I1) (J' := J1) (S' := S1) am_e26 rfl rfl rfl rfl ?_
      refine w_st (i' := 5) (ls' := [.ref 12, .int v1, .int (nI 1)]) (st' := [.int (v1 * (nI 3)), .ref 14]) (E' := E1) (I' := I1) (J' := J1) (S' := S1) am_e26 rfl rfl rfl rfl ?_
      refine w_st (i' := 6) (ls' := [.ref 12, .int v1, .int (nI 1)]) (st' := [.int (nI 1), .int (v1 * (nI 3)), .ref 14]) (E' := E1) (I' := I1) (J' := J1) (S' := S1) am_e26 rfl rfl rfl rfl ?_
      refine w_st (i' := 7) (ls' := [.ref 12, .int v1, .int (nI 1)]) (st' := [.int ((v1 * (nI 3)) + (nI 1)), .ref 14]) (E' := E1) (I' := I1) (J' := J1) (S' := S1) am_e26 rfl rfl rfl rfl ?_
      have hf3 := h.1
      replace h := h.2
      refine w_ia (k := 14) (n := 192) (jn := ((v1 * (nI 3)) + (nI 1)).toNatClampNeg) am_e26 rfl rfl (by decide) hf3 rfl ?_
      refine w_ri am_e26 rfl rfl (q_mkI ?_)
      show am_ww 34 19 [.ref 61, .ref 12, .int v1] [.int ((I1 14) (((v1 * (nI 3)) + (nI 1)).toNatClampNeg))] E1 I1 J1 S1 _
      refine w_var (fun w4 => am_ww 34 19 [.ref 61, .ref 12, .int v1] [.int w4] E1 I1 J1 S1 _) ((I1 14) (((v1 * (nI 3)) + (nI 1)).toNatClampNeg)) (fun w4 hw4 => ?_)
      replace h := h w4 hw4
      refine w_st (i' := 21) (ls' := [.ref 61, .ref 12, .int v1]) (st' := [.int w4]) (E' := E1) (I' := I1) (J' := J1) (S' := S1) am_e34 rfl rfl rfl rfl ?_
      exact w_ri am_e34 rfl rfl h
-- 36 obey
theorem g36_0_61 {p2 : Int32} {E : am_Ev} {I : Nat → Nat → Int32} {J : Nat → Nat → Int64} {S : Nat → Nat → Option Nat} {Q : am_Qt}  (h : am_cl 24 [.ref 61, .ref 12, .int ((I 61) 6)] E I J S (q_I fun v1 E1 I1 J1 S1 => (v1 = (-1) → (Q (.inl none) E1 I1 J1 S1)) ∧ (¬ v1 = (-1) → (vp_in v1 64 ∧ ((((I1 13) v1.toNatClampNeg) = (nI 15) → (am_cl 37 [.ref 61, .ref 12, .int v1] E1 I1 J1 S1 (q_V fun E3 I3 J3 S3 => Q (.inl none) E3 I3 J3 S3))) ∧ (¬ ((I1 13) v1.toNatClampNeg) = (nI 15) → ((((I1 13) v1.toNatClampNeg) = (nI 16) → (am_cl 37 [.ref 61, .ref 12, .int v1] E1 I1 J1 S1 (q_V fun E4 I4 J4 S4 => Q (.inl none) E4 I4 J4 S4))) ∧ (¬ ((I1 13) v1.toNatClampNeg) = (nI 16) → ((((I1 13) v1.toNatClampNeg) = (nI 17) → (am_cl 37 [.ref 61, .ref 12, .int v1] E1 I1 J1 S1 (q_V fun E7 I7 J7 S7 => Q (.inl none) E7 I7 J7 S7))) ∧ (¬ ((I1 13) v1.toNatClampNeg) = (nI 17) → (am_cl 38 [.ref 61, .ref 12, .int v1, .int p2] E1 I1 J1 S1 (q_V fun E5 I5 J5 S5 => vp_in ((I5 61) 6) 4 ∧ (Q (.inl none) E5 (u_I I5 64 (upd (I5 64) (((I5 61) 6).toNatClampNeg) (((I5 64) (((I5 61) 6).toNatClampNeg)) + (nI 1)))) J5 S5))))))))))))) : am_ww 36 0 [.ref 61, .ref 12, .int p2, am_U, am_U] [] E I J S Q := by
  refine w_st (i' := 1) (ls' := [.ref 61, .ref 12, .int p2, am_U, am_U]) (st' := [.ref 61]) (E' := E) (I' := I) (J' := J) (S' := S) am_e36 rfl rfl rfl rfl ?_
  refine w_st (i' := 2) (ls' := [.ref 61, .ref 12, .int p2, am_U, am_U]) (st' := [.ref 12, .ref 61]) (E' := E) (I' := I) (J' := J) (S' := S) am_e36 rfl rfl rfl rfl ?_
  refine w_st (i' := 3) (ls' := [.ref 61, .ref 12, .int p2, am_U, am_U]) (st' := [.ref 61, .ref 12, .ref 61]) (E' := E) (I' := I) (J' := J) (S' := S) am_e36 rfl rfl rfl rfl ?_
  refine w_st (i' := 4) (ls' := [.ref 61, .ref 12, .int p2, am_U, am_U]) (st' := [.int ((I 61) 6), .ref 12, .ref 61]) (E' := E) (I' := I) (J' := J) (S' := S) am_e36 rfl rfl rfl rfl ?_
  refine w_cI am_e36 rfl rfl (as := [.ref 61, .ref 12, .int ((I 61) 6)]) (rest := []) rfl rfl (am_ww.mono h ?_)
  rintro _ E1 I1 J1 S1 ⟨v1, rfl, h⟩
  refine q_mkI ?_
  refine w_st (i' := 6) (ls' := [.ref 61, .ref 12, .int p2, .int v1, am_U]) (st' := []) (E' := E1) (I' := I1) (J' := J1) (S' := S1) am_e36 rfl rfl rfl rfl ?_
  refine w_st (i' := 7) (ls' := [.ref 61, .ref 12, .int p2, .int v1, am_U]) (st' := [.int v1]) (E' := E1) (I' := I1) (J' := J1) (S' := S1) am_e36 rfl rfl rfl rfl ?_
  refine w_st (i' := 8) (ls' := [.ref 61, .ref 12, .int p2, .int v1, am_U]) (st' := [.int (-1), .int v1]) (E' := E1) (I' := I1) (J' := J1) (S' := S1) am_e36 rfl rfl rfl rfl ?_
  refine w_if2 am_e36 rfl rfl (fun c => ?_) (fun c => ?_)
  · replace h := h.2 (of_decide_eq_true c)
    refine w_st (i' := 11) (ls' := [.ref 61, .ref 12, .int p2, .int v1, am_U]) (st' := [.ref 12]) (E' := E1) (I' := I1) (J' := J1) (S' := S1) am_e36 rfl rfl rfl rfl ?_
    refine w_st (i' := 12) (ls' := [.ref 61, .ref 12, .int p2, .int v1, am_U]) (st' := [.ref 13]) (E' := E1) (I' := I1) (J' := J1) (S' := S1) am_e36 rfl rfl rfl rfl ?_
    refine w_st (i' := 13) (ls' := [.ref 61, .ref 12, .int p2, .int v1, am_U]) (st' := [.int v1, .ref 13]) (E' := E1) (I' := I1) (J' := J1) (S' := S1) am_e36 rfl rfl rfl rfl ?_
    have hf2 := h.1
    replace h := h.2
    refine w_ia (k := 13) (n := 64) (jn := v1.toNatClampNeg) am_e36 rfl rfl (by decide) hf2 rfl ?_
    refine w_st (i' := 15) (ls' := [.ref 61, .ref 12, .int p2, .int v1, .int ((I1 13) v1.toNatClampNeg)]) (st' := []) (E' := E1) (I' := I1) (J' := J1) (S' := S1) am_e36 rfl rfl rfl rfl ?_
    refine w_st (i' := 16) (ls' := [.ref 61, .ref 12, .int p2, .int v1, .int ((I1 13) v1.toNatClampNeg)]) (st' := [.int ((I1 13) v1.toNatClampNeg)]) (E' := E1) (I' := I1) (J' := J1) (S' := S1) am_e36 rfl rfl rfl rfl ?_
    refine w_st (i' := 17) (ls' := [.ref 61, .ref 12, .int p2, .int v1, .int ((I1 13) v1.toNatClampNeg)]) (st' := [.int (nI 15), .int ((I1 13) v1.toNatClampNeg)]) (E' := E1) (I' := I1) (J' := J1) (S' := S1) am_e36 rfl rfl rfl rfl ?_
    refine w_if2 am_e36 rfl rfl (fun c => ?_) (fun c => ?_)
    · replace h := h.1 (of_decide_eq_true c)
      refine w_st (i' := 25) (ls' := [.ref 61, .ref 12, .int p2, .int v1, .int ((I1 13) v1.toNatClampNeg)]) (st' := [.ref 61]) (E' := E1) (I' := I1) (J' := J1) (S' := S1) am_e36 rfl rfl rfl rfl ?_
      refine w_st (i' := 26) (ls' := [.ref 61, .ref 12, .int p2, .int v1, .int ((I1 13) v1.toNatClampNeg)]) (st' := [.ref 12, .ref 61]) (E' := E1) (I' := I1) (J' := J1) (S' := S1) am_e36 rfl rfl rfl rfl ?_
      refine w_st (i' := 27) (ls' := [.ref 61, .ref 12, .int p2, .int v1, .int ((I1 13) v1.toNatClampNeg)]) (st' := [.int v1, .ref 12, .ref 61]) (E' := E1) (I' := I1) (J' := J1) (S' := S1) am_e36 rfl rfl rfl rfl ?_
      refine w_cV am_e36 rfl rfl (as := [.ref 61, .ref 12, .int v1]) (rest := []) rfl rfl (am_ww.mono h ?_)
      rintro _ E3 I3 J3 S3 ⟨rfl, h⟩
      refine q_mkV ?_
      refine w_st (i' := 43) (ls' := [.ref 61, .ref 12, .int p2, .int v1, .int ((I1 13) v1.toNatClampNeg)]) (st' := []) (E' := E3) (I' := I3) (J' := J3) (S' := S3) am_e36 rfl rfl rfl rfl ?_
      exact w_end am_e36 rfl rfl rfl h
    · replace h := h.2 (of_decide_eq_false c)
      refine w_st (i' := 19) (ls' := [.ref 61, .ref 12, .int p2, .int v1, .int ((I1 13) v1.toNatClampNeg)]) (st' := [.int ((I1 13) v1.toNatClampNeg)]) (E' := E1) (I' := I1) (J' := J1) (S' := S1) am_e36 rfl rfl rfl rfl ?_
      refine w_st (i' := 20) (ls' := [.ref 61, .ref 12, .int p2, .int v1, .int ((I1 13) v1.toNatClampNeg)]) (st' := [.int (nI 16), .int ((I1 13) v1.toNatClampNeg)]) (E' := E1) (I' := I1) (J' := J1) (S' := S1) am_e36 rfl rfl rfl rfl ?_
      refine w_if2 am_e36 rfl rfl (fun c => ?_) (fun c => ?_)
      · replace h := h.1 (of_decide_eq_true c)
        refine w_st (i' := 25) (ls' := [.ref 61, .ref 12, .int p2, .int v1, .int ((I1 13) v1.toNatClampNeg)]) (st' := [.ref 61]) (E' := E1) (I' := I1) (J' := J1) (S' := S1) am_e36 rfl rfl rfl rfl ?_
        refine w_st (i' := 26) (ls' := [.ref 61, .ref 12, .int p2, .int v1, .int ((I1 13) v1.toNatClampNeg)]) (st' := [.ref 12, .ref 61]) (E' := E1) (I' := I1) (J' := J1) (S' := S1) am_e36 rfl rfl rfl rfl ?_
        refine w_st (i' := 27) (ls' := [.ref 61, .ref 12, .int p2, .int v1, .int ((I1 13) v1.toNatClampNeg)]) (st' := [.int v1, .ref 12, .ref 61]) (E' := E1) (I' := I1) (J' := J1) (S' := S1) am_e36 rfl rfl rfl rfl ?_
        refine w_cV am_e36 rfl rfl (as := [.ref 61, .ref 12, .int v1]) (rest := []) rfl rfl (am_ww.mono h ?_)
        rintro _ E4 I4 J4 S4 ⟨rfl, h⟩
        refine q_mkV ?_
        refine w_st (i' := 43) (ls' := [.ref 61, .ref 12, .int p2, .int v1, .int ((I1 13) v1.toNatClampNeg)]) (st' := []) (E' := E4) (I' := I4) (J' := J4) (S' := S4) am_e36 rfl rfl rfl rfl ?_
        exact w_end am_e36 rfl rfl rfl h
      · replace h := h.2 (of_decide_eq_false c)
        refine w_st (i' := 22) (ls' := [.ref 61, .ref 12, .int p2, .int v1, .int ((I1 13) v1.toNatClampNeg)]) (st' := [.int ((I1 13) v1.toNatClampNeg)]) (E' := E1) (I' := I1) (J' := J1) (S' := S1) am_e36 rfl rfl rfl rfl ?_
        refine w_st (i' := 23) (ls' := [.ref 61, .ref 12, .int p2, .int v1, .int ((I1 13) v1.toNatClampNeg)]) (st' := [.int (nI 17), .int ((I1 13) v1.toNatClampNeg)]) (E' := E1) (I' := I1) (J' := J1) (S' := S1) am_e36 rfl rfl rfl rfl ?_
        refine w_if2 am_e36 rfl rfl (fun c => ?_) (fun c => ?_)
        · replace h := h.2 (of_decide_eq_true c)
          refine w_st (i' := 30) (ls' := [.ref 61, .ref 12, .int p2, .int v1, .int ((I1 13) v1.toNatClampNeg)]) (st' := [.ref 61]) (E' := E1) (I' := I1) (J' := J1) (S' := S1) am_e36 rfl rfl rfl rfl ?_
          refine w_st (i' := 31) (ls' := [.ref 61, .ref 12, .int p2, .int v1, .int ((I1 13) v1.toNatClampNeg)]) (st' := [.ref 12, .ref 61]) (E' := E1) (I' := I1) (J' := J1) (S' := S1) am_e36 rfl rfl rfl rfl ?_
          refine w_st (i' := 32) (ls' := [.ref 61, .ref 12, .int p2, .int v1, .int ((I1 13) v1.toNatClampNeg)]) (st' := [.int v1, .ref 12, .ref 61]) (E' := E1) (I' := I1) (J' := J1) (S' := S1) am_e36 rfl rfl rfl rfl ?_
          refine w_st (i' := 33) (ls' := [.ref 61, .ref 12, .int p2, .int v1, .int ((I1 13) v1.toNatClampNeg)]) (st' := [.int p2, .int v1, .ref 12, .ref 61]) (E' := E1) (I' := I1) (J' := J1) (S' := S1) am_e36 rfl rfl rfl rfl ?_
          refine w_cV am_e36 rfl rfl (as := [.ref 61, .ref 12, .int v1, .int p2]) (rest := []) rfl rfl (am_ww.mono h ?_)
          rintro _ E5 I5 J5 S5 ⟨rfl, h⟩
          refine q_mkV ?_
          refine w_st (i' := 35) (ls' := [.ref 61, .ref 12, .int p2, .int v1, .int ((I1 13) v1.toNatClampNeg)]) (st' := [.ref 61]) (E' := E5) (I' := I5) (J' := J5) (S' := S5) am_e36 rfl rfl rfl rfl ?_
          refine w_st (i' := 36) (ls' := [.ref 61, .ref 12, .int p2, .int v1, .int ((I1 13) v1.toNatClampNeg)]) (st' := [.ref 64]) (E' := E5) (I' := I5) (J' := J5) (S' := S5) am_e36 rfl rfl rfl rfl ?_
          refine w_st (i' := 37) (ls' := [.ref 61, .ref 12, .int p2, .int v1, .int ((I1 13) v1.toNatClampNeg)]) (st' := [.ref 61, .ref 64]) (E' := E5) (I' := I5) (J' := J5) (S' := S5) am_e36 rfl rfl rfl rfl ?_
          refine w_st (i' := 38) (ls' := [.ref 61, .ref 12, .int p2, .int v1, .int ((I1 13) v1.toNatClampNeg)]) (st' := [.int ((I5 61) 6), .ref 64]) (E' := E5) (I' := I5) (J' := J5) (S' := S5) am_e36 rfl rfl rfl rfl ?_
          refine w_st (i' := 39) (ls' := [.ref 61, .ref 12, .int p2, .int v1, .int ((I1 13) v1.toNatClampNeg)]) (st' := [.int ((I5 61) 6), .ref 64, .int ((I5 61) 6), .ref 64]) (E' := E5) (I' := I5) (J' := J5) (S' := S5) am_e36 rfl rfl rfl rfl ?_
          have hf6 := h.1
          replace h := h.2
          refine w_ia (k := 64) (n := 4) (jn := ((I5 61) 6).toNatClampNeg) am_e36 rfl rfl (by decide) hf6 rfl ?_
          refine w_st (i' := 41) (ls' := [.ref 61, .ref 12, .int p2, .int v1, .int ((I1 13) v1.toNatClampNeg)]) (st' := [.int (nI 1), .int ((I5 64) (((I5 61) 6).toNatClampNeg)), .int ((I5 61) 6), .ref 64]) (E' := E5) (I' := I5) (J' := J5) (S' := S5) am_e36 rfl rfl rfl rfl ?_
          refine w_st (i' := 42) (ls' := [.ref 61, .ref 12, .int p2, .int v1, .int ((I1 13) v1.toNatClampNeg)]) (st' := [.int (((I5 64) (((I5 61) 6).toNatClampNeg)) + (nI 1)), .int ((I5 61) 6), .ref 64]) (E' := E5) (I' := I5) (J' := J5) (S' := S5) am_e36 rfl rfl rfl rfl ?_
          refine w_is (k := 64) (n := 4) (jn := ((I5 61) 6).toNatClampNeg) am_e36 rfl rfl (by decide) hf6 rfl ?_
          show am_ww 36 43 [.ref 61, .ref 12, .int p2, .int v1, .int ((I1 13) v1.toNatClampNeg)] [] E5 (u_I I5 64 (upd (I5 64) (((I5 61) 6).toNatClampNeg) (((I5 64) (((I5 61) 6).toNatClampNeg)) + (nI 1)))) J5 S5 _
          exact w_end am_e36 rfl rfl rfl h
        · replace h := h.1 (Decidable.not_not.mp (of_decide_eq_false c))
          refine w_st (i' := 25) (ls' := [.ref 61, .ref 12, .int p2, .int v1, .int ((I1 13) v1.toNatClampNeg)]) (st' := [.ref 61]) (E' := E1) (I' := I1) (J' := J1) (S' := S1) am_e36 rfl rfl rfl rfl ?_
          refine w_st (i' := 26) (ls' := [.ref 61, .ref 12, .int p2, .int v1, .int ((I1 13) v1.toNatClampNeg)]) (st' := [.ref 12, .ref 61]) (E' := E1) (I' := I1) (J' := J1) (S' := S1) am_e36 rfl rfl rfl rfl ?_
          refine w_st (i' := 27) (ls' := [.ref 61, .ref 12, .int p2, .int v1, .int ((I1 13) v1.toNatClampNeg)]) (st' := [.int v1, .ref 12, .ref 61]) (E' := E1) (I' := I1) (J' := J1) (S' := S1) am_e36 rfl rfl rfl rfl ?_
          refine w_cV am_e36 rfl rfl (as := [.ref 61, .ref 12, .int v1]) (rest := []) rfl rfl (am_ww.mono h ?_)
          rintro _ E7 I7 J7 S7 ⟨rfl, h⟩
          refine q_mkV ?_
          refine w_st (i' := 43) (ls' := [.ref 61, .ref 12, .int p2, .int v1, .int ((I1 13) v1.toNatClampNeg)]) (st' := []) (E' := E7) (I' := I7) (J' := J7) (S' := S7) am_e36 rfl rfl rfl rfl ?_
          exact w_end am_e36 rfl rfl rfl h
  · replace h := h.1 (Decidable.not_not.mp (of_decide_eq_false c))
    exact w_end am_e36 rfl rfl rfl h
-- 37 branch
theorem g37_0_61 {p2 : Int32} {E : am_Ev} {I : Nat → Nat → Int32} {J : Nat → Nat → Int64} {S : Nat → Nat → Option Nat} {Q : am_Qt}  (h : vp_in ((p2 * (nI 3)) + (nI 0)) 192 ∧ (∀ w2 : Int32, w2 = ((I 14) (((p2 * (nI 3)) + (nI 0)).toNatClampNeg)) → (vp_in ((p2 * (nI 3)) + (nI 1)) 192 ∧ (∀ w4 : Int32, w4 = ((I 14) (((p2 * (nI 3)) + (nI 1)).toNatClampNeg)) → (vp_in ((I 61) 6) 4 ∧ (∀ w6 : Int32, w6 = (((I 64) (((I 61) 6).toNatClampNeg)) + (nI 1)) → (vp_in p2 64 ∧ ((((I 13) p2.toNatClampNeg) = nI 15 → (am_ww 37 69 [.ref 61, .ref 12, .int p2, .int (((I 61) 6) * (nI 4)), .int w2, .int w4, .int w2, am_U] [] E I J S Q)) ∧ (((I 13) p2.toNatClampNeg) = nI 16 → (vp_in ((((I 61) 6) * (nI 4)) + w2) 16 ∧ (∀ w10 : Int32, w10 = (if ((I 63) (((((I 61) 6) * (nI 4)) + w2).toNatClampNeg)) = 0 then w4 else w6) → (am_ww 37 69 [.ref 61, .ref 12, .int p2, .int (((I 61) 6) * (nI 4)), .int w2, .int w4, .int w10, am_U] [] E I J S Q)))) ∧ (¬ ((I 13) p2.toNatClampNeg) = nI 15 → ¬ ((I 13) p2.toNatClampNeg) = nI 16 → (vp_in ((((I 61) 6) * (nI 4)) + w2) 16 ∧ (vp_in ((((I 61) 6) * (nI 4)) + w4) 16 ∧ (∀ w14 : Int32, w14 = (if ((I 63) (((((I 61) 6) * (nI 4)) + w4).toNatClampNeg)) ≤ ((I 63) (((((I 61) 6) * (nI 4)) + w2).toNatClampNeg)) then nI 0 else nI 1) → ((w14 = 0 → (am_ww 37 69 [.ref 61, .ref 12, .int p2, .int (((I 61) 6) * (nI 4)), .int w2, .int w4, .int w6, .int w14] [] E I J S Q)) ∧ (¬ w14 = 0 → (vp_in ((p2 * (nI 3)) + (nI 2)) 192 ∧ (∀ w16 : Int32, w16 = ((I 14) (((p2 * (nI 3)) + (nI 2)).toNatClampNeg)) → (am_ww 37 69 [.ref 61, .ref 12, .int p2, .int (((I 61) 6) * (nI 4)), .int w2, .int w4, .int w16, .int w14] [] E I J S Q))))))))))))))))) : am_ww 37 0 [.ref 61, .ref 12, .int p2, am_U, am_U, am_U, am_U, am_U] [] E I J S Q := by
  refine w_st (i' := 1) (ls' := [.ref 61, .ref 12, .int p2, am_U, am_U, am_U, am_U, am_U]) (st' := [.ref 61]) (E' := E) (I' := I) (J' := J) (S' := S) am_e37 rfl rfl rfl rfl ?_
  refine w_st (i' := 2) (ls' := [.ref 61, .ref 12, .int p2, am_U, am_U, am_U, am_U, am_U]) (st' := [.int ((I 61) 6)]) (E' := E) (I' := I) (J' := J) (S' := S) am_e37 rfl rfl rfl rfl ?_
  refine w_st (i' := 3) (ls' := [.ref 61, .ref 12, .int p2, am_U, am_U, am_U, am_U, am_U]) (st' := [.int (nI 4), .int ((I 61) 6)]) (E' := E) (I' := I) (J' := J) (S' := S) am_e37 rfl rfl rfl rfl ?_
  refine w_st (i' := 4) (ls' := [.ref 61, .ref 12, .int p2, am_U, am_U, am_U, am_U, am_U]) (st' := [.int (((I 61) 6) * (nI 4))]) (E' := E) (I' := I) (J' := J) (S' := S) am_e37 rfl rfl rfl rfl ?_
  refine w_st (i' := 5) (ls' := [.ref 61, .ref 12, .int p2, .int (((I 61) 6) * (nI 4)), am_U, am_U, am_U, am_U]) (st' := []) (E' := E) (I' := I) (J' := J) (S' := S) am_e37 rfl rfl rfl rfl ?_
  refine w_st (i' := 6) (ls' := [.ref 61, .ref 12, .int p2, .int (((I 61) 6) * (nI 4)), am_U, am_U, am_U, am_U]) (st' := [.ref 12]) (E' := E) (I' := I) (J' := J) (S' := S) am_e37 rfl rfl rfl rfl ?_
  refine w_st (i' := 7) (ls' := [.ref 61, .ref 12, .int p2, .int (((I 61) 6) * (nI 4)), am_U, am_U, am_U, am_U]) (st' := [.int p2, .ref 12]) (E' := E) (I' := I) (J' := J) (S' := S) am_e37 rfl rfl rfl rfl ?_
  refine w_st (i' := 8) (ls' := [.ref 61, .ref 12, .int p2, .int (((I 61) 6) * (nI 4)), am_U, am_U, am_U, am_U]) (st' := [.int (nI 0), .int p2, .ref 12]) (E' := E) (I' := I) (J' := J) (S' := S) am_e37 rfl rfl rfl rfl ?_
  refine w_cI am_e37 rfl rfl (as := [.ref 12, .int p2, .int (nI 0)]) (rest := []) rfl rfl ?_
  show am_ww 26 0 [.ref 12, .int p2, .int (nI 0)] [] E I J S _
  refine w_st (i' := 1) (ls' := [.ref 12, .int p2, .int (nI 0)]) (st' := [.ref 12]) (E' := E) (I' := I) (J' := J) (S' := S) am_e26 rfl rfl rfl rfl ?_
  refine w_st (i' := 2) (ls' := [.ref 12, .int p2, .int (nI 0)]) (st' := [.ref 14]) (E' := E) (I' := I) (J' := J) (S' := S) am_e26 rfl rfl rfl rfl ?_
  refine w_st (i' := 3) (ls' := [.ref 12, .int p2, .int (nI 0)]) (st' := [.int p2, .ref 14]) (E' := E) (I' := I) (J' := J) (S' := S) am_e26 rfl rfl rfl rfl ?_
  refine w_st (i' := 4) (ls' := [.ref 12, .int p2, .int (nI 0)]) (st' := [.int (nI 3), .int p2, .ref 14]) (E' := E) (I' := I) (J' := J) (S' := S) am_e26 rfl rfl rfl rfl ?_
  refine w_st (i' := 5) (ls' := [.ref 12, .int p2, .int (nI 0)]) (st' := [.int (p2 * (nI 3)), .ref 14]) (E' := E) (I' := I) (J' := J) (S' := S) am_e26 rfl rfl rfl rfl ?_
  refine w_st (i' := 6) (ls' := [.ref 12, .int p2, .int (nI 0)]) (st' := [.int (nI 0), .int (p2 * (nI 3)), .ref 14]) (E' := E) (I' := I) (J' := J) (S' := S) am_e26 rfl rfl rfl rfl ?_
  refine w_st (i' := 7) (ls' := [.ref 12, .int p2, .int (nI 0)]) (st' := [.int ((p2 * (nI 3)) + (nI 0)), .ref 14]) (E' := E) (I' := I) (J' := J) (S' := S) am_e26 rfl rfl rfl rfl ?_
  have hf1 := h.1
  replace h := h.2
  refine w_ia (k := 14) (n := 192) (jn := ((p2 * (nI 3)) + (nI 0)).toNatClampNeg) am_e26 rfl rfl (by decide) hf1 rfl ?_
  refine w_ri am_e26 rfl rfl (q_mkI ?_)
  show am_ww 37 9 [.ref 61, .ref 12, .int p2, .int (((I 61) 6) * (nI 4)), am_U, am_U, am_U, am_U] [.int ((I 14) (((p2 * (nI 3)) + (nI 0)).toNatClampNeg))] E I J S _
  refine w_var (fun w2 => am_ww 37 9 [.ref 61, .ref 12, .int p2, .int (((I 61) 6) * (nI 4)), am_U, am_U, am_U, am_U] [.int w2] E I J S _) ((I 14) (((p2 * (nI 3)) + (nI 0)).toNatClampNeg)) (fun w2 hw2 => ?_)
  replace h := h w2 hw2
  refine w_st (i' := 10) (ls' := [.ref 61, .ref 12, .int p2, .int (((I 61) 6) * (nI 4)), .int w2, am_U, am_U, am_U]) (st' := []) (E' := E) (I' := I) (J' := J) (S' := S) am_e37 rfl rfl rfl rfl ?_
  refine w_st (i' := 11) (ls' := [.ref 61, .ref 12, .int p2, .int (((I 61) 6) * (nI 4)), .int w2, am_U, am_U, am_U]) (st' := [.ref 12]) (E' := E) (I' := I) (J' := J) (S' := S) am_e37 rfl rfl rfl rfl ?_
  refine w_st (i' := 12) (ls' := [.ref 61, .ref 12, .int p2, .int (((I 61) 6) * (nI 4)), .int w2, am_U, am_U, am_U]) (st' := [.int p2, .ref 12]) (E' := E) (I' := I) (J' := J) (S' := S) am_e37 rfl rfl rfl rfl ?_
  refine w_st (i' := 13) (ls' := [.ref 61, .ref 12, .int p2, .int (((I 61) 6) * (nI 4)), .int w2, am_U, am_U, am_U]) (st' := [.int (nI 1), .int p2, .ref 12]) (E' := E) (I' := I) (J' := J) (S' := S) am_e37 rfl rfl rfl rfl ?_
  refine w_cI am_e37 rfl rfl (as := [.ref 12, .int p2, .int (nI 1)]) (rest := []) rfl rfl ?_
  show am_ww 26 0 [.ref 12, .int p2, .int (nI 1)] [] E I J S _
  refine w_st (i' := 1) (ls' := [.ref 12, .int p2, .int (nI 1)]) (st' := [.ref 12]) (E' := E) (I' := I) (J' := J) (S' := S) am_e26 rfl rfl rfl rfl ?_
  refine w_st (i' := 2) (ls' := [.ref 12, .int p2, .int (nI 1)]) (st' := [.ref 14]) (E' := E) (I' := I) (J' := J) (S' := S) am_e26 rfl rfl rfl rfl ?_
  refine w_st (i' := 3) (ls' := [.ref 12, .int p2, .int (nI 1)]) (st' := [.int p2, .ref 14]) (E' := E) (I' := I) (J' := J) (S' := S) am_e26 rfl rfl rfl rfl ?_
  refine w_st (i' := 4) (ls' := [.ref 12, .int p2, .int (nI 1)]) (st' := [.int (nI 3), .int p2, .ref 14]) (E' := E) (I' := I) (J' := J) (S' := S) am_e26 rfl rfl rfl rfl ?_
  refine w_st (i' := 5) (ls' := [.ref 12, .int p2, .int (nI 1)]) (st' := [.int (p2 * (nI 3)), .ref 14]) (E' := E) (I' := I) (J' := J) (S' := S) am_e26 rfl rfl rfl rfl ?_
  refine w_st (i' := 6) (ls' := [.ref 12, .int p2, .int (nI 1)]) (st' := [.int (nI 1), .int (p2 * (nI 3)), .ref 14]) (E' := E) (I' := I) (J' := J) (S' := S) am_e26 rfl rfl rfl rfl ?_
  refine w_st (i' := 7) (ls' := [.ref 12, .int p2, .int (nI 1)]) (st' := [.int ((p2 * (nI 3)) + (nI 1)), .ref 14]) (E' := E) (I' := I) (J' := J) (S' := S) am_e26 rfl rfl rfl rfl ?_
  have hf3 := h.1
  replace h := h.2
  refine w_ia (k := 14) (n := 192) (jn := ((p2 * (nI 3)) + (nI 1)).toNatClampNeg) am_e26 rfl rfl (by decide) hf3 rfl ?_
  refine w_ri am_e26 rfl rfl (q_mkI ?_)
  show am_ww 37 14 [.ref 61, .ref 12, .int p2, .int (((I 61) 6) * (nI 4)), .int w2, am_U, am_U, am_U] [.int ((I 14) (((p2 * (nI 3)) + (nI 1)).toNatClampNeg))] E I J S _
  refine w_var (fun w4 => am_ww 37 14 [.ref 61, .ref 12, .int p2, .int (((I 61) 6) * (nI 4)), .int w2, am_U, am_U, am_U] [.int w4] E I J S _) ((I 14) (((p2 * (nI 3)) + (nI 1)).toNatClampNeg)) (fun w4 hw4 => ?_)
  replace h := h w4 hw4
  refine w_st (i' := 15) (ls' := [.ref 61, .ref 12, .int p2, .int (((I 61) 6) * (nI 4)), .int w2, .int w4, am_U, am_U]) (st' := []) (E' := E) (I' := I) (J' := J) (S' := S) am_e37 rfl rfl rfl rfl ?_
  refine w_st (i' := 16) (ls' := [.ref 61, .ref 12, .int p2, .int (((I 61) 6) * (nI 4)), .int w2, .int w4, am_U, am_U]) (st' := [.ref 61]) (E' := E) (I' := I) (J' := J) (S' := S) am_e37 rfl rfl rfl rfl ?_
  refine w_st (i' := 17) (ls' := [.ref 61, .ref 12, .int p2, .int (((I 61) 6) * (nI 4)), .int w2, .int w4, am_U, am_U]) (st' := [.ref 64]) (E' := E) (I' := I) (J' := J) (S' := S) am_e37 rfl rfl rfl rfl ?_
  refine w_st (i' := 18) (ls' := [.ref 61, .ref 12, .int p2, .int (((I 61) 6) * (nI 4)), .int w2, .int w4, am_U, am_U]) (st' := [.ref 61, .ref 64]) (E' := E) (I' := I) (J' := J) (S' := S) am_e37 rfl rfl rfl rfl ?_
  refine w_st (i' := 19) (ls' := [.ref 61, .ref 12, .int p2, .int (((I 61) 6) * (nI 4)), .int w2, .int w4, am_U, am_U]) (st' := [.int ((I 61) 6), .ref 64]) (E' := E) (I' := I) (J' := J) (S' := S) am_e37 rfl rfl rfl rfl ?_
  have hf5 := h.1
  replace h := h.2
  refine w_ia (k := 64) (n := 4) (jn := ((I 61) 6).toNatClampNeg) am_e37 rfl rfl (by decide) hf5 rfl ?_
  refine w_st (i' := 21) (ls' := [.ref 61, .ref 12, .int p2, .int (((I 61) 6) * (nI 4)), .int w2, .int w4, am_U, am_U]) (st' := [.int (nI 1), .int ((I 64) (((I 61) 6).toNatClampNeg))]) (E' := E) (I' := I) (J' := J) (S' := S) am_e37 rfl rfl rfl rfl ?_
  refine w_st (i' := 22) (ls' := [.ref 61, .ref 12, .int p2, .int (((I 61) 6) * (nI 4)), .int w2, .int w4, am_U, am_U]) (st' := [.int (((I 64) (((I 61) 6).toNatClampNeg)) + (nI 1))]) (E' := E) (I' := I) (J' := J) (S' := S) am_e37 rfl rfl rfl rfl ?_
  refine w_st (i' := 23) (ls' := [.ref 61, .ref 12, .int p2, .int (((I 61) 6) * (nI 4)), .int w2, .int w4, .int (((I 64) (((I 61) 6).toNatClampNeg)) + (nI 1)), am_U]) (st' := []) (E' := E) (I' := I) (J' := J) (S' := S) am_e37 rfl rfl rfl rfl ?_
  refine w_var (fun w6 => am_ww 37 23 [.ref 61, .ref 12, .int p2, .int (((I 61) 6) * (nI 4)), .int w2, .int w4, .int w6, am_U] [] E I J S _) (((I 64) (((I 61) 6).toNatClampNeg)) + (nI 1)) (fun w6 hw6 => ?_)
  replace h := h w6 hw6
  refine w_st (i' := 24) (ls' := [.ref 61, .ref 12, .int p2, .int (((I 61) 6) * (nI 4)), .int w2, .int w4, .int w6, am_U]) (st' := [.ref 12]) (E' := E) (I' := I) (J' := J) (S' := S) am_e37 rfl rfl rfl rfl ?_
  refine w_st (i' := 25) (ls' := [.ref 61, .ref 12, .int p2, .int (((I 61) 6) * (nI 4)), .int w2, .int w4, .int w6, am_U]) (st' := [.ref 13]) (E' := E) (I' := I) (J' := J) (S' := S) am_e37 rfl rfl rfl rfl ?_
  refine w_st (i' := 26) (ls' := [.ref 61, .ref 12, .int p2, .int (((I 61) 6) * (nI 4)), .int w2, .int w4, .int w6, am_U]) (st' := [.int p2, .ref 13]) (E' := E) (I' := I) (J' := J) (S' := S) am_e37 rfl rfl rfl rfl ?_
  have hf7 := h.1
  replace h := h.2
  refine w_ia (k := 13) (n := 64) (jn := p2.toNatClampNeg) am_e37 rfl rfl (by decide) hf7 rfl ?_
  refine w_lk am_e37 rfl ?_
  by_cases c15 : ((I 13) p2.toNatClampNeg) = nI 15
  · replace h := h.1 c15
    refine w_to (i2 := 28) (by rw [c15]; first | done | rfl) ?_
    refine w_st (i' := 29) (ls' := [.ref 61, .ref 12, .int p2, .int (((I 61) 6) * (nI 4)), .int w2, .int w4, .int w6, am_U]) (st' := [.int w2]) (E' := E) (I' := I) (J' := J) (S' := S) am_e37 rfl rfl rfl rfl ?_
    refine w_st (i' := 30) (ls' := [.ref 61, .ref 12, .int p2, .int (((I 61) 6) * (nI 4)), .int w2, .int w4, .int w2, am_U]) (st' := []) (E' := E) (I' := I) (J' := J) (S' := S) am_e37 rfl rfl rfl rfl ?_
    refine w_st (i' := 69) (ls' := [.ref 61, .ref 12, .int p2, .int (((I 61) 6) * (nI 4)), .int w2, .int w4, .int w2, am_U]) (st' := []) (E' := E) (I' := I) (J' := J) (S' := S) am_e37 rfl rfl rfl rfl ?_
    exact h
  by_cases c16 : ((I 13) p2.toNatClampNeg) = nI 16
  · replace h := h.2.1 c16
    refine w_to (i2 := 31) (by rw [c16]; first | done | rfl) ?_
    refine w_st (i' := 32) (ls' := [.ref 61, .ref 12, .int p2, .int (((I 61) 6) * (nI 4)), .int w2, .int w4, .int w6, am_U]) (st' := [.ref 61]) (E' := E) (I' := I) (J' := J) (S' := S) am_e37 rfl rfl rfl rfl ?_
    refine w_st (i' := 33) (ls' := [.ref 61, .ref 12, .int p2, .int (((I 61) 6) * (nI 4)), .int w2, .int w4, .int w6, am_U]) (st' := [.ref 63]) (E' := E) (I' := I) (J' := J) (S' := S) am_e37 rfl rfl rfl rfl ?_
    refine w_st (i' := 34) (ls' := [.ref 61, .ref 12, .int p2, .int (((I 61) 6) * (nI 4)), .int w2, .int w4, .int w6, am_U]) (st' := [.int (((I 61) 6) * (nI 4)), .ref 63]) (E' := E) (I' := I) (J' := J) (S' := S) am_e37 rfl rfl rfl rfl ?_
    refine w_st (i' := 35) (ls' := [.ref 61, .ref 12, .int p2, .int (((I 61) 6) * (nI 4)), .int w2, .int w4, .int w6, am_U]) (st' := [.int w2, .int (((I 61) 6) * (nI 4)), .ref 63]) (E' := E) (I' := I) (J' := J) (S' := S) am_e37 rfl rfl rfl rfl ?_
    refine w_st (i' := 36) (ls' := [.ref 61, .ref 12, .int p2, .int (((I 61) 6) * (nI 4)), .int w2, .int w4, .int w6, am_U]) (st' := [.int ((((I 61) 6) * (nI 4)) + w2), .ref 63]) (E' := E) (I' := I) (J' := J) (S' := S) am_e37 rfl rfl rfl rfl ?_
    have hf8 := h.1
    replace h := h.2
    refine w_ia (k := 63) (n := 16) (jn := ((((I 61) 6) * (nI 4)) + w2).toNatClampNeg) am_e37 rfl rfl (by decide) hf8 rfl ?_
    refine w_mg (i := 41) (ls' := [.ref 61, .ref 12, .int p2, .int (((I 61) 6) * (nI 4)), .int w2, .int w4, .int w6, am_U]) (st' := [.int (if ((I 63) (((((I 61) 6) * (nI 4)) + w2).toNatClampNeg)) = 0 then w4 else w6)]) (fun hm => ?_) ?_
    · clear h
      refine w_if1 am_e37 rfl rfl (fun c => ?_) (fun c => ?_)
      · have m9 : ¬ (((I 63) (((((I 61) 6) * (nI 4)) + w2).toNatClampNeg)) = 0) := (of_decide_eq_true c)
        refine w_st (i' := 41) (ls' := [.ref 61, .ref 12, .int p2, .int (((I 61) 6) * (nI 4)), .int w2, .int w4, .int w6, am_U]) (st' := [.int w6]) (E' := E) (I' := I) (J' := J) (S' := S) am_e37 rfl rfl rfl rfl ?_
        first | exact hm | (simp only [if_neg m9] at hm; exact hm)
      · have m9 : ((I 63) (((((I 61) 6) * (nI 4)) + w2).toNatClampNeg)) = 0 := (Decidable.not_not.mp (of_decide_eq_false c))
        refine w_st (i' := 39) (ls' := [.ref 61, .ref 12, .int p2, .int (((I 61) 6) * (nI 4)), .int w2, .int w4, .int w6, am_U]) (st' := [.int w4]) (E' := E) (I' := I) (J' := J) (S' := S) am_e37 rfl rfl rfl rfl ?_
        refine w_st (i' := 41) (ls' := [.ref 61, .ref 12, .int p2, .int (((I 61) 6) * (nI 4)), .int w2, .int w4, .int w6, am_U]) (st' := [.int w4]) (E' := E) (I' := I) (J' := J) (S' := S) am_e37 rfl rfl rfl rfl ?_
        first | exact hm | (simp only [if_pos m9] at hm; exact hm)
    refine w_var (fun w10 => am_ww 37 41 [.ref 61, .ref 12, .int p2, .int (((I 61) 6) * (nI 4)), .int w2, .int w4, .int w6, am_U] [.int w10] E I J S _) (if ((I 63) (((((I 61) 6) * (nI 4)) + w2).toNatClampNeg)) = 0 then w4 else w6) (fun w10 hw10 => ?_)
    replace h := h w10 hw10
    refine w_st (i' := 42) (ls' := [.ref 61, .ref 12, .int p2, .int (((I 61) 6) * (nI 4)), .int w2, .int w4, .int w10, am_U]) (st' := []) (E' := E) (I' := I) (J' := J) (S' := S) am_e37 rfl rfl rfl rfl ?_
    refine w_st (i' := 69) (ls' := [.ref 61, .ref 12, .int p2, .int (((I 61) 6) * (nI 4)), .int w2, .int w4, .int w10, am_U]) (st' := []) (E' := E) (I' := I) (J' := J) (S' := S) am_e37 rfl rfl rfl rfl ?_
    exact h
  replace h := h.2.2 c15 c16
  refine w_to (i2 := 43) (am_lk_out (by intro q h1; have : q = 15 ∨ q = 16 := (by simpa using h1); rcases this with rfl | rfl <;> assumption)) ?_
  refine w_st (i' := 44) (ls' := [.ref 61, .ref 12, .int p2, .int (((I 61) 6) * (nI 4)), .int w2, .int w4, .int w6, am_U]) (st' := [.ref 61]) (E' := E) (I' := I) (J' := J) (S' := S) am_e37 rfl rfl rfl rfl ?_
  refine w_st (i' := 45) (ls' := [.ref 61, .ref 12, .int p2, .int (((I 61) 6) * (nI 4)), .int w2, .int w4, .int w6, am_U]) (st' := [.ref 63]) (E' := E) (I' := I) (J' := J) (S' := S) am_e37 rfl rfl rfl rfl ?_
  refine w_st (i' := 46) (ls' := [.ref 61, .ref 12, .int p2, .int (((I 61) 6) * (nI 4)), .int w2, .int w4, .int w6, am_U]) (st' := [.int (((I 61) 6) * (nI 4)), .ref 63]) (E' := E) (I' := I) (J' := J) (S' := S) am_e37 rfl rfl rfl rfl ?_
  refine w_st (i' := 47) (ls' := [.ref 61, .ref 12, .int p2, .int (((I 61) 6) * (nI 4)), .int w2, .int w4, .int w6, am_U]) (st' := [.int w2, .int (((I 61) 6) * (nI 4)), .ref 63]) (E' := E) (I' := I) (J' := J) (S' := S) am_e37 rfl rfl rfl rfl ?_
  refine w_st (i' := 48) (ls' := [.ref 61, .ref 12, .int p2, .int (((I 61) 6) * (nI 4)), .int w2, .int w4, .int w6, am_U]) (st' := [.int ((((I 61) 6) * (nI 4)) + w2), .ref 63]) (E' := E) (I' := I) (J' := J) (S' := S) am_e37 rfl rfl rfl rfl ?_
  have hf11 := h.1
  replace h := h.2
  refine w_ia (k := 63) (n := 16) (jn := ((((I 61) 6) * (nI 4)) + w2).toNatClampNeg) am_e37 rfl rfl (by decide) hf11 rfl ?_
  refine w_st (i' := 50) (ls' := [.ref 61, .ref 12, .int p2, .int (((I 61) 6) * (nI 4)), .int w2, .int w4, .int w6, am_U]) (st' := [.ref 61, .int ((I 63) (((((I 61) 6) * (nI 4)) + w2).toNatClampNeg))]) (E' := E) (I' := I) (J' := J) (S' := S) am_e37 rfl rfl rfl rfl ?_
  refine w_st (i' := 51) (ls' := [.ref 61, .ref 12, .int p2, .int (((I 61) 6) * (nI 4)), .int w2, .int w4, .int w6, am_U]) (st' := [.ref 63, .int ((I 63) (((((I 61) 6) * (nI 4)) + w2).toNatClampNeg))]) (E' := E) (I' := I) (J' := J) (S' := S) am_e37 rfl rfl rfl rfl ?_
  refine w_st (i' := 52) (ls' := [.ref 61, .ref 12, .int p2, .int (((I 61) 6) * (nI 4)), .int w2, .int w4, .int w6, am_U]) (st' := [.int (((I 61) 6) * (nI 4)), .ref 63, .int ((I 63) (((((I 61) 6) * (nI 4)) + w2).toNatClampNeg))]) (E' := E) (I' := I) (J' := J) (S' := S) am_e37 rfl rfl rfl rfl ?_
  refine w_st (i' := 53) (ls' := [.ref 61, .ref 12, .int p2, .int (((I 61) 6) * (nI 4)), .int w2, .int w4, .int w6, am_U]) (st' := [.int w4, .int (((I 61) 6) * (nI 4)), .ref 63, .int ((I 63) (((((I 61) 6) * (nI 4)) + w2).toNatClampNeg))]) (E' := E) (I' := I) (J' := J) (S' := S) am_e37 rfl rfl rfl rfl ?_
  refine w_st (i' := 54) (ls' := [.ref 61, .ref 12, .int p2, .int (((I 61) 6) * (nI 4)), .int w2, .int w4, .int w6, am_U]) (st' := [.int ((((I 61) 6) * (nI 4)) + w4), .ref 63, .int ((I 63) (((((I 61) 6) * (nI 4)) + w2).toNatClampNeg))]) (E' := E) (I' := I) (J' := J) (S' := S) am_e37 rfl rfl rfl rfl ?_
  have hf12 := h.1
  replace h := h.2
  refine w_ia (k := 63) (n := 16) (jn := ((((I 61) 6) * (nI 4)) + w4).toNatClampNeg) am_e37 rfl rfl (by decide) hf12 rfl ?_
  refine w_mg (i := 59) (ls' := [.ref 61, .ref 12, .int p2, .int (((I 61) 6) * (nI 4)), .int w2, .int w4, .int w6, am_U]) (st' := [.int (if ((I 63) (((((I 61) 6) * (nI 4)) + w4).toNatClampNeg)) ≤ ((I 63) (((((I 61) 6) * (nI 4)) + w2).toNatClampNeg)) then nI 0 else nI 1)]) (fun hm => ?_) ?_
  · clear h
    refine w_if2 am_e37 rfl rfl (fun c => ?_) (fun c => ?_)
    · have m13 : ((I 63) (((((I 61) 6) * (nI 4)) + w4).toNatClampNeg)) ≤ ((I 63) (((((I 61) 6) * (nI 4)) + w2).toNatClampNeg)) := (of_decide_eq_true c)
      refine w_st (i' := 59) (ls' := [.ref 61, .ref 12, .int p2, .int (((I 61) 6) * (nI 4)), .int w2, .int w4, .int w6, am_U]) (st' := [.int (nI 0)]) (E' := E) (I' := I) (J' := J) (S' := S) am_e37 rfl rfl rfl rfl ?_
      first | exact hm | (simp only [if_pos m13] at hm; exact hm)
    · have m13 : ¬ (((I 63) (((((I 61) 6) * (nI 4)) + w4).toNatClampNeg)) ≤ ((I 63) (((((I 61) 6) * (nI 4)) + w2).toNatClampNeg))) := (of_decide_eq_false c)
      refine w_st (i' := 57) (ls' := [.ref 61, .ref 12, .int p2, .int (((I 61) 6) * (nI 4)), .int w2, .int w4, .int w6, am_U]) (st' := [.int (nI 1)]) (E' := E) (I' := I) (J' := J) (S' := S) am_e37 rfl rfl rfl rfl ?_
      refine w_st (i' := 59) (ls' := [.ref 61, .ref 12, .int p2, .int (((I 61) 6) * (nI 4)), .int w2, .int w4, .int w6, am_U]) (st' := [.int (nI 1)]) (E' := E) (I' := I) (J' := J) (S' := S) am_e37 rfl rfl rfl rfl ?_
      first | exact hm | (simp only [if_neg m13] at hm; exact hm)
  refine w_var (fun w14 => am_ww 37 59 [.ref 61, .ref 12, .int p2, .int (((I 61) 6) * (nI 4)), .int w2, .int w4, .int w6, am_U] [.int w14] E I J S _) (if ((I 63) (((((I 61) 6) * (nI 4)) + w4).toNatClampNeg)) ≤ ((I 63) (((((I 61) 6) * (nI 4)) + w2).toNatClampNeg)) then nI 0 else nI 1) (fun w14 hw14 => ?_)
  replace h := h w14 hw14
  refine w_st (i' := 60) (ls' := [.ref 61, .ref 12, .int p2, .int (((I 61) 6) * (nI 4)), .int w2, .int w4, .int w6, .int w14]) (st' := []) (E' := E) (I' := I) (J' := J) (S' := S) am_e37 rfl rfl rfl rfl ?_
  refine w_st (i' := 61) (ls' := [.ref 61, .ref 12, .int p2, .int (((I 61) 6) * (nI 4)), .int w2, .int w4, .int w6, .int w14]) (st' := [.int w14]) (E' := E) (I' := I) (J' := J) (S' := S) am_e37 rfl rfl rfl rfl ?_
  refine w_if1 am_e37 rfl rfl (fun c => ?_) (fun c => ?_)
  · replace h := h.1 (of_decide_eq_true c)
    refine w_st (i' := 68) (ls' := [.ref 61, .ref 12, .int p2, .int (((I 61) 6) * (nI 4)), .int w2, .int w4, .int w6, .int w14]) (st' := [.int w6]) (E' := E) (I' := I) (J' := J) (S' := S) am_e37 rfl rfl rfl rfl ?_
    refine w_st (i' := 69) (ls' := [.ref 61, .ref 12, .int p2, .int (((I 61) 6) * (nI 4)), .int w2, .int w4, .int w6, .int w14]) (st' := []) (E' := E) (I' := I) (J' := J) (S' := S) am_e37 rfl rfl rfl rfl ?_
    exact h
  · replace h := h.2 (of_decide_eq_false c)
    refine w_st (i' := 63) (ls' := [.ref 61, .ref 12, .int p2, .int (((I 61) 6) * (nI 4)), .int w2, .int w4, .int w6, .int w14]) (st' := [.ref 12]) (E' := E) (I' := I) (J' := J) (S' := S) am_e37 rfl rfl rfl rfl ?_
    refine w_st (i' := 64) (ls' := [.ref 61, .ref 12, .int p2, .int (((I 61) 6) * (nI 4)), .int w2, .int w4, .int w6, .int w14]) (st' := [.int p2, .ref 12]) (E' := E) (I' := I) (J' := J) (S' := S) am_e37 rfl rfl rfl rfl ?_
    refine w_st (i' := 65) (ls' := [.ref 61, .ref 12, .int p2, .int (((I 61) 6) * (nI 4)), .int w2, .int w4, .int w6, .int w14]) (st' := [.int (nI 2), .int p2, .ref 12]) (E' := E) (I' := I) (J' := J) (S' := S) am_e37 rfl rfl rfl rfl ?_
    refine w_cI am_e37 rfl rfl (as := [.ref 12, .int p2, .int (nI 2)]) (rest := []) rfl rfl ?_
    show am_ww 26 0 [.ref 12, .int p2, .int (nI 2)] [] E I J S _
    refine w_st (i' := 1) (ls' := [.ref 12, .int p2, .int (nI 2)]) (st' := [.ref 12]) (E' := E) (I' := I) (J' := J) (S' := S) am_e26 rfl rfl rfl rfl ?_
    refine w_st (i' := 2) (ls' := [.ref 12, .int p2, .int (nI 2)]) (st' := [.ref 14]) (E' := E) (I' := I) (J' := J) (S' := S) am_e26 rfl rfl rfl rfl ?_
    refine w_st (i' := 3) (ls' := [.ref 12, .int p2, .int (nI 2)]) (st' := [.int p2, .ref 14]) (E' := E) (I' := I) (J' := J) (S' := S) am_e26 rfl rfl rfl rfl ?_
    refine w_st (i' := 4) (ls' := [.ref 12, .int p2, .int (nI 2)]) (st' := [.int (nI 3), .int p2, .ref 14]) (E' := E) (I' := I) (J' := J) (S' := S) am_e26 rfl rfl rfl rfl ?_
    refine w_st (i' := 5) (ls' := [.ref 12, .int p2, .int (nI 2)]) (st' := [.int (p2 * (nI 3)), .ref 14]) (E' := E) (I' := I) (J' := J) (S' := S) am_e26 rfl rfl rfl rfl ?_
    refine w_st (i' := 6) (ls' := [.ref 12, .int p2, .int (nI 2)]) (st' := [.int (nI 2), .int (p2 * (nI 3)), .ref 14]) (E' := E) (I' := I) (J' := J) (S' := S) am_e26 rfl rfl rfl rfl ?_
    refine w_st (i' := 7) (ls' := [.ref 12, .int p2, .int (nI 2)]) (st' := [.int ((p2 * (nI 3)) + (nI 2)), .ref 14]) (E' := E) (I' := I) (J' := J) (S' := S) am_e26 rfl rfl rfl rfl ?_
    have hf15 := h.1
    replace h := h.2
    refine w_ia (k := 14) (n := 192) (jn := ((p2 * (nI 3)) + (nI 2)).toNatClampNeg) am_e26 rfl rfl (by decide) hf15 rfl ?_
    refine w_ri am_e26 rfl rfl (q_mkI ?_)
    show am_ww 37 66 [.ref 61, .ref 12, .int p2, .int (((I 61) 6) * (nI 4)), .int w2, .int w4, .int w6, .int w14] [.int ((I 14) (((p2 * (nI 3)) + (nI 2)).toNatClampNeg))] E I J S _
    refine w_var (fun w16 => am_ww 37 66 [.ref 61, .ref 12, .int p2, .int (((I 61) 6) * (nI 4)), .int w2, .int w4, .int w6, .int w14] [.int w16] E I J S _) ((I 14) (((p2 * (nI 3)) + (nI 2)).toNatClampNeg)) (fun w16 hw16 => ?_)
    replace h := h w16 hw16
    refine w_st (i' := 68) (ls' := [.ref 61, .ref 12, .int p2, .int (((I 61) 6) * (nI 4)), .int w2, .int w4, .int w6, .int w14]) (st' := [.int w16]) (E' := E) (I' := I) (J' := J) (S' := S) am_e37 rfl rfl rfl rfl ?_
    refine w_st (i' := 69) (ls' := [.ref 61, .ref 12, .int p2, .int (((I 61) 6) * (nI 4)), .int w2, .int w4, .int w16, .int w14]) (st' := []) (E' := E) (I' := I) (J' := J) (S' := S) am_e37 rfl rfl rfl rfl ?_
    exact h
theorem g37_69_61 {d1 : Value} {d2 : Value} {d3 : Value} {d4 : Value} {d5 : Value} {x6 : Int32} {d7 : Value} {E : am_Ev} {I : Nat → Nat → Int32} {J : Nat → Nat → Int64} {S : Nat → Nat → Option Nat} {Q : am_Qt} (hd1 : am_isL d1 = false) (hd2 : am_isL d2 = false) (hd3 : am_isL d3 = false) (hd4 : am_isL d4 = false) (hd5 : am_isL d5 = false) (hd7 : am_isL d7 = false) (h : vp_in ((I 61) 6) 4 ∧ (Q (.inl none) E (u_I (u_I I 64 (upd (I 64) (((I 61) 6).toNatClampNeg) x6)) 65 (upd (I 65) (((I 61) 6).toNatClampNeg) (((I 65) (((I 61) 6).toNatClampNeg)) + (nI 1)))) J S)) : am_ww 37 69 [.ref 61, d1, d2, d3, d4, d5, .int x6, d7] [] E I J S Q := by
  refine w_st (i' := 70) (ls' := [.ref 61, d1, d2, d3, d4, d5, .int x6, d7]) (st' := [.ref 61]) (E' := E) (I' := I) (J' := J) (S' := S) am_e37 rfl rfl rfl rfl ?_
  refine w_st (i' := 71) (ls' := [.ref 61, d1, d2, d3, d4, d5, .int x6, d7]) (st' := [.ref 64]) (E' := E) (I' := I) (J' := J) (S' := S) am_e37 rfl rfl rfl rfl ?_
  refine w_st (i' := 72) (ls' := [.ref 61, d1, d2, d3, d4, d5, .int x6, d7]) (st' := [.ref 61, .ref 64]) (E' := E) (I' := I) (J' := J) (S' := S) am_e37 rfl rfl rfl rfl ?_
  refine w_st (i' := 73) (ls' := [.ref 61, d1, d2, d3, d4, d5, .int x6, d7]) (st' := [.int ((I 61) 6), .ref 64]) (E' := E) (I' := I) (J' := J) (S' := S) am_e37 rfl rfl rfl rfl ?_
  refine w_st (i' := 74) (ls' := [.ref 61, d1, d2, d3, d4, d5, .int x6, d7]) (st' := [.int x6, .int ((I 61) 6), .ref 64]) (E' := E) (I' := I) (J' := J) (S' := S) am_e37 rfl rfl rfl rfl ?_
  have hf1 := h.1
  replace h := h.2
  refine w_is (k := 64) (n := 4) (jn := ((I 61) 6).toNatClampNeg) am_e37 rfl rfl (by decide) hf1 rfl ?_
  show am_ww 37 75 [.ref 61, d1, d2, d3, d4, d5, .int x6, d7] [] E (u_I I 64 (upd (I 64) (((I 61) 6).toNatClampNeg) x6)) J S _
  refine w_st (i' := 76) (ls' := [.ref 61, d1, d2, d3, d4, d5, .int x6, d7]) (st' := [.ref 61]) (E' := E) (I' := (u_I I 64 (upd (I 64) (((I 61) 6).toNatClampNeg) x6))) (J' := J) (S' := S) am_e37 rfl rfl rfl rfl ?_
  refine w_st (i' := 77) (ls' := [.ref 61, d1, d2, d3, d4, d5, .int x6, d7]) (st' := [.ref 65]) (E' := E) (I' := (u_I I 64 (upd (I 64) (((I 61) 6).toNatClampNeg) x6))) (J' := J) (S' := S) am_e37 rfl rfl rfl rfl ?_
  refine w_st (i' := 78) (ls' := [.ref 61, d1, d2, d3, d4, d5, .int x6, d7]) (st' := [.ref 61, .ref 65]) (E' := E) (I' := (u_I I 64 (upd (I 64) (((I 61) 6).toNatClampNeg) x6))) (J' := J) (S' := S) am_e37 rfl rfl rfl rfl ?_
  refine w_st (i' := 79) (ls' := [.ref 61, d1, d2, d3, d4, d5, .int x6, d7]) (st' := [.int ((I 61) 6), .ref 65]) (E' := E) (I' := (u_I I 64 (upd (I 64) (((I 61) 6).toNatClampNeg) x6))) (J' := J) (S' := S) am_e37 rfl rfl rfl rfl ?_
  refine w_st (i' := 80) (ls' := [.ref 61, d1, d2, d3, d4, d5, .int x6, d7]) (st' := [.int ((I 61) 6), .ref 65, .int ((I 61) 6), .ref 65]) (E' := E) (I' := (u_I I 64 (upd (I 64) (((I 61) 6).toNatClampNeg) x6))) (J' := J) (S' := S) am_e37 rfl rfl rfl rfl ?_
  refine w_ia (k := 65) (n := 4) (jn := ((I 61) 6).toNatClampNeg) am_e37 rfl rfl (by decide) hf1 rfl ?_
  show am_ww 37 81 [.ref 61, d1, d2, d3, d4, d5, .int x6, d7] [.int ((I 65) (((I 61) 6).toNatClampNeg)), .int ((I 61) 6), .ref 65] E (u_I I 64 (upd (I 64) (((I 61) 6).toNatClampNeg) x6)) J S _
  refine w_st (i' := 82) (ls' := [.ref 61, d1, d2, d3, d4, d5, .int x6, d7]) (st' := [.int (nI 1), .int ((I 65) (((I 61) 6).toNatClampNeg)), .int ((I 61) 6), .ref 65]) (E' := E) (I' := (u_I I 64 (upd (I 64) (((I 61) 6).toNatClampNeg) x6))) (J' := J) (S' := S) am_e37 rfl rfl rfl rfl ?_
  refine w_st (i' := 83) (ls' := [.ref 61, d1, d2, d3, d4, d5, .int x6, d7]) (st' := [.int (((I 65) (((I 61) 6).toNatClampNeg)) + (nI 1)), .int ((I 61) 6), .ref 65]) (E' := E) (I' := (u_I I 64 (upd (I 64) (((I 61) 6).toNatClampNeg) x6))) (J' := J) (S' := S) am_e37 rfl rfl rfl rfl ?_
  refine w_is (k := 65) (n := 4) (jn := ((I 61) 6).toNatClampNeg) am_e37 rfl rfl (by decide) hf1 rfl ?_
  show am_ww 37 84 [.ref 61, d1, d2, d3, d4, d5, .int x6, d7] [] E (u_I (u_I I 64 (upd (I 64) (((I 61) 6).toNatClampNeg) x6)) 65 (upd (I 65) (((I 61) 6).toNatClampNeg) (((I 65) (((I 61) 6).toNatClampNeg)) + (nI 1)))) J S _
  exact w_end am_e37 rfl rfl rfl h
-- 38 work
theorem g38_0_61 {p2 : Int32} {p3 : Int32} {E : am_Ev} {I : Nat → Nat → Int32} {J : Nat → Nat → Int64} {S : Nat → Nat → Option Nat} {Q : am_Qt}  (h : vp_in ((p2 * (nI 3)) + (nI 0)) 192 ∧ (∀ w2 : Int32, w2 = ((I 14) (((p2 * (nI 3)) + (nI 0)).toNatClampNeg)) → (vp_in ((p2 * (nI 3)) + (nI 1)) 192 ∧ (∀ w4 : Int32, w4 = ((I 14) (((p2 * (nI 3)) + (nI 1)).toNatClampNeg)) → (vp_in p2 64 ∧ ((((I 13) p2.toNatClampNeg) = nI 6 → (vp_in ((((I 61) 6) * (nI 4)) + w2) 16 ∧ (Q (.inl none) E (u_I I 63 (upd (I 63) (((((I 61) 6) * (nI 4)) + w2).toNatClampNeg) w4)) J S))) ∧ (((I 13) p2.toNatClampNeg) = nI 7 → (vp_in w4 16 ∧ (vp_in ((((I 61) 6) * (nI 4)) + w2) 16 ∧ (Q (.inl none) E (u_I I 63 (upd (I 63) (((((I 61) 6) * (nI 4)) + w2).toNatClampNeg) ((I 62) w4.toNatClampNeg))) J S)))) ∧ (((I 13) p2.toNatClampNeg) = nI 8 → (vp_in ((((I 61) 6) * (nI 4)) + w4) 16 ∧ (vp_in w2 16 ∧ (Q (.inl none) E (u_I I 62 (upd (I 62) w2.toNatClampNeg ((I 63) (((((I 61) 6) * (nI 4)) + w4).toNatClampNeg)))) J S)))) ∧ (((I 13) p2.toNatClampNeg) = nI 9 → (vp_in ((((I 61) 6) * (nI 4)) + w2) 16 ∧ (vp_in ((((I 61) 6) * (nI 4)) + w4) 16 ∧ (Q (.inl none) E (u_I I 63 (upd (I 63) (((((I 61) 6) * (nI 4)) + w2).toNatClampNeg) (((I 63) (((((I 61) 6) * (nI 4)) + w2).toNatClampNeg)) + ((I 63) (((((I 61) 6) * (nI 4)) + w4).toNatClampNeg))))) J S)))) ∧ (((I 13) p2.toNatClampNeg) = nI 10 → (vp_in ((((I 61) 6) * (nI 4)) + w2) 16 ∧ (vp_in ((((I 61) 6) * (nI 4)) + w4) 16 ∧ (Q (.inl none) E (u_I I 63 (upd (I 63) (((((I 61) 6) * (nI 4)) + w2).toNatClampNeg) (((I 63) (((((I 61) 6) * (nI 4)) + w2).toNatClampNeg)) - ((I 63) (((((I 61) 6) * (nI 4)) + w4).toNatClampNeg))))) J S)))) ∧ (((I 13) p2.toNatClampNeg) = nI 11 → (vp_in ((((I 61) 6) * (nI 4)) + w2) 16 ∧ (vp_in ((((I 61) 6) * (nI 4)) + w4) 16 ∧ (Q (.inl none) E (u_I I 63 (upd (I 63) (((((I 61) 6) * (nI 4)) + w2).toNatClampNeg) (((I 63) (((((I 61) 6) * (nI 4)) + w2).toNatClampNeg)) * ((I 63) (((((I 61) 6) * (nI 4)) + w4).toNatClampNeg))))) J S)))) ∧ (((I 13) p2.toNatClampNeg) = nI 12 → (vp_in ((((I 61) 6) * (nI 4)) + w2) 16 ∧ (vp_in w4 3 ∧ (Q (.inl none) E (u_I (u_I I 63 (upd (I 63) (((((I 61) 6) * (nI 4)) + w2).toNatClampNeg) p3)) 67 (upd (I 67) w4.toNatClampNeg (((I 67) w4.toNatClampNeg) + (nI 1)))) J S)))) ∧ (((I 13) p2.toNatClampNeg) = nI 13 → (vp_in w2 4 ∧ (Q (.inl none) E (u_I I 66 (upd (I 66) w2.toNatClampNeg ((I 61) 6))) J S))) ∧ (((I 13) p2.toNatClampNeg) = nI 14 → (vp_in w2 4 ∧ (∀ w22 : Int32, w22 = (if ((I 66) w2.toNatClampNeg) = ((I 61) 6) then (-1) else ((I 66) w2.toNatClampNeg)) → (Q (.inl none) E (u_I I 66 (upd (I 66) w2.toNatClampNeg w22)) J S)))) ∧ (¬ ((I 13) p2.toNatClampNeg) = nI 6 → ¬ ((I 13) p2.toNatClampNeg) = nI 7 → ¬ ((I 13) p2.toNatClampNeg) = nI 8 → ¬ ((I 13) p2.toNatClampNeg) = nI 9 → ¬ ((I 13) p2.toNatClampNeg) = nI 10 → ¬ ((I 13) p2.toNatClampNeg) = nI 11 → ¬ ((I 13) p2.toNatClampNeg) = nI 12 → ¬ ((I 13) p2.toNatClampNeg) = nI 13 → ¬ ((I 13) p2.toNatClampNeg) = nI 14 → (Q (.inl none) E I J S)))))))) : am_ww 38 0 [.ref 61, .ref 12, .int p2, .int p3, am_U, am_U, am_U] [] E I J S Q := by
  refine w_st (i' := 1) (ls' := [.ref 61, .ref 12, .int p2, .int p3, am_U, am_U, am_U]) (st' := [.ref 61]) (E' := E) (I' := I) (J' := J) (S' := S) am_e38 rfl rfl rfl rfl ?_
  refine w_st (i' := 2) (ls' := [.ref 61, .ref 12, .int p2, .int p3, am_U, am_U, am_U]) (st' := [.int ((I 61) 6)]) (E' := E) (I' := I) (J' := J) (S' := S) am_e38 rfl rfl rfl rfl ?_
  refine w_st (i' := 3) (ls' := [.ref 61, .ref 12, .int p2, .int p3, am_U, am_U, am_U]) (st' := [.int (nI 4), .int ((I 61) 6)]) (E' := E) (I' := I) (J' := J) (S' := S) am_e38 rfl rfl rfl rfl ?_
  refine w_st (i' := 4) (ls' := [.ref 61, .ref 12, .int p2, .int p3, am_U, am_U, am_U]) (st' := [.int (((I 61) 6) * (nI 4))]) (E' := E) (I' := I) (J' := J) (S' := S) am_e38 rfl rfl rfl rfl ?_
  refine w_st (i' := 5) (ls' := [.ref 61, .ref 12, .int p2, .int p3, .int (((I 61) 6) * (nI 4)), am_U, am_U]) (st' := []) (E' := E) (I' := I) (J' := J) (S' := S) am_e38 rfl rfl rfl rfl ?_
  refine w_st (i' := 6) (ls' := [.ref 61, .ref 12, .int p2, .int p3, .int (((I 61) 6) * (nI 4)), am_U, am_U]) (st' := [.ref 12]) (E' := E) (I' := I) (J' := J) (S' := S) am_e38 rfl rfl rfl rfl ?_
  refine w_st (i' := 7) (ls' := [.ref 61, .ref 12, .int p2, .int p3, .int (((I 61) 6) * (nI 4)), am_U, am_U]) (st' := [.int p2, .ref 12]) (E' := E) (I' := I) (J' := J) (S' := S) am_e38 rfl rfl rfl rfl ?_
  refine w_st (i' := 8) (ls' := [.ref 61, .ref 12, .int p2, .int p3, .int (((I 61) 6) * (nI 4)), am_U, am_U]) (st' := [.int (nI 0), .int p2, .ref 12]) (E' := E) (I' := I) (J' := J) (S' := S) am_e38 rfl rfl rfl rfl ?_
  refine w_cI am_e38 rfl rfl (as := [.ref 12, .int p2, .int (nI 0)]) (rest := []) rfl rfl ?_
  show am_ww 26 0 [.ref 12, .int p2, .int (nI 0)] [] E I J S _
  refine w_st (i' := 1) (ls' := [.ref 12, .int p2, .int (nI 0)]) (st' := [.ref 12]) (E' := E) (I' := I) (J' := J) (S' := S) am_e26 rfl rfl rfl rfl ?_
  refine w_st (i' := 2) (ls' := [.ref 12, .int p2, .int (nI 0)]) (st' := [.ref 14]) (E' := E) (I' := I) (J' := J) (S' := S) am_e26 rfl rfl rfl rfl ?_
  refine w_st (i' := 3) (ls' := [.ref 12, .int p2, .int (nI 0)]) (st' := [.int p2, .ref 14]) (E' := E) (I' := I) (J' := J) (S' := S) am_e26 rfl rfl rfl rfl ?_
  refine w_st (i' := 4) (ls' := [.ref 12, .int p2, .int (nI 0)]) (st' := [.int (nI 3), .int p2, .ref 14]) (E' := E) (I' := I) (J' := J) (S' := S) am_e26 rfl rfl rfl rfl ?_
  refine w_st (i' := 5) (ls' := [.ref 12, .int p2, .int (nI 0)]) (st' := [.int (p2 * (nI 3)), .ref 14]) (E' := E) (I' := I) (J' := J) (S' := S) am_e26 rfl rfl rfl rfl ?_
  refine w_st (i' := 6) (ls' := [.ref 12, .int p2, .int (nI 0)]) (st' := [.int (nI 0), .int (p2 * (nI 3)), .ref 14]) (E' := E) (I' := I) (J' := J) (S' := S) am_e26 rfl rfl rfl rfl ?_
  refine w_st (i' := 7) (ls' := [.ref 12, .int p2, .int (nI 0)]) (st' := [.int ((p2 * (nI 3)) + (nI 0)), .ref 14]) (E' := E) (I' := I) (J' := J) (S' := S) am_e26 rfl rfl rfl rfl ?_
  have hf1 := h.1
  replace h := h.2
  refine w_ia (k := 14) (n := 192) (jn := ((p2 * (nI 3)) + (nI 0)).toNatClampNeg) am_e26 rfl rfl (by decide) hf1 rfl ?_
  refine w_ri am_e26 rfl rfl (q_mkI ?_)
  show am_ww 38 9 [.ref 61, .ref 12, .int p2, .int p3, .int (((I 61) 6) * (nI 4)), am_U, am_U] [.int ((I 14) (((p2 * (nI 3)) + (nI 0)).toNatClampNeg))] E I J S _
  refine w_var (fun w2 => am_ww 38 9 [.ref 61, .ref 12, .int p2, .int p3, .int (((I 61) 6) * (nI 4)), am_U, am_U] [.int w2] E I J S _) ((I 14) (((p2 * (nI 3)) + (nI 0)).toNatClampNeg)) (fun w2 hw2 => ?_)
  replace h := h w2 hw2
  refine w_st (i' := 10) (ls' := [.ref 61, .ref 12, .int p2, .int p3, .int (((I 61) 6) * (nI 4)), .int w2, am_U]) (st' := []) (E' := E) (I' := I) (J' := J) (S' := S) am_e38 rfl rfl rfl rfl ?_
  refine w_st (i' := 11) (ls' := [.ref 61, .ref 12, .int p2, .int p3, .int (((I 61) 6) * (nI 4)), .int w2, am_U]) (st' := [.ref 12]) (E' := E) (I' := I) (J' := J) (S' := S) am_e38 rfl rfl rfl rfl ?_
  refine w_st (i' := 12) (ls' := [.ref 61, .ref 12, .int p2, .int p3, .int (((I 61) 6) * (nI 4)), .int w2, am_U]) (st' := [.int p2, .ref 12]) (E' := E) (I' := I) (J' := J) (S' := S) am_e38 rfl rfl rfl rfl ?_
  refine w_st (i' := 13) (ls' := [.ref 61, .ref 12, .int p2, .int p3, .int (((I 61) 6) * (nI 4)), .int w2, am_U]) (st' := [.int (nI 1), .int p2, .ref 12]) (E' := E) (I' := I) (J' := J) (S' := S) am_e38 rfl rfl rfl rfl ?_
  refine w_cI am_e38 rfl rfl (as := [.ref 12, .int p2, .int (nI 1)]) (rest := []) rfl rfl ?_
  show am_ww 26 0 [.ref 12, .int p2, .int (nI 1)] [] E I J S _
  refine w_st (i' := 1) (ls' := [.ref 12, .int p2, .int (nI 1)]) (st' := [.ref 12]) (E' := E) (I' := I) (J' := J) (S' := S) am_e26 rfl rfl rfl rfl ?_
  refine w_st (i' := 2) (ls' := [.ref 12, .int p2, .int (nI 1)]) (st' := [.ref 14]) (E' := E) (I' := I) (J' := J) (S' := S) am_e26 rfl rfl rfl rfl ?_
  refine w_st (i' := 3) (ls' := [.ref 12, .int p2, .int (nI 1)]) (st' := [.int p2, .ref 14]) (E' := E) (I' := I) (J' := J) (S' := S) am_e26 rfl rfl rfl rfl ?_
  refine w_st (i' := 4) (ls' := [.ref 12, .int p2, .int (nI 1)]) (st' := [.int (nI 3), .int p2, .ref 14]) (E' := E) (I' := I) (J' := J) (S' := S) am_e26 rfl rfl rfl rfl ?_
  refine w_st (i' := 5) (ls' := [.ref 12, .int p2, .int (nI 1)]) (st' := [.int (p2 * (nI 3)), .ref 14]) (E' := E) (I' := I) (J' := J) (S' := S) am_e26 rfl rfl rfl rfl ?_
  refine w_st (i' := 6) (ls' := [.ref 12, .int p2, .int (nI 1)]) (st' := [.int (nI 1), .int (p2 * (nI 3)), .ref 14]) (E' := E) (I' := I) (J' := J) (S' := S) am_e26 rfl rfl rfl rfl ?_
  refine w_st (i' := 7) (ls' := [.ref 12, .int p2, .int (nI 1)]) (st' := [.int ((p2 * (nI 3)) + (nI 1)), .ref 14]) (E' := E) (I' := I) (J' := J) (S' := S) am_e26 rfl rfl rfl rfl ?_
  have hf3 := h.1
  replace h := h.2
  refine w_ia (k := 14) (n := 192) (jn := ((p2 * (nI 3)) + (nI 1)).toNatClampNeg) am_e26 rfl rfl (by decide) hf3 rfl ?_
  refine w_ri am_e26 rfl rfl (q_mkI ?_)
  show am_ww 38 14 [.ref 61, .ref 12, .int p2, .int p3, .int (((I 61) 6) * (nI 4)), .int w2, am_U] [.int ((I 14) (((p2 * (nI 3)) + (nI 1)).toNatClampNeg))] E I J S _
  refine w_var (fun w4 => am_ww 38 14 [.ref 61, .ref 12, .int p2, .int p3, .int (((I 61) 6) * (nI 4)), .int w2, am_U] [.int w4] E I J S _) ((I 14) (((p2 * (nI 3)) + (nI 1)).toNatClampNeg)) (fun w4 hw4 => ?_)
  replace h := h w4 hw4
  refine w_st (i' := 15) (ls' := [.ref 61, .ref 12, .int p2, .int p3, .int (((I 61) 6) * (nI 4)), .int w2, .int w4]) (st' := []) (E' := E) (I' := I) (J' := J) (S' := S) am_e38 rfl rfl rfl rfl ?_
  refine w_st (i' := 16) (ls' := [.ref 61, .ref 12, .int p2, .int p3, .int (((I 61) 6) * (nI 4)), .int w2, .int w4]) (st' := [.ref 12]) (E' := E) (I' := I) (J' := J) (S' := S) am_e38 rfl rfl rfl rfl ?_
  refine w_st (i' := 17) (ls' := [.ref 61, .ref 12, .int p2, .int p3, .int (((I 61) 6) * (nI 4)), .int w2, .int w4]) (st' := [.ref 13]) (E' := E) (I' := I) (J' := J) (S' := S) am_e38 rfl rfl rfl rfl ?_
  refine w_st (i' := 18) (ls' := [.ref 61, .ref 12, .int p2, .int p3, .int (((I 61) 6) * (nI 4)), .int w2, .int w4]) (st' := [.int p2, .ref 13]) (E' := E) (I' := I) (J' := J) (S' := S) am_e38 rfl rfl rfl rfl ?_
  have hf5 := h.1
  replace h := h.2
  refine w_ia (k := 13) (n := 64) (jn := p2.toNatClampNeg) am_e38 rfl rfl (by decide) hf5 rfl ?_
  refine w_tb am_e38 rfl ?_
  by_cases c6 : ((I 13) p2.toNatClampNeg) = nI 6
  · replace h := h.1 c6
    refine w_to (i2 := 20) (by rw [c6]; first | done | rfl) ?_
    refine w_st (i' := 21) (ls' := [.ref 61, .ref 12, .int p2, .int p3, .int (((I 61) 6) * (nI 4)), .int w2, .int w4]) (st' := [.ref 61]) (E' := E) (I' := I) (J' := J) (S' := S) am_e38 rfl rfl rfl rfl ?_
    refine w_st (i' := 22) (ls' := [.ref 61, .ref 12, .int p2, .int p3, .int (((I 61) 6) * (nI 4)), .int w2, .int w4]) (st' := [.ref 63]) (E' := E) (I' := I) (J' := J) (S' := S) am_e38 rfl rfl rfl rfl ?_
    refine w_st (i' := 23) (ls' := [.ref 61, .ref 12, .int p2, .int p3, .int (((I 61) 6) * (nI 4)), .int w2, .int w4]) (st' := [.int (((I 61) 6) * (nI 4)), .ref 63]) (E' := E) (I' := I) (J' := J) (S' := S) am_e38 rfl rfl rfl rfl ?_
    refine w_st (i' := 24) (ls' := [.ref 61, .ref 12, .int p2, .int p3, .int (((I 61) 6) * (nI 4)), .int w2, .int w4]) (st' := [.int w2, .int (((I 61) 6) * (nI 4)), .ref 63]) (E' := E) (I' := I) (J' := J) (S' := S) am_e38 rfl rfl rfl rfl ?_
    refine w_st (i' := 25) (ls' := [.ref 61, .ref 12, .int p2, .int p3, .int (((I 61) 6) * (nI 4)), .int w2, .int w4]) (st' := [.int ((((I 61) 6) * (nI 4)) + w2), .ref 63]) (E' := E) (I' := I) (J' := J) (S' := S) am_e38 rfl rfl rfl rfl ?_
    refine w_st (i' := 26) (ls' := [.ref 61, .ref 12, .int p2, .int p3, .int (((I 61) 6) * (nI 4)), .int w2, .int w4]) (st' := [.int w4, .int ((((I 61) 6) * (nI 4)) + w2), .ref 63]) (E' := E) (I' := I) (J' := J) (S' := S) am_e38 rfl rfl rfl rfl ?_
    have hf6 := h.1
    replace h := h.2
    refine w_is (k := 63) (n := 16) (jn := ((((I 61) 6) * (nI 4)) + w2).toNatClampNeg) am_e38 rfl rfl (by decide) hf6 rfl ?_
    show am_ww 38 27 [.ref 61, .ref 12, .int p2, .int p3, .int (((I 61) 6) * (nI 4)), .int w2, .int w4] [] E (u_I I 63 (upd (I 63) (((((I 61) 6) * (nI 4)) + w2).toNatClampNeg) w4)) J S _
    refine w_st (i' := 139) (ls' := [.ref 61, .ref 12, .int p2, .int p3, .int (((I 61) 6) * (nI 4)), .int w2, .int w4]) (st' := []) (E' := E) (I' := (u_I I 63 (upd (I 63) (((((I 61) 6) * (nI 4)) + w2).toNatClampNeg) w4))) (J' := J) (S' := S) am_e38 rfl rfl rfl rfl ?_
    exact w_end am_e38 rfl rfl rfl h
  by_cases c7 : ((I 13) p2.toNatClampNeg) = nI 7
  · replace h := h.2.1 c7
    refine w_to (i2 := 28) (by rw [c7]; first | done | rfl) ?_
    refine w_st (i' := 29) (ls' := [.ref 61, .ref 12, .int p2, .int p3, .int (((I 61) 6) * (nI 4)), .int w2, .int w4]) (st' := [.ref 61]) (E' := E) (I' := I) (J' := J) (S' := S) am_e38 rfl rfl rfl rfl ?_
    refine w_st (i' := 30) (ls' := [.ref 61, .ref 12, .int p2, .int p3, .int (((I 61) 6) * (nI 4)), .int w2, .int w4]) (st' := [.ref 63]) (E' := E) (I' := I) (J' := J) (S' := S) am_e38 rfl rfl rfl rfl ?_
    refine w_st (i' := 31) (ls' := [.ref 61, .ref 12, .int p2, .int p3, .int (((I 61) 6) * (nI 4)), .int w2, .int w4]) (st' := [.int (((I 61) 6) * (nI 4)), .ref 63]) (E' := E) (I' := I) (J' := J) (S' := S) am_e38 rfl rfl rfl rfl ?_
    refine w_st (i' := 32) (ls' := [.ref 61, .ref 12, .int p2, .int p3, .int (((I 61) 6) * (nI 4)), .int w2, .int w4]) (st' := [.int w2, .int (((I 61) 6) * (nI 4)), .ref 63]) (E' := E) (I' := I) (J' := J) (S' := S) am_e38 rfl rfl rfl rfl ?_
    refine w_st (i' := 33) (ls' := [.ref 61, .ref 12, .int p2, .int p3, .int (((I 61) 6) * (nI 4)), .int w2, .int w4]) (st' := [.int ((((I 61) 6) * (nI 4)) + w2), .ref 63]) (E' := E) (I' := I) (J' := J) (S' := S) am_e38 rfl rfl rfl rfl ?_
    refine w_st (i' := 34) (ls' := [.ref 61, .ref 12, .int p2, .int p3, .int (((I 61) 6) * (nI 4)), .int w2, .int w4]) (st' := [.ref 61, .int ((((I 61) 6) * (nI 4)) + w2), .ref 63]) (E' := E) (I' := I) (J' := J) (S' := S) am_e38 rfl rfl rfl rfl ?_
    refine w_st (i' := 35) (ls' := [.ref 61, .ref 12, .int p2, .int p3, .int (((I 61) 6) * (nI 4)), .int w2, .int w4]) (st' := [.ref 62, .int ((((I 61) 6) * (nI 4)) + w2), .ref 63]) (E' := E) (I' := I) (J' := J) (S' := S) am_e38 rfl rfl rfl rfl ?_
    refine w_st (i' := 36) (ls' := [.ref 61, .ref 12, .int p2, .int p3, .int (((I 61) 6) * (nI 4)), .int w2, .int w4]) (st' := [.int w4, .ref 62, .int ((((I 61) 6) * (nI 4)) + w2), .ref 63]) (E' := E) (I' := I) (J' := J) (S' := S) am_e38 rfl rfl rfl rfl ?_
    have hf7 := h.1
    replace h := h.2
    refine w_ia (k := 62) (n := 16) (jn := w4.toNatClampNeg) am_e38 rfl rfl (by decide) hf7 rfl ?_
    have hf8 := h.1
    replace h := h.2
    refine w_is (k := 63) (n := 16) (jn := ((((I 61) 6) * (nI 4)) + w2).toNatClampNeg) am_e38 rfl rfl (by decide) hf8 rfl ?_
    show am_ww 38 38 [.ref 61, .ref 12, .int p2, .int p3, .int (((I 61) 6) * (nI 4)), .int w2, .int w4] [] E (u_I I 63 (upd (I 63) (((((I 61) 6) * (nI 4)) + w2).toNatClampNeg) ((I 62) w4.toNatClampNeg))) J S _
    refine w_st (i' := 139) (ls' := [.ref 61, .ref 12, .int p2, .int p3, .int (((I 61) 6) * (nI 4)), .int w2, .int w4]) (st' := []) (E' := E) (I' := (u_I I 63 (upd (I 63) (((((I 61) 6) * (nI 4)) + w2).toNatClampNeg) ((I 62) w4.toNatClampNeg)))) (J' := J) (S' := S) am_e38 rfl rfl rfl rfl ?_
    exact w_end am_e38 rfl rfl rfl h
  by_cases c8 : ((I 13) p2.toNatClampNeg) = nI 8
  · replace h := h.2.2.1 c8
    refine w_to (i2 := 39) (by rw [c8]; first | done | rfl) ?_
    refine w_st (i' := 40) (ls' := [.ref 61, .ref 12, .int p2, .int p3, .int (((I 61) 6) * (nI 4)), .int w2, .int w4]) (st' := [.ref 61]) (E' := E) (I' := I) (J' := J) (S' := S) am_e38 rfl rfl rfl rfl ?_
    refine w_st (i' := 41) (ls' := [.ref 61, .ref 12, .int p2, .int p3, .int (((I 61) 6) * (nI 4)), .int w2, .int w4]) (st' := [.ref 62]) (E' := E) (I' := I) (J' := J) (S' := S) am_e38 rfl rfl rfl rfl ?_
    refine w_st (i' := 42) (ls' := [.ref 61, .ref 12, .int p2, .int p3, .int (((I 61) 6) * (nI 4)), .int w2, .int w4]) (st' := [.int w2, .ref 62]) (E' := E) (I' := I) (J' := J) (S' := S) am_e38 rfl rfl rfl rfl ?_
    refine w_st (i' := 43) (ls' := [.ref 61, .ref 12, .int p2, .int p3, .int (((I 61) 6) * (nI 4)), .int w2, .int w4]) (st' := [.ref 61, .int w2, .ref 62]) (E' := E) (I' := I) (J' := J) (S' := S) am_e38 rfl rfl rfl rfl ?_
    refine w_st (i' := 44) (ls' := [.ref 61, .ref 12, .int p2, .int p3, .int (((I 61) 6) * (nI 4)), .int w2, .int w4]) (st' := [.ref 63, .int w2, .ref 62]) (E' := E) (I' := I) (J' := J) (S' := S) am_e38 rfl rfl rfl rfl ?_
    refine w_st (i' := 45) (ls' := [.ref 61, .ref 12, .int p2, .int p3, .int (((I 61) 6) * (nI 4)), .int w2, .int w4]) (st' := [.int (((I 61) 6) * (nI 4)), .ref 63, .int w2, .ref 62]) (E' := E) (I' := I) (J' := J) (S' := S) am_e38 rfl rfl rfl rfl ?_
    refine w_st (i' := 46) (ls' := [.ref 61, .ref 12, .int p2, .int p3, .int (((I 61) 6) * (nI 4)), .int w2, .int w4]) (st' := [.int w4, .int (((I 61) 6) * (nI 4)), .ref 63, .int w2, .ref 62]) (E' := E) (I' := I) (J' := J) (S' := S) am_e38 rfl rfl rfl rfl ?_
    refine w_st (i' := 47) (ls' := [.ref 61, .ref 12, .int p2, .int p3, .int (((I 61) 6) * (nI 4)), .int w2, .int w4]) (st' := [.int ((((I 61) 6) * (nI 4)) + w4), .ref 63, .int w2, .ref 62]) (E' := E) (I' := I) (J' := J) (S' := S) am_e38 rfl rfl rfl rfl ?_
    have hf9 := h.1
    replace h := h.2
    refine w_ia (k := 63) (n := 16) (jn := ((((I 61) 6) * (nI 4)) + w4).toNatClampNeg) am_e38 rfl rfl (by decide) hf9 rfl ?_
    have hf10 := h.1
    replace h := h.2
    refine w_is (k := 62) (n := 16) (jn := w2.toNatClampNeg) am_e38 rfl rfl (by decide) hf10 rfl ?_
    show am_ww 38 49 [.ref 61, .ref 12, .int p2, .int p3, .int (((I 61) 6) * (nI 4)), .int w2, .int w4] [] E (u_I I 62 (upd (I 62) w2.toNatClampNeg ((I 63) (((((I 61) 6) * (nI 4)) + w4).toNatClampNeg)))) J S _
    refine w_st (i' := 139) (ls' := [.ref 61, .ref 12, .int p2, .int p3, .int (((I 61) 6) * (nI 4)), .int w2, .int w4]) (st' := []) (E' := E) (I' := (u_I I 62 (upd (I 62) w2.toNatClampNeg ((I 63) (((((I 61) 6) * (nI 4)) + w4).toNatClampNeg))))) (J' := J) (S' := S) am_e38 rfl rfl rfl rfl ?_
    exact w_end am_e38 rfl rfl rfl h
  by_cases c9 : ((I 13) p2.toNatClampNeg) = nI 9
  · replace h := h.2.2.2.1 c9
    refine w_to (i2 := 50) (by rw [c9]; first | done | rfl) ?_
    refine w_st (i' := 51) (ls' := [.ref 61, .ref 12, .int p2, .int p3, .int (((I 61) 6) * (nI 4)), .int w2, .int w4]) (st' := [.ref 61]) (E' := E) (I' := I) (J' := J) (S' := S) am_e38 rfl rfl rfl rfl ?_
    refine w_st (i' := 52) (ls' := [.ref 61, .ref 12, .int p2, .int p3, .int (((I 61) 6) * (nI 4)), .int w2, .int w4]) (st' := [.ref 63]) (E' := E) (I' := I) (J' := J) (S' := S) am_e38 rfl rfl rfl rfl ?_
    refine w_st (i' := 53) (ls' := [.ref 61, .ref 12, .int p2, .int p3, .int (((I 61) 6) * (nI 4)), .int w2, .int w4]) (st' := [.int (((I 61) 6) * (nI 4)), .ref 63]) (E' := E) (I' := I) (J' := J) (S' := S) am_e38 rfl rfl rfl rfl ?_
    refine w_st (i' := 54) (ls' := [.ref 61, .ref 12, .int p2, .int p3, .int (((I 61) 6) * (nI 4)), .int w2, .int w4]) (st' := [.int w2, .int (((I 61) 6) * (nI 4)), .ref 63]) (E' := E) (I' := I) (J' := J) (S' := S) am_e38 rfl rfl rfl rfl ?_
    refine w_st (i' := 55) (ls' := [.ref 61, .ref 12, .int p2, .int p3, .int (((I 61) 6) * (nI 4)), .int w2, .int w4]) (st' := [.int ((((I 61) 6) * (nI 4)) + w2), .ref 63]) (E' := E) (I' := I) (J' := J) (S' := S) am_e38 rfl rfl rfl rfl ?_
    refine w_st (i' := 56) (ls' := [.ref 61, .ref 12, .int p2, .int p3, .int (((I 61) 6) * (nI 4)), .int w2, .int w4]) (st' := [.int ((((I 61) 6) * (nI 4)) + w2), .ref 63, .int ((((I 61) 6) * (nI 4)) + w2), .ref 63]) (E' := E) (I' := I) (J' := J) (S' := S) am_e38 rfl rfl rfl rfl ?_
    have hf11 := h.1
    replace h := h.2
    refine w_ia (k := 63) (n := 16) (jn := ((((I 61) 6) * (nI 4)) + w2).toNatClampNeg) am_e38 rfl rfl (by decide) hf11 rfl ?_
    refine w_st (i' := 58) (ls' := [.ref 61, .ref 12, .int p2, .int p3, .int (((I 61) 6) * (nI 4)), .int w2, .int w4]) (st' := [.ref 61, .int ((I 63) (((((I 61) 6) * (nI 4)) + w2).toNatClampNeg)), .int ((((I 61) 6) * (nI 4)) + w2), .ref 63]) (E' := E) (I' := I) (J' := J) (S' := S) am_e38 rfl rfl rfl rfl ?_
    refine w_st (i' := 59) (ls' := [.ref 61, .ref 12, .int p2, .int p3, .int (((I 61) 6) * (nI 4)), .int w2, .int w4]) (st' := [.ref 63, .int ((I 63) (((((I 61) 6) * (nI 4)) + w2).toNatClampNeg)), .int ((((I 61) 6) * (nI 4)) + w2), .ref 63]) (E' := E) (I' := I) (J' := J) (S' := S) am_e38 rfl rfl rfl rfl ?_
    refine w_st (i' := 60) (ls' := [.ref 61, .ref 12, .int p2, .int p3, .int (((I 61) 6) * (nI 4)), .int w2, .int w4]) (st' := [.int (((I 61) 6) * (nI 4)), .ref 63, .int ((I 63) (((((I 61) 6) * (nI 4)) + w2).toNatClampNeg)), .int ((((I 61) 6) * (nI 4)) + w2), .ref 63]) (E' := E) (I' := I) (J' := J) (S' := S) am_e38 rfl rfl rfl rfl ?_
    refine w_st (i' := 61) (ls' := [.ref 61, .ref 12, .int p2, .int p3, .int (((I 61) 6) * (nI 4)), .int w2, .int w4]) (st' := [.int w4, .int (((I 61) 6) * (nI 4)), .ref 63, .int ((I 63) (((((I 61) 6) * (nI 4)) + w2).toNatClampNeg)), .int ((((I 61) 6) * (nI 4)) + w2), .ref 63]) (E' := E) (I' := I) (J' := J) (S' := S) am_e38 rfl rfl rfl rfl ?_
    refine w_st (i' := 62) (ls' := [.ref 61, .ref 12, .int p2, .int p3, .int (((I 61) 6) * (nI 4)), .int w2, .int w4]) (st' := [.int ((((I 61) 6) * (nI 4)) + w4), .ref 63, .int ((I 63) (((((I 61) 6) * (nI 4)) + w2).toNatClampNeg)), .int ((((I 61) 6) * (nI 4)) + w2), .ref 63]) (E' := E) (I' := I) (J' := J) (S' := S) am_e38 rfl rfl rfl rfl ?_
    have hf12 := h.1
    replace h := h.2
    refine w_ia (k := 63) (n := 16) (jn := ((((I 61) 6) * (nI 4)) + w4).toNatClampNeg) am_e38 rfl rfl (by decide) hf12 rfl ?_
    refine w_st (i' := 64) (ls' := [.ref 61, .ref 12, .int p2, .int p3, .int (((I 61) 6) * (nI 4)), .int w2, .int w4]) (st' := [.int (((I 63) (((((I 61) 6) * (nI 4)) + w2).toNatClampNeg)) + ((I 63) (((((I 61) 6) * (nI 4)) + w4).toNatClampNeg))), .int ((((I 61) 6) * (nI 4)) + w2), .ref 63]) (E' := E) (I' := I) (J' := J) (S' := S) am_e38 rfl rfl rfl rfl ?_
    refine w_is (k := 63) (n := 16) (jn := ((((I 61) 6) * (nI 4)) + w2).toNatClampNeg) am_e38 rfl rfl (by decide) hf11 rfl ?_
    show am_ww 38 65 [.ref 61, .ref 12, .int p2, .int p3, .int (((I 61) 6) * (nI 4)), .int w2, .int w4] [] E (u_I I 63 (upd (I 63) (((((I 61) 6) * (nI 4)) + w2).toNatClampNeg) (((I 63) (((((I 61) 6) * (nI 4)) + w2).toNatClampNeg)) + ((I 63) (((((I 61) 6) * (nI 4)) + w4).toNatClampNeg))))) J S _
    refine w_st (i' := 139) (ls' := [.ref 61, .ref 12, .int p2, .int p3, .int (((I 61) 6) * (nI 4)), .int w2, .int w4]) (st' := []) (E' := E) (I' := (u_I I 63 (upd (I 63) (((((I 61) 6) * (nI 4)) + w2).toNatClampNeg) (((I 63) (((((I 61) 6) * (nI 4)) + w2).toNatClampNeg)) + ((I 63) (((((I 61) 6) * (nI 4)) + w4).toNatClampNeg)))))) (J' := J) (S' := S) am_e38 rfl rfl rfl rfl ?_
    exact w_end am_e38 rfl rfl rfl h
  by_cases c10 : ((I 13) p2.toNatClampNeg) = nI 10
  · replace h := h.2.2.2.2.1 c10
    refine w_to (i2 := 66) (by rw [c10]; first | done | rfl) ?_
    refine w_st (i' := 67) (ls' := [.ref 61, .ref 12, .int p2, .int p3, .int (((I 61) 6) * (nI 4)), .int w2, .int w4]) (st' := [.ref 61]) (E' := E) (I' := I) (J' := J) (S' := S) am_e38 rfl rfl rfl rfl ?_
    refine w_st (i' := 68) (ls' := [.ref 61, .ref 12, .int p2, .int p3, .int (((I 61) 6) * (nI 4)), .int w2, .int w4]) (st' := [.ref 63]) (E' := E) (I' := I) (J' := J) (S' := S) am_e38 rfl rfl rfl rfl ?_
    refine w_st (i' := 69) (ls' := [.ref 61, .ref 12, .int p2, .int p3, .int (((I 61) 6) * (nI 4)), .int w2, .int w4]) (st' := [.int (((I 61) 6) * (nI 4)), .ref 63]) (E' := E) (I' := I) (J' := J) (S' := S) am_e38 rfl rfl rfl rfl ?_
    refine w_st (i' := 70) (ls' := [.ref 61, .ref 12, .int p2, .int p3, .int (((I 61) 6) * (nI 4)), .int w2, .int w4]) (st' := [.int w2, .int (((I 61) 6) * (nI 4)), .ref 63]) (E' := E) (I' := I) (J' := J) (S' := S) am_e38 rfl rfl rfl rfl ?_
    refine w_st (i' := 71) (ls' := [.ref 61, .ref 12, .int p2, .int p3, .int (((I 61) 6) * (nI 4)), .int w2, .int w4]) (st' := [.int ((((I 61) 6) * (nI 4)) + w2), .ref 63]) (E' := E) (I' := I) (J' := J) (S' := S) am_e38 rfl rfl rfl rfl ?_
    refine w_st (i' := 72) (ls' := [.ref 61, .ref 12, .int p2, .int p3, .int (((I 61) 6) * (nI 4)), .int w2, .int w4]) (st' := [.int ((((I 61) 6) * (nI 4)) + w2), .ref 63, .int ((((I 61) 6) * (nI 4)) + w2), .ref 63]) (E' := E) (I' := I) (J' := J) (S' := S) am_e38 rfl rfl rfl rfl ?_
    have hf13 := h.1
    replace h := h.2
    refine w_ia (k := 63) (n := 16) (jn := ((((I 61) 6) * (nI 4)) + w2).toNatClampNeg) am_e38 rfl rfl (by decide) hf13 rfl ?_
    refine w_st (i' := 74) (ls' := [.ref 61, .ref 12, .int p2, .int p3, .int (((I 61) 6) * (nI 4)), .int w2, .int w4]) (st' := [.ref 61, .int ((I 63) (((((I 61) 6) * (nI 4)) + w2).toNatClampNeg)), .int ((((I 61) 6) * (nI 4)) + w2), .ref 63]) (E' := E) (I' := I) (J' := J) (S' := S) am_e38 rfl rfl rfl rfl ?_
    refine w_st (i' := 75) (ls' := [.ref 61, .ref 12, .int p2, .int p3, .int (((I 61) 6) * (nI 4)), .int w2, .int w4]) (st' := [.ref 63, .int ((I 63) (((((I 61) 6) * (nI 4)) + w2).toNatClampNeg)), .int ((((I 61) 6) * (nI 4)) + w2), .ref 63]) (E' := E) (I' := I) (J' := J) (S' := S) am_e38 rfl rfl rfl rfl ?_
    refine w_st (i' := 76) (ls' := [.ref 61, .ref 12, .int p2, .int p3, .int (((I 61) 6) * (nI 4)), .int w2, .int w4]) (st' := [.int (((I 61) 6) * (nI 4)), .ref 63, .int ((I 63) (((((I 61) 6) * (nI 4)) + w2).toNatClampNeg)), .int ((((I 61) 6) * (nI 4)) + w2), .ref 63]) (E' := E) (I' := I) (J' := J) (S' := S) am_e38 rfl rfl rfl rfl ?_
    refine w_st (i' := 77) (ls' := [.ref 61, .ref 12, .int p2, .int p3, .int (((I 61) 6) * (nI 4)), .int w2, .int w4]) (st' := [.int w4, .int (((I 61) 6) * (nI 4)), .ref 63, .int ((I 63) (((((I 61) 6) * (nI 4)) + w2).toNatClampNeg)), .int ((((I 61) 6) * (nI 4)) + w2), .ref 63]) (E' := E) (I' := I) (J' := J) (S' := S) am_e38 rfl rfl rfl rfl ?_
    refine w_st (i' := 78) (ls' := [.ref 61, .ref 12, .int p2, .int p3, .int (((I 61) 6) * (nI 4)), .int w2, .int w4]) (st' := [.int ((((I 61) 6) * (nI 4)) + w4), .ref 63, .int ((I 63) (((((I 61) 6) * (nI 4)) + w2).toNatClampNeg)), .int ((((I 61) 6) * (nI 4)) + w2), .ref 63]) (E' := E) (I' := I) (J' := J) (S' := S) am_e38 rfl rfl rfl rfl ?_
    have hf14 := h.1
    replace h := h.2
    refine w_ia (k := 63) (n := 16) (jn := ((((I 61) 6) * (nI 4)) + w4).toNatClampNeg) am_e38 rfl rfl (by decide) hf14 rfl ?_
    refine w_st (i' := 80) (ls' := [.ref 61, .ref 12, .int p2, .int p3, .int (((I 61) 6) * (nI 4)), .int w2, .int w4]) (st' := [.int (((I 63) (((((I 61) 6) * (nI 4)) + w2).toNatClampNeg)) - ((I 63) (((((I 61) 6) * (nI 4)) + w4).toNatClampNeg))), .int ((((I 61) 6) * (nI 4)) + w2), .ref 63]) (E' := E) (I' := I) (J' := J) (S' := S) am_e38 rfl rfl rfl rfl ?_
    refine w_is (k := 63) (n := 16) (jn := ((((I 61) 6) * (nI 4)) + w2).toNatClampNeg) am_e38 rfl rfl (by decide) hf13 rfl ?_
    show am_ww 38 81 [.ref 61, .ref 12, .int p2, .int p3, .int (((I 61) 6) * (nI 4)), .int w2, .int w4] [] E (u_I I 63 (upd (I 63) (((((I 61) 6) * (nI 4)) + w2).toNatClampNeg) (((I 63) (((((I 61) 6) * (nI 4)) + w2).toNatClampNeg)) - ((I 63) (((((I 61) 6) * (nI 4)) + w4).toNatClampNeg))))) J S _
    refine w_st (i' := 139) (ls' := [.ref 61, .ref 12, .int p2, .int p3, .int (((I 61) 6) * (nI 4)), .int w2, .int w4]) (st' := []) (E' := E) (I' := (u_I I 63 (upd (I 63) (((((I 61) 6) * (nI 4)) + w2).toNatClampNeg) (((I 63) (((((I 61) 6) * (nI 4)) + w2).toNatClampNeg)) - ((I 63) (((((I 61) 6) * (nI 4)) + w4).toNatClampNeg)))))) (J' := J) (S' := S) am_e38 rfl rfl rfl rfl ?_
    exact w_end am_e38 rfl rfl rfl h
  by_cases c11 : ((I 13) p2.toNatClampNeg) = nI 11
  · replace h := h.2.2.2.2.2.1 c11
    refine w_to (i2 := 82) (by rw [c11]; first | done | rfl) ?_
    refine w_st (i' := 83) (ls' := [.ref 61, .ref 12, .int p2, .int p3, .int (((I 61) 6) * (nI 4)), .int w2, .int w4]) (st' := [.ref 61]) (E' := E) (I' := I) (J' := J) (S' := S) am_e38 rfl rfl rfl rfl ?_
    refine w_st (i' := 84) (ls' := [.ref 61, .ref 12, .int p2, .int p3, .int (((I 61) 6) * (nI 4)), .int w2, .int w4]) (st' := [.ref 63]) (E' := E) (I' := I) (J' := J) (S' := S) am_e38 rfl rfl rfl rfl ?_
    refine w_st (i' := 85) (ls' := [.ref 61, .ref 12, .int p2, .int p3, .int (((I 61) 6) * (nI 4)), .int w2, .int w4]) (st' := [.int (((I 61) 6) * (nI 4)), .ref 63]) (E' := E) (I' := I) (J' := J) (S' := S) am_e38 rfl rfl rfl rfl ?_
    refine w_st (i' := 86) (ls' := [.ref 61, .ref 12, .int p2, .int p3, .int (((I 61) 6) * (nI 4)), .int w2, .int w4]) (st' := [.int w2, .int (((I 61) 6) * (nI 4)), .ref 63]) (E' := E) (I' := I) (J' := J) (S' := S) am_e38 rfl rfl rfl rfl ?_
    refine w_st (i' := 87) (ls' := [.ref 61, .ref 12, .int p2, .int p3, .int (((I 61) 6) * (nI 4)), .int w2, .int w4]) (st' := [.int ((((I 61) 6) * (nI 4)) + w2), .ref 63]) (E' := E) (I' := I) (J' := J) (S' := S) am_e38 rfl rfl rfl rfl ?_
    refine w_st (i' := 88) (ls' := [.ref 61, .ref 12, .int p2, .int p3, .int (((I 61) 6) * (nI 4)), .int w2, .int w4]) (st' := [.int ((((I 61) 6) * (nI 4)) + w2), .ref 63, .int ((((I 61) 6) * (nI 4)) + w2), .ref 63]) (E' := E) (I' := I) (J' := J) (S' := S) am_e38 rfl rfl rfl rfl ?_
    have hf15 := h.1
    replace h := h.2
    refine w_ia (k := 63) (n := 16) (jn := ((((I 61) 6) * (nI 4)) + w2).toNatClampNeg) am_e38 rfl rfl (by decide) hf15 rfl ?_
    refine w_st (i' := 90) (ls' := [.ref 61, .ref 12, .int p2, .int p3, .int (((I 61) 6) * (nI 4)), .int w2, .int w4]) (st' := [.ref 61, .int ((I 63) (((((I 61) 6) * (nI 4)) + w2).toNatClampNeg)), .int ((((I 61) 6) * (nI 4)) + w2), .ref 63]) (E' := E) (I' := I) (J' := J) (S' := S) am_e38 rfl rfl rfl rfl ?_
    refine w_st (i' := 91) (ls' := [.ref 61, .ref 12, .int p2, .int p3, .int (((I 61) 6) * (nI 4)), .int w2, .int w4]) (st' := [.ref 63, .int ((I 63) (((((I 61) 6) * (nI 4)) + w2).toNatClampNeg)), .int ((((I 61) 6) * (nI 4)) + w2), .ref 63]) (E' := E) (I' := I) (J' := J) (S' := S) am_e38 rfl rfl rfl rfl ?_
    refine w_st (i' := 92) (ls' := [.ref 61, .ref 12, .int p2, .int p3, .int (((I 61) 6) * (nI 4)), .int w2, .int w4]) (st' := [.int (((I 61) 6) * (nI 4)), .ref 63, .int ((I 63) (((((I 61) 6) * (nI 4)) + w2).toNatClampNeg)), .int ((((I 61) 6) * (nI 4)) + w2), .ref 63]) (E' := E) (I' := I) (J' := J) (S' := S) am_e38 rfl rfl rfl rfl ?_
    refine w_st (i' := 93) (ls' := [.ref 61, .ref 12, .int p2, .int p3, .int (((I 61) 6) * (nI 4)), .int w2, .int w4]) (st' := [.int w4, .int (((I 61) 6) * (nI 4)), .ref 63, .int ((I 63) (((((I 61) 6) * (nI 4)) + w2).toNatClampNeg)), .int ((((I 61) 6) * (nI 4)) + w2), .ref 63]) (E' := E) (I' := I) (J' := J) (S' := S) am_e38 rfl rfl rfl rfl ?_
    refine w_st (i' := 94) (ls' := [.ref 61, .ref 12, .int p2, .int p3, .int (((I 61) 6) * (nI 4)), .int w2, .int w4]) (st' := [.int ((((I 61) 6) * (nI 4)) + w4), .ref 63, .int ((I 63) (((((I 61) 6) * (nI 4)) + w2).toNatClampNeg)), .int ((((I 61) 6) * (nI 4)) + w2), .ref 63]) (E' := E) (I' := I) (J' := J) (S' := S) am_e38 rfl rfl rfl rfl ?_
    have hf16 := h.1
    replace h := h.2
    refine w_ia (k := 63) (n := 16) (jn := ((((I 61) 6) * (nI 4)) + w4).toNatClampNeg) am_e38 rfl rfl (by decide) hf16 rfl ?_
    refine w_st (i' := 96) (ls' := [.ref 61, .ref 12, .int p2, .int p3, .int (((I 61) 6) * (nI 4)), .int w2, .int w4]) (st' := [.int (((I 63) (((((I 61) 6) * (nI 4)) + w2).toNatClampNeg)) * ((I 63) (((((I 61) 6) * (nI 4)) + w4).toNatClampNeg))), .int ((((I 61) 6) * (nI 4)) + w2), .ref 63]) (E' := E) (I' := I) (J' := J) (S' := S) am_e38 rfl rfl rfl rfl ?_
    refine w_is (k := 63) (n := 16) (jn := ((((I 61) 6) * (nI 4)) + w2).toNatClampNeg) am_e38 rfl rfl (by decide) hf15 rfl ?_
    show am_ww 38 97 [.ref 61, .ref 12, .int p2, .int p3, .int (((I 61) 6) * (nI 4)), .int w2, .int w4] [] E (u_I I 63 (upd (I 63) (((((I 61) 6) * (nI 4)) + w2).toNatClampNeg) (((I 63) (((((I 61) 6) * (nI 4)) + w2).toNatClampNeg)) * ((I 63) (((((I 61) 6) * (nI 4)) + w4).toNatClampNeg))))) J S _
    refine w_st (i' := 139) (ls' := [.ref 61, .ref 12, .int p2, .int p3, .int (((I 61) 6) * (nI 4)), .int w2, .int w4]) (st' := []) (E' := E) (I' := (u_I I 63 (upd (I 63) (((((I 61) 6) * (nI 4)) + w2).toNatClampNeg) (((I 63) (((((I 61) 6) * (nI 4)) + w2).toNatClampNeg)) * ((I 63) (((((I 61) 6) * (nI 4)) + w4).toNatClampNeg)))))) (J' := J) (S' := S) am_e38 rfl rfl rfl rfl ?_
    exact w_end am_e38 rfl rfl rfl h
  by_cases c12 : ((I 13) p2.toNatClampNeg) = nI 12
  · replace h := h.2.2.2.2.2.2.1 c12
    refine w_to (i2 := 98) (by rw [c12]; first | done | rfl) ?_
    refine w_st (i' := 99) (ls' := [.ref 61, .ref 12, .int p2, .int p3, .int (((I 61) 6) * (nI 4)), .int w2, .int w4]) (st' := [.ref 61]) (E' := E) (I' := I) (J' := J) (S' := S) am_e38 rfl rfl rfl rfl ?_
    refine w_st (i' := 100) (ls' := [.ref 61, .ref 12, .int p2, .int p3, .int (((I 61) 6) * (nI 4)), .int w2, .int w4]) (st' := [.ref 63]) (E' := E) (I' := I) (J' := J) (S' := S) am_e38 rfl rfl rfl rfl ?_
    refine w_st (i' := 101) (ls' := [.ref 61, .ref 12, .int p2, .int p3, .int (((I 61) 6) * (nI 4)), .int w2, .int w4]) (st' := [.int (((I 61) 6) * (nI 4)), .ref 63]) (E' := E) (I' := I) (J' := J) (S' := S) am_e38 rfl rfl rfl rfl ?_
    refine w_st (i' := 102) (ls' := [.ref 61, .ref 12, .int p2, .int p3, .int (((I 61) 6) * (nI 4)), .int w2, .int w4]) (st' := [.int w2, .int (((I 61) 6) * (nI 4)), .ref 63]) (E' := E) (I' := I) (J' := J) (S' := S) am_e38 rfl rfl rfl rfl ?_
    refine w_st (i' := 103) (ls' := [.ref 61, .ref 12, .int p2, .int p3, .int (((I 61) 6) * (nI 4)), .int w2, .int w4]) (st' := [.int ((((I 61) 6) * (nI 4)) + w2), .ref 63]) (E' := E) (I' := I) (J' := J) (S' := S) am_e38 rfl rfl rfl rfl ?_
    refine w_st (i' := 104) (ls' := [.ref 61, .ref 12, .int p2, .int p3, .int (((I 61) 6) * (nI 4)), .int w2, .int w4]) (st' := [.int p3, .int ((((I 61) 6) * (nI 4)) + w2), .ref 63]) (E' := E) (I' := I) (J' := J) (S' := S) am_e38 rfl rfl rfl rfl ?_
    have hf17 := h.1
    replace h := h.2
    refine w_is (k := 63) (n := 16) (jn := ((((I 61) 6) * (nI 4)) + w2).toNatClampNeg) am_e38 rfl rfl (by decide) hf17 rfl ?_
    show am_ww 38 105 [.ref 61, .ref 12, .int p2, .int p3, .int (((I 61) 6) * (nI 4)), .int w2, .int w4] [] E (u_I I 63 (upd (I 63) (((((I 61) 6) * (nI 4)) + w2).toNatClampNeg) p3)) J S _
    refine w_st (i' := 106) (ls' := [.ref 61, .ref 12, .int p2, .int p3, .int (((I 61) 6) * (nI 4)), .int w2, .int w4]) (st' := [.ref 61]) (E' := E) (I' := (u_I I 63 (upd (I 63) (((((I 61) 6) * (nI 4)) + w2).toNatClampNeg) p3))) (J' := J) (S' := S) am_e38 rfl rfl rfl rfl ?_
    refine w_st (i' := 107) (ls' := [.ref 61, .ref 12, .int p2, .int p3, .int (((I 61) 6) * (nI 4)), .int w2, .int w4]) (st' := [.ref 67]) (E' := E) (I' := (u_I I 63 (upd (I 63) (((((I 61) 6) * (nI 4)) + w2).toNatClampNeg) p3))) (J' := J) (S' := S) am_e38 rfl rfl rfl rfl ?_
    refine w_st (i' := 108) (ls' := [.ref 61, .ref 12, .int p2, .int p3, .int (((I 61) 6) * (nI 4)), .int w2, .int w4]) (st' := [.int w4, .ref 67]) (E' := E) (I' := (u_I I 63 (upd (I 63) (((((I 61) 6) * (nI 4)) + w2).toNatClampNeg) p3))) (J' := J) (S' := S) am_e38 rfl rfl rfl rfl ?_
    refine w_st (i' := 109) (ls' := [.ref 61, .ref 12, .int p2, .int p3, .int (((I 61) 6) * (nI 4)), .int w2, .int w4]) (st' := [.int w4, .ref 67, .int w4, .ref 67]) (E' := E) (I' := (u_I I 63 (upd (I 63) (((((I 61) 6) * (nI 4)) + w2).toNatClampNeg) p3))) (J' := J) (S' := S) am_e38 rfl rfl rfl rfl ?_
    have hf18 := h.1
    replace h := h.2
    refine w_ia (k := 67) (n := 3) (jn := w4.toNatClampNeg) am_e38 rfl rfl (by decide) hf18 rfl ?_
    show am_ww 38 110 [.ref 61, .ref 12, .int p2, .int p3, .int (((I 61) 6) * (nI 4)), .int w2, .int w4] [.int ((I 67) w4.toNatClampNeg), .int w4, .ref 67] E (u_I I 63 (upd (I 63) (((((I 61) 6) * (nI 4)) + w2).toNatClampNeg) p3)) J S _
    refine w_st (i' := 111) (ls' := [.ref 61, .ref 12, .int p2, .int p3, .int (((I 61) 6) * (nI 4)), .int w2, .int w4]) (st' := [.int (nI 1), .int ((I 67) w4.toNatClampNeg), .int w4, .ref 67]) (E' := E) (I' := (u_I I 63 (upd (I 63) (((((I 61) 6) * (nI 4)) + w2).toNatClampNeg) p3))) (J' := J) (S' := S) am_e38 rfl rfl rfl rfl ?_
    refine w_st (i' := 112) (ls' := [.ref 61, .ref 12, .int p2, .int p3, .int (((I 61) 6) * (nI 4)), .int w2, .int w4]) (st' := [.int (((I 67) w4.toNatClampNeg) + (nI 1)), .int w4, .ref 67]) (E' := E) (I' := (u_I I 63 (upd (I 63) (((((I 61) 6) * (nI 4)) + w2).toNatClampNeg) p3))) (J' := J) (S' := S) am_e38 rfl rfl rfl rfl ?_
    refine w_is (k := 67) (n := 3) (jn := w4.toNatClampNeg) am_e38 rfl rfl (by decide) hf18 rfl ?_
    show am_ww 38 113 [.ref 61, .ref 12, .int p2, .int p3, .int (((I 61) 6) * (nI 4)), .int w2, .int w4] [] E (u_I (u_I I 63 (upd (I 63) (((((I 61) 6) * (nI 4)) + w2).toNatClampNeg) p3)) 67 (upd (I 67) w4.toNatClampNeg (((I 67) w4.toNatClampNeg) + (nI 1)))) J S _
    refine w_st (i' := 139) (ls' := [.ref 61, .ref 12, .int p2, .int p3, .int (((I 61) 6) * (nI 4)), .int w2, .int w4]) (st' := []) (E' := E) (I' := (u_I (u_I I 63 (upd (I 63) (((((I 61) 6) * (nI 4)) + w2).toNatClampNeg) p3)) 67 (upd (I 67) w4.toNatClampNeg (((I 67) w4.toNatClampNeg) + (nI 1))))) (J' := J) (S' := S) am_e38 rfl rfl rfl rfl ?_
    exact w_end am_e38 rfl rfl rfl h
  by_cases c13 : ((I 13) p2.toNatClampNeg) = nI 13
  · replace h := h.2.2.2.2.2.2.2.1 c13
    refine w_to (i2 := 114) (by rw [c13]; first | done | rfl) ?_
    refine w_st (i' := 115) (ls' := [.ref 61, .ref 12, .int p2, .int p3, .int (((I 61) 6) * (nI 4)), .int w2, .int w4]) (st' := [.ref 61]) (E' := E) (I' := I) (J' := J) (S' := S) am_e38 rfl rfl rfl rfl ?_
    refine w_st (i' := 116) (ls' := [.ref 61, .ref 12, .int p2, .int p3, .int (((I 61) 6) * (nI 4)), .int w2, .int w4]) (st' := [.ref 66]) (E' := E) (I' := I) (J' := J) (S' := S) am_e38 rfl rfl rfl rfl ?_
    refine w_st (i' := 117) (ls' := [.ref 61, .ref 12, .int p2, .int p3, .int (((I 61) 6) * (nI 4)), .int w2, .int w4]) (st' := [.int w2, .ref 66]) (E' := E) (I' := I) (J' := J) (S' := S) am_e38 rfl rfl rfl rfl ?_
    refine w_st (i' := 118) (ls' := [.ref 61, .ref 12, .int p2, .int p3, .int (((I 61) 6) * (nI 4)), .int w2, .int w4]) (st' := [.ref 61, .int w2, .ref 66]) (E' := E) (I' := I) (J' := J) (S' := S) am_e38 rfl rfl rfl rfl ?_
    refine w_st (i' := 119) (ls' := [.ref 61, .ref 12, .int p2, .int p3, .int (((I 61) 6) * (nI 4)), .int w2, .int w4]) (st' := [.int ((I 61) 6), .int w2, .ref 66]) (E' := E) (I' := I) (J' := J) (S' := S) am_e38 rfl rfl rfl rfl ?_
    have hf19 := h.1
    replace h := h.2
    refine w_is (k := 66) (n := 4) (jn := w2.toNatClampNeg) am_e38 rfl rfl (by decide) hf19 rfl ?_
    show am_ww 38 120 [.ref 61, .ref 12, .int p2, .int p3, .int (((I 61) 6) * (nI 4)), .int w2, .int w4] [] E (u_I I 66 (upd (I 66) w2.toNatClampNeg ((I 61) 6))) J S _
    refine w_st (i' := 139) (ls' := [.ref 61, .ref 12, .int p2, .int p3, .int (((I 61) 6) * (nI 4)), .int w2, .int w4]) (st' := []) (E' := E) (I' := (u_I I 66 (upd (I 66) w2.toNatClampNeg ((I 61) 6)))) (J' := J) (S' := S) am_e38 rfl rfl rfl rfl ?_
    exact w_end am_e38 rfl rfl rfl h
  by_cases c14 : ((I 13) p2.toNatClampNeg) = nI 14
  · replace h := h.2.2.2.2.2.2.2.2.1 c14
    refine w_to (i2 := 121) (by rw [c14]; first | done | rfl) ?_
    refine w_st (i' := 122) (ls' := [.ref 61, .ref 12, .int p2, .int p3, .int (((I 61) 6) * (nI 4)), .int w2, .int w4]) (st' := [.ref 61]) (E' := E) (I' := I) (J' := J) (S' := S) am_e38 rfl rfl rfl rfl ?_
    refine w_st (i' := 123) (ls' := [.ref 61, .ref 12, .int p2, .int p3, .int (((I 61) 6) * (nI 4)), .int w2, .int w4]) (st' := [.ref 66]) (E' := E) (I' := I) (J' := J) (S' := S) am_e38 rfl rfl rfl rfl ?_
    refine w_st (i' := 124) (ls' := [.ref 61, .ref 12, .int p2, .int p3, .int (((I 61) 6) * (nI 4)), .int w2, .int w4]) (st' := [.int w2, .ref 66]) (E' := E) (I' := I) (J' := J) (S' := S) am_e38 rfl rfl rfl rfl ?_
    refine w_st (i' := 125) (ls' := [.ref 61, .ref 12, .int p2, .int p3, .int (((I 61) 6) * (nI 4)), .int w2, .int w4]) (st' := [.ref 61, .int w2, .ref 66]) (E' := E) (I' := I) (J' := J) (S' := S) am_e38 rfl rfl rfl rfl ?_
    refine w_st (i' := 126) (ls' := [.ref 61, .ref 12, .int p2, .int p3, .int (((I 61) 6) * (nI 4)), .int w2, .int w4]) (st' := [.ref 66, .int w2, .ref 66]) (E' := E) (I' := I) (J' := J) (S' := S) am_e38 rfl rfl rfl rfl ?_
    refine w_st (i' := 127) (ls' := [.ref 61, .ref 12, .int p2, .int p3, .int (((I 61) 6) * (nI 4)), .int w2, .int w4]) (st' := [.int w2, .ref 66, .int w2, .ref 66]) (E' := E) (I' := I) (J' := J) (S' := S) am_e38 rfl rfl rfl rfl ?_
    have hf20 := h.1
    replace h := h.2
    refine w_ia (k := 66) (n := 4) (jn := w2.toNatClampNeg) am_e38 rfl rfl (by decide) hf20 rfl ?_
    refine w_st (i' := 129) (ls' := [.ref 61, .ref 12, .int p2, .int p3, .int (((I 61) 6) * (nI 4)), .int w2, .int w4]) (st' := [.ref 61, .int ((I 66) w2.toNatClampNeg), .int w2, .ref 66]) (E' := E) (I' := I) (J' := J) (S' := S) am_e38 rfl rfl rfl rfl ?_
    refine w_st (i' := 130) (ls' := [.ref 61, .ref 12, .int p2, .int p3, .int (((I 61) 6) * (nI 4)), .int w2, .int w4]) (st' := [.int ((I 61) 6), .int ((I 66) w2.toNatClampNeg), .int w2, .ref 66]) (E' := E) (I' := I) (J' := J) (S' := S) am_e38 rfl rfl rfl rfl ?_
    refine w_mg (i := 137) (ls' := [.ref 61, .ref 12, .int p2, .int p3, .int (((I 61) 6) * (nI 4)), .int w2, .int w4]) (st' := [.int (if ((I 66) w2.toNatClampNeg) = ((I 61) 6) then (-1) else ((I 66) w2.toNatClampNeg)), .int w2, .ref 66]) (fun hm => ?_) ?_
    · clear h
      refine w_if2 am_e38 rfl rfl (fun c => ?_) (fun c => ?_)
      · have m21 : ¬ (((I 66) w2.toNatClampNeg) = ((I 61) 6)) := (of_decide_eq_true c)
        refine w_st (i' := 134) (ls' := [.ref 61, .ref 12, .int p2, .int p3, .int (((I 61) 6) * (nI 4)), .int w2, .int w4]) (st' := [.ref 61, .int w2, .ref 66]) (E' := E) (I' := I) (J' := J) (S' := S) am_e38 rfl rfl rfl rfl ?_
        refine w_st (i' := 135) (ls' := [.ref 61, .ref 12, .int p2, .int p3, .int (((I 61) 6) * (nI 4)), .int w2, .int w4]) (st' := [.ref 66, .int w2, .ref 66]) (E' := E) (I' := I) (J' := J) (S' := S) am_e38 rfl rfl rfl rfl ?_
        refine w_st (i' := 136) (ls' := [.ref 61, .ref 12, .int p2, .int p3, .int (((I 61) 6) * (nI 4)), .int w2, .int w4]) (st' := [.int w2, .ref 66, .int w2, .ref 66]) (E' := E) (I' := I) (J' := J) (S' := S) am_e38 rfl rfl rfl rfl ?_
        refine w_ia (k := 66) (n := 4) (jn := w2.toNatClampNeg) am_e38 rfl rfl (by decide) hf20 rfl ?_
        show am_ww 38 137 [.ref 61, .ref 12, .int p2, .int p3, .int (((I 61) 6) * (nI 4)), .int w2, .int w4] [.int ((I 66) w2.toNatClampNeg), .int w2, .ref 66] E I J S _
        first | exact hm | (simp only [if_neg m21] at hm; exact hm)
      · have m21 : ((I 66) w2.toNatClampNeg) = ((I 61) 6) := (Decidable.not_not.mp (of_decide_eq_false c))
        refine w_st (i' := 132) (ls' := [.ref 61, .ref 12, .int p2, .int p3, .int (((I 61) 6) * (nI 4)), .int w2, .int w4]) (st' := [.int (-1), .int w2, .ref 66]) (E' := E) (I' := I) (J' := J) (S' := S) am_e38 rfl rfl rfl rfl ?_
        refine w_st (i' := 137) (ls' := [.ref 61, .ref 12, .int p2, .int p3, .int (((I 61) 6) * (nI 4)), .int w2, .int w4]) (st' := [.int (-1), .int w2, .ref 66]) (E' := E) (I' := I) (J' := J) (S' := S) am_e38 rfl rfl rfl rfl ?_
        first | exact hm | (simp only [if_pos m21] at hm; exact hm)
    refine w_var (fun w22 => am_ww 38 137 [.ref 61, .ref 12, .int p2, .int p3, .int (((I 61) 6) * (nI 4)), .int w2, .int w4] [.int w22, .int w2, .ref 66] E I J S _) (if ((I 66) w2.toNatClampNeg) = ((I 61) 6) then (-1) else ((I 66) w2.toNatClampNeg)) (fun w22 hw22 => ?_)
    replace h := h w22 hw22
    refine w_is (k := 66) (n := 4) (jn := w2.toNatClampNeg) am_e38 rfl rfl (by decide) hf20 rfl ?_
    show am_ww 38 138 [.ref 61, .ref 12, .int p2, .int p3, .int (((I 61) 6) * (nI 4)), .int w2, .int w4] [] E (u_I I 66 (upd (I 66) w2.toNatClampNeg w22)) J S _
    refine w_st (i' := 139) (ls' := [.ref 61, .ref 12, .int p2, .int p3, .int (((I 61) 6) * (nI 4)), .int w2, .int w4]) (st' := []) (E' := E) (I' := (u_I I 66 (upd (I 66) w2.toNatClampNeg w22))) (J' := J) (S' := S) am_e38 rfl rfl rfl rfl ?_
    exact w_end am_e38 rfl rfl rfl h
  replace h := h.2.2.2.2.2.2.2.2.2 c6 c7 c8 c9 c10 c11 c12 c13 c14
  refine w_to (i2 := 139) (am_tb_out (lo := 6) (up := 14) (by intro q h1 h2; have : q = 6 ∨ q = 7 ∨ q = 8 ∨ q = 9 ∨ q = 10 ∨ q = 11 ∨ q = 12 ∨ q = 13 ∨ q = 14 := (by omega); rcases this with rfl | rfl | rfl | rfl | rfl | rfl | rfl | rfl | rfl <;> assumption)) ?_
  exact w_end am_e38 rfl rfl rfl h
-- 16 begin
theorem g16_0_69  {E : am_Ev} {I : Nat → Nat → Int32} {J : Nat → Nat → Int64} {S : Nat → Nat → Option Nat} {Q : am_Qt}  (h : am_cl 13 [.ref 71, .int (nI 0)] E (u_I I 70 (va_cpy (I 16) (I 70) 0 0 16)) J S (q_V fun E1 I1 J1 S1 => am_cl 13 [.ref 72, .int (nI 0)] E1 I1 J1 S1 (q_V fun E2 I2 J2 S2 => am_cl 13 [.ref 73, .int (nI 0)] E2 I2 J2 S2 (q_V fun E3 I3 J3 S3 => am_cl 13 [.ref 74, .int (-1)] E3 I3 J3 S3 (q_V fun E4 I4 J4 S4 => am_cl 13 [.ref 75, .int (nI 0)] E4 I4 J4 S4 (q_V fun E5 I5 J5 S5 => Q (.inl none) E5 (u_I I5 69 (upd (I5 69) 6 (-1))) J5 S5)))))) : am_ww 16 0 [.ref 69, .ref 12] [] E I J S Q := by
  refine w_st (i' := 1) (ls' := [.ref 69, .ref 12]) (st' := [.ref 12]) (E' := E) (I' := I) (J' := J) (S' := S) am_e16 rfl rfl rfl rfl ?_
  refine w_st (i' := 2) (ls' := [.ref 69, .ref 12]) (st' := [.ref 16]) (E' := E) (I' := I) (J' := J) (S' := S) am_e16 rfl rfl rfl rfl ?_
  refine w_st (i' := 3) (ls' := [.ref 69, .ref 12]) (st' := [.int (nI 0), .ref 16]) (E' := E) (I' := I) (J' := J) (S' := S) am_e16 rfl rfl rfl rfl ?_
  refine w_st (i' := 4) (ls' := [.ref 69, .ref 12]) (st' := [.ref 69, .int (nI 0), .ref 16]) (E' := E) (I' := I) (J' := J) (S' := S) am_e16 rfl rfl rfl rfl ?_
  refine w_st (i' := 5) (ls' := [.ref 69, .ref 12]) (st' := [.ref 70, .int (nI 0), .ref 16]) (E' := E) (I' := I) (J' := J) (S' := S) am_e16 rfl rfl rfl rfl ?_
  refine w_st (i' := 6) (ls' := [.ref 69, .ref 12]) (st' := [.int (nI 0), .ref 70, .int (nI 0), .ref 16]) (E' := E) (I' := I) (J' := J) (S' := S) am_e16 rfl rfl rfl rfl ?_
  refine w_st (i' := 7) (ls' := [.ref 69, .ref 12]) (st' := [.int (nI 16), .int (nI 0), .ref 70, .int (nI 0), .ref 16]) (E' := E) (I' := I) (J' := J) (S' := S) am_e16 rfl rfl rfl rfl ?_
  refine w_cp (k := 16) (a := 70) (nk := 16) (na := 16) am_e16 rfl (by decide) (by decide) rfl rfl (by decide) (by unfold am_cpOk; decide) ?_
  show am_ww 16 8 [.ref 69, .ref 12] [] E (u_I I 70 (va_cpy (I 16) (I 70) 0 0 16)) J S _
  refine w_st (i' := 9) (ls' := [.ref 69, .ref 12]) (st' := [.ref 69]) (E' := E) (I' := (u_I I 70 (va_cpy (I 16) (I 70) 0 0 16))) (J' := J) (S' := S) am_e16 rfl rfl rfl rfl ?_
  refine w_st (i' := 10) (ls' := [.ref 69, .ref 12]) (st' := [.ref 71]) (E' := E) (I' := (u_I I 70 (va_cpy (I 16) (I 70) 0 0 16))) (J' := J) (S' := S) am_e16 rfl rfl rfl rfl ?_
  refine w_st (i' := 11) (ls' := [.ref 69, .ref 12]) (st' := [.int (nI 0), .ref 71]) (E' := E) (I' := (u_I I 70 (va_cpy (I 16) (I 70) 0 0 16))) (J' := J) (S' := S) am_e16 rfl rfl rfl rfl ?_
  refine w_cV am_e16 rfl rfl (as := [.ref 71, .int (nI 0)]) (rest := []) rfl rfl (am_ww.mono h ?_)
  rintro _ E1 I1 J1 S1 ⟨rfl, h⟩
  refine q_mkV ?_
  refine w_st (i' := 13) (ls' := [.ref 69, .ref 12]) (st' := [.ref 69]) (E' := E1) (I' := I1) (J' := J1) (S' := S1) am_e16 rfl rfl rfl rfl ?_
  refine w_st (i' := 14) (ls' := [.ref 69, .ref 12]) (st' := [.ref 72]) (E' := E1) (I' := I1) (J' := J1) (S' := S1) am_e16 rfl rfl rfl rfl ?_
  refine w_st (i' := 15) (ls' := [.ref 69, .ref 12]) (st' := [.int (nI 0), .ref 72]) (E' := E1) (I' := I1) (J' := J1) (S' := S1) am_e16 rfl rfl rfl rfl ?_
  refine w_cV am_e16 rfl rfl (as := [.ref 72, .int (nI 0)]) (rest := []) rfl rfl (am_ww.mono h ?_)
  rintro _ E2 I2 J2 S2 ⟨rfl, h⟩
  refine q_mkV ?_
  refine w_st (i' := 17) (ls' := [.ref 69, .ref 12]) (st' := [.ref 69]) (E' := E2) (I' := I2) (J' := J2) (S' := S2) am_e16 rfl rfl rfl rfl ?_
  refine w_st (i' := 18) (ls' := [.ref 69, .ref 12]) (st' := [.ref 73]) (E' := E2) (I' := I2) (J' := J2) (S' := S2) am_e16 rfl rfl rfl rfl ?_
  refine w_st (i' := 19) (ls' := [.ref 69, .ref 12]) (st' := [.int (nI 0), .ref 73]) (E' := E2) (I' := I2) (J' := J2) (S' := S2) am_e16 rfl rfl rfl rfl ?_
  refine w_cV am_e16 rfl rfl (as := [.ref 73, .int (nI 0)]) (rest := []) rfl rfl (am_ww.mono h ?_)
  rintro _ E3 I3 J3 S3 ⟨rfl, h⟩
  refine q_mkV ?_
  refine w_st (i' := 21) (ls' := [.ref 69, .ref 12]) (st' := [.ref 69]) (E' := E3) (I' := I3) (J' := J3) (S' := S3) am_e16 rfl rfl rfl rfl ?_
  refine w_st (i' := 22) (ls' := [.ref 69, .ref 12]) (st' := [.ref 74]) (E' := E3) (I' := I3) (J' := J3) (S' := S3) am_e16 rfl rfl rfl rfl ?_
  refine w_st (i' := 23) (ls' := [.ref 69, .ref 12]) (st' := [.int (-1), .ref 74]) (E' := E3) (I' := I3) (J' := J3) (S' := S3) am_e16 rfl rfl rfl rfl ?_
  refine w_cV am_e16 rfl rfl (as := [.ref 74, .int (-1)]) (rest := []) rfl rfl (am_ww.mono h ?_)
  rintro _ E4 I4 J4 S4 ⟨rfl, h⟩
  refine q_mkV ?_
  refine w_st (i' := 25) (ls' := [.ref 69, .ref 12]) (st' := [.ref 69]) (E' := E4) (I' := I4) (J' := J4) (S' := S4) am_e16 rfl rfl rfl rfl ?_
  refine w_st (i' := 26) (ls' := [.ref 69, .ref 12]) (st' := [.ref 75]) (E' := E4) (I' := I4) (J' := J4) (S' := S4) am_e16 rfl rfl rfl rfl ?_
  refine w_st (i' := 27) (ls' := [.ref 69, .ref 12]) (st' := [.int (nI 0), .ref 75]) (E' := E4) (I' := I4) (J' := J4) (S' := S4) am_e16 rfl rfl rfl rfl ?_
  refine w_cV am_e16 rfl rfl (as := [.ref 75, .int (nI 0)]) (rest := []) rfl rfl (am_ww.mono h ?_)
  rintro _ E5 I5 J5 S5 ⟨rfl, h⟩
  refine q_mkV ?_
  refine w_st (i' := 29) (ls' := [.ref 69, .ref 12]) (st' := [.ref 69]) (E' := E5) (I' := I5) (J' := J5) (S' := S5) am_e16 rfl rfl rfl rfl ?_
  refine w_st (i' := 30) (ls' := [.ref 69, .ref 12]) (st' := [.int (-1), .ref 69]) (E' := E5) (I' := I5) (J' := J5) (S' := S5) am_e16 rfl rfl rfl rfl ?_
  refine w_st (i' := 31) (ls' := [.ref 69, .ref 12]) (st' := []) (E' := E5) (I' := (u_I I5 69 (upd (I5 69) 6 (-1)))) (J' := J5) (S' := S5) am_e16 rfl rfl rfl rfl ?_
  exact w_end am_e16 rfl rfl rfl h
-- 24 nextRow
theorem g24_0_69 {p2 : Int32} {E : am_Ev} {I : Nat → Nat → Int32} {J : Nat → Nat → Int64} {S : Nat → Nat → Option Nat} {Q : am_Qt}  (h : (p2 < 0 → (Q (.inl (some (.int (-1)))) E I J S)) ∧ (¬ p2 < 0 → ((((I 12) 5) ≤ p2 → (Q (.inl (some (.int (-1)))) E I J S)) ∧ (¬ ((I 12) 5) ≤ p2 → (vp_in p2 4 ∧ ((((I 72) p2.toNatClampNeg) < ((I 15) p2.toNatClampNeg) → (Q (.inl (some (.int ((p2 * (nI 16)) + ((I 72) p2.toNatClampNeg))))) E I J S)) ∧ (¬ ((I 72) p2.toNatClampNeg) < ((I 15) p2.toNatClampNeg) → (Q (.inl (some (.int (-1)))) E I J S)))))))) : am_ww 24 0 [.ref 69, .ref 12, .int p2] [] E I J S Q := by
  refine w_st (i' := 1) (ls' := [.ref 69, .ref 12, .int p2]) (st' := [.int p2]) (E' := E) (I' := I) (J' := J) (S' := S) am_e24 rfl rfl rfl rfl ?_
  refine w_if1 am_e24 rfl rfl (fun c => ?_) (fun c => ?_)
  · replace h := h.1 (of_decide_eq_true c)
    refine w_st (i' := 12) (ls' := [.ref 69, .ref 12, .int p2]) (st' := [.int (-1)]) (E' := E) (I' := I) (J' := J) (S' := S) am_e24 rfl rfl rfl rfl ?_
    exact w_end am_e24 rfl rfl rfl h
  · replace h := h.2 (of_decide_eq_false c)
    refine w_st (i' := 3) (ls' := [.ref 69, .ref 12, .int p2]) (st' := [.int p2]) (E' := E) (I' := I) (J' := J) (S' := S) am_e24 rfl rfl rfl rfl ?_
    refine w_st (i' := 4) (ls' := [.ref 69, .ref 12, .int p2]) (st' := [.ref 12, .int p2]) (E' := E) (I' := I) (J' := J) (S' := S) am_e24 rfl rfl rfl rfl ?_
    refine w_st (i' := 5) (ls' := [.ref 69, .ref 12, .int p2]) (st' := [.int ((I 12) 5), .int p2]) (E' := E) (I' := I) (J' := J) (S' := S) am_e24 rfl rfl rfl rfl ?_
    refine w_if2 am_e24 rfl rfl (fun c => ?_) (fun c => ?_)
    · replace h := h.1 (of_decide_eq_true c)
      refine w_st (i' := 12) (ls' := [.ref 69, .ref 12, .int p2]) (st' := [.int (-1)]) (E' := E) (I' := I) (J' := J) (S' := S) am_e24 rfl rfl rfl rfl ?_
      exact w_end am_e24 rfl rfl rfl h
    · replace h := h.2 (of_decide_eq_false c)
      refine w_st (i' := 7) (ls' := [.ref 69, .ref 12, .int p2]) (st' := [.ref 69]) (E' := E) (I' := I) (J' := J) (S' := S) am_e24 rfl rfl rfl rfl ?_
      refine w_st (i' := 8) (ls' := [.ref 69, .ref 12, .int p2]) (st' := [.ref 12, .ref 69]) (E' := E) (I' := I) (J' := J) (S' := S) am_e24 rfl rfl rfl rfl ?_
      refine w_st (i' := 9) (ls' := [.ref 69, .ref 12, .int p2]) (st' := [.int p2, .ref 12, .ref 69]) (E' := E) (I' := I) (J' := J) (S' := S) am_e24 rfl rfl rfl rfl ?_
      refine w_cI am_e24 rfl rfl (as := [.ref 69, .ref 12, .int p2]) (rest := []) rfl rfl ?_
      show am_ww 25 0 [.ref 69, .ref 12, .int p2] [] E I J S _
      refine w_st (i' := 1) (ls' := [.ref 69, .ref 12, .int p2]) (st' := [.ref 69]) (E' := E) (I' := I) (J' := J) (S' := S) am_e25 rfl rfl rfl rfl ?_
      refine w_st (i' := 2) (ls' := [.ref 69, .ref 12, .int p2]) (st' := [.ref 72]) (E' := E) (I' := I) (J' := J) (S' := S) am_e25 rfl rfl rfl rfl ?_
      refine w_st (i' := 3) (ls' := [.ref 69, .ref 12, .int p2]) (st' := [.int p2, .ref 72]) (E' := E) (I' := I) (J' := J) (S' := S) am_e25 rfl rfl rfl rfl ?_
      have hf1 := h.1
      replace h := h.2
      refine w_ia (k := 72) (n := 4) (jn := p2.toNatClampNeg) am_e25 rfl rfl (by decide) hf1 rfl ?_
      refine w_st (i' := 5) (ls' := [.ref 69, .ref 12, .int p2]) (st' := [.ref 12, .int ((I 72) p2.toNatClampNeg)]) (E' := E) (I' := I) (J' := J) (S' := S) am_e25 rfl rfl rfl rfl ?_
      refine w_st (i' := 6) (ls' := [.ref 69, .ref 12, .int p2]) (st' := [.ref 15, .int ((I 72) p2.toNatClampNeg)]) (E' := E) (I' := I) (J' := J) (S' := S) am_e25 rfl rfl rfl rfl ?_
      refine w_st (i' := 7) (ls' := [.ref 69, .ref 12, .int p2]) (st' := [.int p2, .ref 15, .int ((I 72) p2.toNatClampNeg)]) (E' := E) (I' := I) (J' := J) (S' := S) am_e25 rfl rfl rfl rfl ?_
      refine w_ia (k := 15) (n := 4) (jn := p2.toNatClampNeg) am_e25 rfl rfl (by decide) hf1 rfl ?_
      refine w_if2 am_e25 rfl rfl (fun c => ?_) (fun c => ?_)
      · replace h := h.1 (of_decide_eq_true c)
        refine w_st (i' := 12) (ls' := [.ref 69, .ref 12, .int p2]) (st' := [.int (nI 0)]) (E' := E) (I' := I) (J' := J) (S' := S) am_e25 rfl rfl rfl rfl ?_
        refine w_end (E' := E) (I' := I) (J' := J) (S' := S) am_e25 rfl rfl rfl (q_mkI ?_)
        show am_ww 24 10 [.ref 69, .ref 12, .int p2] [.int (nI 0)] E I J S _
        refine w_st (i' := 13) (ls' := [.ref 69, .ref 12, .int p2]) (st' := []) (E' := E) (I' := I) (J' := J) (S' := S) am_e24 rfl rfl rfl rfl ?_
        refine w_st (i' := 14) (ls' := [.ref 69, .ref 12, .int p2]) (st' := [.int p2]) (E' := E) (I' := I) (J' := J) (S' := S) am_e24 rfl rfl rfl rfl ?_
        refine w_st (i' := 15) (ls' := [.ref 69, .ref 12, .int p2]) (st' := [.int (nI 16), .int p2]) (E' := E) (I' := I) (J' := J) (S' := S) am_e24 rfl rfl rfl rfl ?_
        refine w_st (i' := 16) (ls' := [.ref 69, .ref 12, .int p2]) (st' := [.int (p2 * (nI 16))]) (E' := E) (I' := I) (J' := J) (S' := S) am_e24 rfl rfl rfl rfl ?_
        refine w_st (i' := 17) (ls' := [.ref 69, .ref 12, .int p2]) (st' := [.ref 69, .int (p2 * (nI 16))]) (E' := E) (I' := I) (J' := J) (S' := S) am_e24 rfl rfl rfl rfl ?_
        refine w_st (i' := 18) (ls' := [.ref 69, .ref 12, .int p2]) (st' := [.ref 72, .int (p2 * (nI 16))]) (E' := E) (I' := I) (J' := J) (S' := S) am_e24 rfl rfl rfl rfl ?_
        refine w_st (i' := 19) (ls' := [.ref 69, .ref 12, .int p2]) (st' := [.int p2, .ref 72, .int (p2 * (nI 16))]) (E' := E) (I' := I) (J' := J) (S' := S) am_e24 rfl rfl rfl rfl ?_
        refine w_ia (k := 72) (n := 4) (jn := p2.toNatClampNeg) am_e24 rfl rfl (by decide) hf1 rfl ?_
        refine w_st (i' := 21) (ls' := [.ref 69, .ref 12, .int p2]) (st' := [.int ((p2 * (nI 16)) + ((I 72) p2.toNatClampNeg))]) (E' := E) (I' := I) (J' := J) (S' := S) am_e24 rfl rfl rfl rfl ?_
        exact w_ri am_e24 rfl rfl h
      · replace h := h.2 (of_decide_eq_false c)
        refine w_st (i' := 10) (ls' := [.ref 69, .ref 12, .int p2]) (st' := [.int (nI 1)]) (E' := E) (I' := I) (J' := J) (S' := S) am_e25 rfl rfl rfl rfl ?_
        refine w_st (i' := 12) (ls' := [.ref 69, .ref 12, .int p2]) (st' := [.int (nI 1)]) (E' := E) (I' := I) (J' := J) (S' := S) am_e25 rfl rfl rfl rfl ?_
        refine w_end (E' := E) (I' := I) (J' := J) (S' := S) am_e25 rfl rfl rfl (q_mkI ?_)
        show am_ww 24 10 [.ref 69, .ref 12, .int p2] [.int (nI 1)] E I J S _
        refine w_st (i' := 11) (ls' := [.ref 69, .ref 12, .int p2]) (st' := []) (E' := E) (I' := I) (J' := J) (S' := S) am_e24 rfl rfl rfl rfl ?_
        refine w_st (i' := 12) (ls' := [.ref 69, .ref 12, .int p2]) (st' := [.int (-1)]) (E' := E) (I' := I) (J' := J) (S' := S) am_e24 rfl rfl rfl rfl ?_
        exact w_end am_e24 rfl rfl rfl h
-- 23 canGo
theorem g23_0_69 {p2 : Int32} {E : am_Ev} {I : Nat → Nat → Int32} {J : Nat → Nat → Int64} {S : Nat → Nat → Option Nat} {Q : am_Qt}  (h : am_cl 24 [.ref 69, .ref 12, .int p2] E I J S (q_I fun v1 E1 I1 J1 S1 => (v1 = (-1) → (Q (.inl (some (.int (nI 0)))) E1 I1 J1 S1)) ∧ (¬ v1 = (-1) → (vp_in v1 64 ∧ ((((I1 13) v1.toNatClampNeg) = (nI 13) → (vp_in ((v1 * (nI 3)) + (nI 0)) 192 ∧ (∀ w7 : Int32, w7 = ((I1 14) (((v1 * (nI 3)) + (nI 0)).toNatClampNeg)) → (vp_in w7 4 ∧ ((((I1 74) w7.toNatClampNeg) = (-1) → (Q (.inl (some (.int (nI 1)))) E1 I1 J1 S1)) ∧ (¬ ((I1 74) w7.toNatClampNeg) = (-1) → (Q (.inl (some (.int (nI 0)))) E1 I1 J1 S1))))))) ∧ (¬ ((I1 13) v1.toNatClampNeg) = (nI 13) → ((((I1 13) v1.toNatClampNeg) = (nI 12) → (vp_in ((v1 * (nI 3)) + (nI 1)) 192 ∧ (∀ w4 : Int32, w4 = ((I1 14) (((v1 * (nI 3)) + (nI 1)).toNatClampNeg)) → (vp_in w4 3 ∧ ((((I1 26) w4.toNatClampNeg) ≤ ((I1 75) w4.toNatClampNeg) → (Q (.inl (some (.int (nI 0)))) E1 I1 J1 S1)) ∧ (¬ ((I1 26) w4.toNatClampNeg) ≤ ((I1 75) w4.toNatClampNeg) → (Q (.inl (some (.int (nI 1)))) E1 I1 J1 S1))))))) ∧ (¬ ((I1 13) v1.toNatClampNeg) = (nI 12) → (Q (.inl (some (.int (nI 1)))) E1 I1 J1 S1))))))))) : am_ww 23 0 [.ref 69, .ref 12, .int p2, .ref 26, am_U, am_U] [] E I J S Q := by
  refine w_st (i' := 1) (ls' := [.ref 69, .ref 12, .int p2, .ref 26, am_U, am_U]) (st' := [.ref 69]) (E' := E) (I' := I) (J' := J) (S' := S) am_e23 rfl rfl rfl rfl ?_
  refine w_st (i' := 2) (ls' := [.ref 69, .ref 12, .int p2, .ref 26, am_U, am_U]) (st' := [.ref 12, .ref 69]) (E' := E) (I' := I) (J' := J) (S' := S) am_e23 rfl rfl rfl rfl ?_
  refine w_st (i' := 3) (ls' := [.ref 69, .ref 12, .int p2, .ref 26, am_U, am_U]) (st' := [.int p2, .ref 12, .ref 69]) (E' := E) (I' := I) (J' := J) (S' := S) am_e23 rfl rfl rfl rfl ?_
  refine w_cI am_e23 rfl rfl (as := [.ref 69, .ref 12, .int p2]) (rest := []) rfl rfl (am_ww.mono h ?_)
  rintro _ E1 I1 J1 S1 ⟨v1, rfl, h⟩
  refine q_mkI ?_
  refine w_st (i' := 5) (ls' := [.ref 69, .ref 12, .int p2, .ref 26, .int v1, am_U]) (st' := []) (E' := E1) (I' := I1) (J' := J1) (S' := S1) am_e23 rfl rfl rfl rfl ?_
  refine w_st (i' := 6) (ls' := [.ref 69, .ref 12, .int p2, .ref 26, .int v1, am_U]) (st' := [.int v1]) (E' := E1) (I' := I1) (J' := J1) (S' := S1) am_e23 rfl rfl rfl rfl ?_
  refine w_st (i' := 7) (ls' := [.ref 69, .ref 12, .int p2, .ref 26, .int v1, am_U]) (st' := [.int (-1), .int v1]) (E' := E1) (I' := I1) (J' := J1) (S' := S1) am_e23 rfl rfl rfl rfl ?_
  refine w_if2 am_e23 rfl rfl (fun c => ?_) (fun c => ?_)
  · replace h := h.2 (of_decide_eq_true c)
    refine w_st (i' := 11) (ls' := [.ref 69, .ref 12, .int p2, .ref 26, .int v1, am_U]) (st' := [.ref 12]) (E' := E1) (I' := I1) (J' := J1) (S' := S1) am_e23 rfl rfl rfl rfl ?_
    refine w_st (i' := 12) (ls' := [.ref 69, .ref 12, .int p2, .ref 26, .int v1, am_U]) (st' := [.ref 13]) (E' := E1) (I' := I1) (J' := J1) (S' := S1) am_e23 rfl rfl rfl rfl ?_
    refine w_st (i' := 13) (ls' := [.ref 69, .ref 12, .int p2, .ref 26, .int v1, am_U]) (st' := [.int v1, .ref 13]) (E' := E1) (I' := I1) (J' := J1) (S' := S1) am_e23 rfl rfl rfl rfl ?_
    have hf2 := h.1
    replace h := h.2
    refine w_ia (k := 13) (n := 64) (jn := v1.toNatClampNeg) am_e23 rfl rfl (by decide) hf2 rfl ?_
    refine w_st (i' := 15) (ls' := [.ref 69, .ref 12, .int p2, .ref 26, .int v1, am_U]) (st' := [.int (nI 13), .int ((I1 13) v1.toNatClampNeg)]) (E' := E1) (I' := I1) (J' := J1) (S' := S1) am_e23 rfl rfl rfl rfl ?_
    refine w_if2 am_e23 rfl rfl (fun c => ?_) (fun c => ?_)
    · replace h := h.2 (of_decide_eq_true c)
      refine w_st (i' := 30) (ls' := [.ref 69, .ref 12, .int p2, .ref 26, .int v1, am_U]) (st' := [.ref 12]) (E' := E1) (I' := I1) (J' := J1) (S' := S1) am_e23 rfl rfl rfl rfl ?_
      refine w_st (i' := 31) (ls' := [.ref 69, .ref 12, .int p2, .ref 26, .int v1, am_U]) (st' := [.ref 13]) (E' := E1) (I' := I1) (J' := J1) (S' := S1) am_e23 rfl rfl rfl rfl ?_
      refine w_st (i' := 32) (ls' := [.ref 69, .ref 12, .int p2, .ref 26, .int v1, am_U]) (st' := [.int v1, .ref 13]) (E' := E1) (I' := I1) (J' := J1) (S' := S1) am_e23 rfl rfl rfl rfl ?_
      refine w_ia (k := 13) (n := 64) (jn := v1.toNatClampNeg) am_e23 rfl rfl (by decide) hf2 rfl ?_
      refine w_st (i' := 34) (ls' := [.ref 69, .ref 12, .int p2, .ref 26, .int v1, am_U]) (st' := [.int (nI 12), .int ((I1 13) v1.toNatClampNeg)]) (E' := E1) (I' := I1) (J' := J1) (S' := S1) am_e23 rfl rfl rfl rfl ?_
      refine w_if2 am_e23 rfl rfl (fun c => ?_) (fun c => ?_)
      · replace h := h.2 (of_decide_eq_true c)
        refine w_st (i' := 53) (ls' := [.ref 69, .ref 12, .int p2, .ref 26, .int v1, am_U]) (st' := [.int (nI 1)]) (E' := E1) (I' := I1) (J' := J1) (S' := S1) am_e23 rfl rfl rfl rfl ?_
        exact w_end am_e23 rfl rfl rfl h
      · replace h := h.1 (Decidable.not_not.mp (of_decide_eq_false c))
        refine w_st (i' := 36) (ls' := [.ref 69, .ref 12, .int p2, .ref 26, .int v1, am_U]) (st' := [.ref 12]) (E' := E1) (I' := I1) (J' := J1) (S' := S1) am_e23 rfl rfl rfl rfl ?_
        refine w_st (i' := 37) (ls' := [.ref 69, .ref 12, .int p2, .ref 26, .int v1, am_U]) (st' := [.int v1, .ref 12]) (E' := E1) (I' := I1) (J' := J1) (S' := S1) am_e23 rfl rfl rfl rfl ?_
        refine w_st (i' := 38) (ls' := [.ref 69, .ref 12, .int p2, .ref 26, .int v1, am_U]) (st' := [.int (nI 1), .int v1, .ref 12]) (E' := E1) (I' := I1) (J' := J1) (S' := S1) am_e23 rfl rfl rfl rfl ?_
        refine w_cI am_e23 rfl rfl (as := [.ref 12, .int v1, .int (nI 1)]) (rest := []) rfl rfl ?_
        show am_ww 26 0 [.ref 12, .int v1, .int (nI 1)] [] E1 I1 J1 S1 _
        refine w_st (i' := 1) (ls' := [.ref 12, .int v1, .int (nI 1)]) (st' := [.ref 12]) (E' := E1) (I' := I1) (J' := J1) (S' := S1) am_e26 rfl rfl rfl rfl ?_
        refine w_st (i' := 2) (ls' := [.ref 12, .int v1, .int (nI 1)]) (st' := [.ref 14]) (E' := E1) (I' := I1) (J' := J1) (S' := S1) am_e26 rfl rfl rfl rfl ?_
        refine w_st (i' := 3) (ls' := [.ref 12, .int v1, .int (nI 1)]) (st' := [.int v1, .ref 14]) (E' := E1) (I' := I1) (J' := J1) (S' := S1) am_e26 rfl rfl rfl rfl ?_
        refine w_st (i' := 4) (ls' := [.ref 12, .int v1, .int (nI 1)]) (st' := [.int (nI 3), .int v1, .ref 14]) (E' := E1) (I' := I1) (J' := J1) (S' := S1) am_e26 rfl rfl rfl rfl ?_
        refine w_st (i' := 5) (ls' := [.ref 12, .int v1, .int (nI 1)]) (st' := [.int (v1 * (nI 3)), .ref 14]) (E' := E1) (I' := I1) (J' := J1) (S' := S1) am_e26 rfl rfl rfl rfl ?_
        refine w_st (i' := 6) (ls' := [.ref 12, .int v1, .int (nI 1)]) (st' := [.int (nI 1), .int (v1 * (nI 3)), .ref 14]) (E' := E1) (I' := I1) (J' := J1) (S' := S1) am_e26 rfl rfl rfl rfl ?_
        refine w_st (i' := 7) (ls' := [.ref 12, .int v1, .int (nI 1)]) (st' := [.int ((v1 * (nI 3)) + (nI 1)), .ref 14]) (E' := E1) (I' := I1) (J' := J1) (S' := S1) am_e26 rfl rfl rfl rfl ?_
        have hf3 := h.1
        replace h := h.2
        refine w_ia (k := 14) (n := 192) (jn := ((v1 * (nI 3)) + (nI 1)).toNatClampNeg) am_e26 rfl rfl (by decide) hf3 rfl ?_
        refine w_ri am_e26 rfl rfl (q_mkI ?_)
        show am_ww 23 39 [.ref 69, .ref 12, .int p2, .ref 26, .int v1, am_U] [.int ((I1 14) (((v1 * (nI 3)) + (nI 1)).toNatClampNeg))] E1 I1 J1 S1 _
        refine w_var (fun w4 => am_ww 23 39 [.ref 69, .ref 12, .int p2, .ref 26, .int v1, am_U] [.int w4] E1 I1 J1 S1 _) ((I1 14) (((v1 * (nI 3)) + (nI 1)).toNatClampNeg)) (fun w4 hw4 => ?_)
        replace h := h w4 hw4
        refine w_st (i' := 40) (ls' := [.ref 69, .ref 12, .int p2, .ref 26, .int v1, .int w4]) (st' := []) (E' := E1) (I' := I1) (J' := J1) (S' := S1) am_e23 rfl rfl rfl rfl ?_
        refine w_st (i' := 41) (ls' := [.ref 69, .ref 12, .int p2, .ref 26, .int v1, .int w4]) (st' := [.ref 69]) (E' := E1) (I' := I1) (J' := J1) (S' := S1) am_e23 rfl rfl rfl rfl ?_
        refine w_st (i' := 42) (ls' := [.ref 69, .ref 12, .int p2, .ref 26, .int v1, .int w4]) (st' := [.ref 75]) (E' := E1) (I' := I1) (J' := J1) (S' := S1) am_e23 rfl rfl rfl rfl ?_
        refine w_st (i' := 43) (ls' := [.ref 69, .ref 12, .int p2, .ref 26, .int v1, .int w4]) (st' := [.int w4, .ref 75]) (E' := E1) (I' := I1) (J' := J1) (S' := S1) am_e23 rfl rfl rfl rfl ?_
        have hf5 := h.1
        replace h := h.2
        refine w_ia (k := 75) (n := 3) (jn := w4.toNatClampNeg) am_e23 rfl rfl (by decide) hf5 rfl ?_
        refine w_st (i' := 45) (ls' := [.ref 69, .ref 12, .int p2, .ref 26, .int v1, .int w4]) (st' := [.ref 26, .int ((I1 75) w4.toNatClampNeg)]) (E' := E1) (I' := I1) (J' := J1) (S' := S1) am_e23 rfl rfl rfl rfl ?_
        refine w_st (i' := 46) (ls' := [.ref 69, .ref 12, .int p2, .ref 26, .int v1, .int w4]) (st' := [.int w4, .ref 26, .int ((I1 75) w4.toNatClampNeg)]) (E' := E1) (I' := I1) (J' := J1) (S' := S1) am_e23 rfl rfl rfl rfl ?_
        refine w_ia (k := 26) (n := 3) (jn := w4.toNatClampNeg) am_e23 rfl rfl (by decide) hf5 rfl ?_
        refine w_if2 am_e23 rfl rfl (fun c => ?_) (fun c => ?_)
        · replace h := h.1 (of_decide_eq_true c)
          refine w_st (i' := 51) (ls' := [.ref 69, .ref 12, .int p2, .ref 26, .int v1, .int w4]) (st' := [.int (nI 0)]) (E' := E1) (I' := I1) (J' := J1) (S' := S1) am_e23 rfl rfl rfl rfl ?_
          exact w_end am_e23 rfl rfl rfl h
        · replace h := h.2 (of_decide_eq_false c)
          refine w_st (i' := 49) (ls' := [.ref 69, .ref 12, .int p2, .ref 26, .int v1, .int w4]) (st' := [.int (nI 1)]) (E' := E1) (I' := I1) (J' := J1) (S' := S1) am_e23 rfl rfl rfl rfl ?_
          refine w_st (i' := 51) (ls' := [.ref 69, .ref 12, .int p2, .ref 26, .int v1, .int w4]) (st' := [.int (nI 1)]) (E' := E1) (I' := I1) (J' := J1) (S' := S1) am_e23 rfl rfl rfl rfl ?_
          exact w_end am_e23 rfl rfl rfl h
    · replace h := h.1 (Decidable.not_not.mp (of_decide_eq_false c))
      refine w_st (i' := 17) (ls' := [.ref 69, .ref 12, .int p2, .ref 26, .int v1, am_U]) (st' := [.ref 69]) (E' := E1) (I' := I1) (J' := J1) (S' := S1) am_e23 rfl rfl rfl rfl ?_
      refine w_st (i' := 18) (ls' := [.ref 69, .ref 12, .int p2, .ref 26, .int v1, am_U]) (st' := [.ref 74]) (E' := E1) (I' := I1) (J' := J1) (S' := S1) am_e23 rfl rfl rfl rfl ?_
      refine w_st (i' := 19) (ls' := [.ref 69, .ref 12, .int p2, .ref 26, .int v1, am_U]) (st' := [.ref 12, .ref 74]) (E' := E1) (I' := I1) (J' := J1) (S' := S1) am_e23 rfl rfl rfl rfl ?_
      refine w_st (i' := 20) (ls' := [.ref 69, .ref 12, .int p2, .ref 26, .int v1, am_U]) (st' := [.int v1, .ref 12, .ref 74]) (E' := E1) (I' := I1) (J' := J1) (S' := S1) am_e23 rfl rfl rfl rfl ?_
      refine w_st (i' := 21) (ls' := [.ref 69, .ref 12, .int p2, .ref 26, .int v1, am_U]) (st' := [.int (nI 0), .int v1, .ref 12, .ref 74]) (E' := E1) (I' := I1) (J' := J1) (S' := S1) am_e23 rfl rfl rfl rfl ?_
      refine w_cI am_e23 rfl rfl (as := [.ref 12, .int v1, .int (nI 0)]) (rest := [.ref 74]) rfl rfl ?_
      show am_ww 26 0 [.ref 12, .int v1, .int (nI 0)] [] E1 I1 J1 S1 _
      refine w_st (i' := 1) (ls' := [.ref 12, .int v1, .int (nI 0)]) (st' := [.ref 12]) (E' := E1) (I' := I1) (J' := J1) (S' := S1) am_e26 rfl rfl rfl rfl ?_
      refine w_st (i' := 2) (ls' := [.ref 12, .int v1, .int (nI 0)]) (st' := [.ref 14]) (E' := E1) (I' := I1) (J' := J1) (S' := S1) am_e26 rfl rfl rfl rfl ?_
      refine w_st (i' := 3) (ls' := [.ref 12, .int v1, .int (nI 0)]) (st' := [.int v1, .ref 14]) (E' := E1) (I' := I1) (J' := J1) (S' := S1) am_e26 rfl rfl rfl rfl ?_
      refine w_st (i' := 4) (ls' := [.ref 12, .int v1, .int (nI 0)]) (st' := [.int (nI 3), .int v1, .ref 14]) (E' := E1) (I' := I1) (J' := J1) (S' := S1) am_e26 rfl rfl rfl rfl ?_
      refine w_st (i' := 5) (ls' := [.ref 12, .int v1, .int (nI 0)]) (st' := [.int (v1 * (nI 3)), .ref 14]) (E' := E1) (I' := I1) (J' := J1) (S' := S1) am_e26 rfl rfl rfl rfl ?_
      refine w_st (i' := 6) (ls' := [.ref 12, .int v1, .int (nI 0)]) (st' := [.int (nI 0), .int (v1 * (nI 3)), .ref 14]) (E' := E1) (I' := I1) (J' := J1) (S' := S1) am_e26 rfl rfl rfl rfl ?_
      refine w_st (i' := 7) (ls' := [.ref 12, .int v1, .int (nI 0)]) (st' := [.int ((v1 * (nI 3)) + (nI 0)), .ref 14]) (E' := E1) (I' := I1) (J' := J1) (S' := S1) am_e26 rfl rfl rfl rfl ?_
      have hf6 := h.1
      replace h := h.2
      refine w_ia (k := 14) (n := 192) (jn := ((v1 * (nI 3)) + (nI 0)).toNatClampNeg) am_e26 rfl rfl (by decide) hf6 rfl ?_
      refine w_ri am_e26 rfl rfl (q_mkI ?_)
      show am_ww 23 22 [.ref 69, .ref 12, .int p2, .ref 26, .int v1, am_U] [.int ((I1 14) (((v1 * (nI 3)) + (nI 0)).toNatClampNeg)), .ref 74] E1 I1 J1 S1 _
      refine w_var (fun w7 => am_ww 23 22 [.ref 69, .ref 12, .int p2, .ref 26, .int v1, am_U] [.int w7, .ref 74] E1 I1 J1 S1 _) ((I1 14) (((v1 * (nI 3)) + (nI 0)).toNatClampNeg)) (fun w7 hw7 => ?_)
      replace h := h w7 hw7
      have hf8 := h.1
      replace h := h.2
      refine w_ia (k := 74) (n := 4) (jn := w7.toNatClampNeg) am_e23 rfl rfl (by decide) hf8 rfl ?_
      refine w_st (i' := 24) (ls' := [.ref 69, .ref 12, .int p2, .ref 26, .int v1, am_U]) (st' := [.int (-1), .int ((I1 74) w7.toNatClampNeg)]) (E' := E1) (I' := I1) (J' := J1) (S' := S1) am_e23 rfl rfl rfl rfl ?_
      refine w_if2 am_e23 rfl rfl (fun c => ?_) (fun c => ?_)
      · replace h := h.2 (of_decide_eq_true c)
        refine w_st (i' := 28) (ls' := [.ref 69, .ref 12, .int p2, .ref 26, .int v1, am_U]) (st' := [.int (nI 0)]) (E' := E1) (I' := I1) (J' := J1) (S' := S1) am_e23 rfl rfl rfl rfl ?_
        exact w_end am_e23 rfl rfl rfl h
      · replace h := h.1 (Decidable.not_not.mp (of_decide_eq_false c))
        refine w_st (i' := 26) (ls' := [.ref 69, .ref 12, .int p2, .ref 26, .int v1, am_U]) (st' := [.int (nI 1)]) (E' := E1) (I' := I1) (J' := J1) (S' := S1) am_e23 rfl rfl rfl rfl ?_
        refine w_st (i' := 28) (ls' := [.ref 69, .ref 12, .int p2, .ref 26, .int v1, am_U]) (st' := [.int (nI 1)]) (E' := E1) (I' := I1) (J' := J1) (S' := S1) am_e23 rfl rfl rfl rfl ?_
        exact w_end am_e23 rfl rfl rfl h
  · replace h := h.1 (Decidable.not_not.mp (of_decide_eq_false c))
    refine w_st (i' := 9) (ls' := [.ref 69, .ref 12, .int p2, .ref 26, .int v1, am_U]) (st' := [.int (nI 0)]) (E' := E1) (I' := I1) (J' := J1) (S' := S1) am_e23 rfl rfl rfl rfl ?_
    exact w_end am_e23 rfl rfl rfl h
-- 34 sourceWanted
theorem g34_0_69  {E : am_Ev} {I : Nat → Nat → Int32} {J : Nat → Nat → Int64} {S : Nat → Nat → Option Nat} {Q : am_Qt}  (h : am_cl 24 [.ref 69, .ref 12, .int ((I 69) 6)] E I J S (q_I fun v1 E1 I1 J1 S1 => (v1 = (-1) → (Q (.inl (some (.int (-1)))) E1 I1 J1 S1)) ∧ (¬ v1 = (-1) → (vp_in v1 64 ∧ ((((I1 13) v1.toNatClampNeg) = (nI 12) → (vp_in ((v1 * (nI 3)) + (nI 1)) 192 ∧ (∀ w4 : Int32, w4 = ((I1 14) (((v1 * (nI 3)) + (nI 1)).toNatClampNeg)) → (Q (.inl (some (.int w4))) E1 I1 J1 S1)))) ∧ (¬ ((I1 13) v1.toNatClampNeg) = (nI 12) → (Q (.inl (some (.int (-1)))) E1 I1 J1 S1))))))) : am_ww 34 0 [.ref 69, .ref 12, am_U] [] E I J S Q := by
  refine w_st (i' := 1) (ls' := [.ref 69, .ref 12, am_U]) (st' := [.ref 69]) (E' := E) (I' := I) (J' := J) (S' := S) am_e34 rfl rfl rfl rfl ?_
  refine w_st (i' := 2) (ls' := [.ref 69, .ref 12, am_U]) (st' := [.ref 12, .ref 69]) (E' := E) (I' := I) (J' := J) (S' := S) am_e34 rfl rfl rfl rfl ?_
  refine w_st (i' := 3) (ls' := [.ref 69, .ref 12, am_U]) (st' := [.ref 69, .ref 12, .ref 69]) (E' := E) (I' := I) (J' := J) (S' := S) am_e34 rfl rfl rfl rfl ?_
  refine w_st (i' := 4) (ls' := [.ref 69, .ref 12, am_U]) (st' := [.int ((I 69) 6), .ref 12, .ref 69]) (E' := E) (I' := I) (J' := J) (S' := S) am_e34 rfl rfl rfl rfl ?_
  refine w_cI am_e34 rfl rfl (as := [.ref 69, .ref 12, .int ((I 69) 6)]) (rest := []) rfl rfl (am_ww.mono h ?_)
  rintro _ E1 I1 J1 S1 ⟨v1, rfl, h⟩
  refine q_mkI ?_
  refine w_st (i' := 6) (ls' := [.ref 69, .ref 12, .int v1]) (st' := []) (E' := E1) (I' := I1) (J' := J1) (S' := S1) am_e34 rfl rfl rfl rfl ?_
  refine w_st (i' := 7) (ls' := [.ref 69, .ref 12, .int v1]) (st' := [.int v1]) (E' := E1) (I' := I1) (J' := J1) (S' := S1) am_e34 rfl rfl rfl rfl ?_
  refine w_st (i' := 8) (ls' := [.ref 69, .ref 12, .int v1]) (st' := [.int (-1), .int v1]) (E' := E1) (I' := I1) (J' := J1) (S' := S1) am_e34 rfl rfl rfl rfl ?_
  refine w_if2 am_e34 rfl rfl (fun c => ?_) (fun c => ?_)
  · replace h := h.1 (of_decide_eq_true c)
    refine w_st (i' := 21) (ls' := [.ref 69, .ref 12, .int v1]) (st' := [.int (-1)]) (E' := E1) (I' := I1) (J' := J1) (S' := S1) am_e34 rfl rfl rfl rfl ?_
    exact w_end am_e34 rfl rfl rfl h
  · replace h := h.2 (of_decide_eq_false c)
    refine w_st (i' := 10) (ls' := [.ref 69, .ref 12, .int v1]) (st' := [.ref 12]) (E' := E1) (I' := I1) (J' := J1) (S' := S1) am_e34 rfl rfl rfl rfl ?_
    refine w_st (i' := 11) (ls' := [.ref 69, .ref 12, .int v1]) (st' := [.ref 13]) (E' := E1) (I' := I1) (J' := J1) (S' := S1) am_e34 rfl rfl rfl rfl ?_
    refine w_st (i' := 12) (ls' := [.ref 69, .ref 12, .int v1]) (st' := [.int v1, .ref 13]) (E' := E1) (I' := I1) (J' := J1) (S' := S1) am_e34 rfl rfl rfl rfl ?_
    have hf2 := h.1
    replace h := h.2
    refine w_ia (k := 13) (n := 64) (jn := v1.toNatClampNeg) am_e34 rfl rfl (by decide) hf2 rfl ?_
    refine w_st (i' := 14) (ls' := [.ref 69, .ref 12, .int v1]) (st' := [.int (nI 12), .int ((I1 13) v1.toNatClampNeg)]) (E' := E1) (I' := I1) (J' := J1) (S' := S1) am_e34 rfl rfl rfl rfl ?_
    refine w_if2 am_e34 rfl rfl (fun c => ?_) (fun c => ?_)
    · replace h := h.2 (of_decide_eq_true c)
      refine w_st (i' := 21) (ls' := [.ref 69, .ref 12, .int v1]) (st' := [.int (-1)]) (E' := E1) (I' := I1) (J' := J1) (S' := S1) am_e34 rfl rfl rfl rfl ?_
      exact w_end am_e34 rfl rfl rfl h
    · replace h := h.1 (Decidable.not_not.mp (of_decide_eq_false c))
      refine w_st (i' := 16) (ls' := [.ref 69, .ref 12, .int v1]) (st' := [.ref 12]) (E' := E1) (I' := I1) (J' := J1) (S' := S1) am_e34 rfl rfl rfl rfl ?_
      refine w_st (i' := 17) (ls' := [.ref 69, .ref 12, .int v1]) (st' := [.int v1, .ref 12]) (E' := E1) (I' := I1) (J' := J1) (S' := S1) am_e34 rfl rfl rfl rfl ?_
      refine w_st (i' := 18) (ls' := [.ref 69, .ref 12, .int v1]) (st' := [.int (nI 1), .int v1, .ref 12]) (E' := E1) (I' := I1) (J' := J1) (S' := S1) am_e34 rfl rfl rfl rfl ?_
      refine w_cI am_e34 rfl rfl (as := [.ref 12, .int v1, .int (nI 1)]) (rest := []) rfl rfl ?_
      show am_ww 26 0 [.ref 12, .int v1, .int (nI 1)] [] E1 I1 J1 S1 _
      refine w_st (i' := 1) (ls' := [.ref 12, .int v1, .int (nI 1)]) (st' := [.ref 12]) (E' := E1) (I' := I1) (J' := J1) (S' := S1) am_e26 rfl rfl rfl rfl ?_
      refine w_st (i' := 2) (ls' := [.ref 12, .int v1, .int (nI 1)]) (st' := [.ref 14]) (E' := E1) (I' := I1) (J' := J1) (S' := S1) am_e26 rfl rfl rfl rfl ?_
      refine w_st (i' := 3) (ls' := [.ref 12, .int v1, .int (nI 1)]) (st' := [.int v1, .ref 14]) (E' := E1) (I' := I1) (J' := J1) (S' := S1) am_e26 rfl rfl rfl rfl ?_
      refine w_st (i' := 4) (ls' := [.ref 12, .int v1, .int (nI 1)]) (st' := [.int (nI 3), .int v1, .ref 14]) (E' := E1) (I' := I1) (J' := J1) (S' := S1) am_e26 rfl rfl rfl rfl ?_
      refine w_st (i' := 5) (ls' := [.ref 12, .int v1, .int (nI 1)]) (st' := [.int (v1 * (nI 3)), .ref 14]) (E' := E1) (I' := I1) (J' := J1) (S' := S1) am_e26 rfl rfl rfl rfl ?_
      refine w_st (i' := 6) (ls' := [.ref 12, .int v1, .int (nI 1)]) (st' := [.int (nI 1), .int (v1 * (nI 3)), .ref 14]) (E' := E1) (I' := I1) (J' := J1) (S' := S1) am_e26 rfl rfl rfl rfl ?_
      refine w_st (i' := 7) (ls' := [.ref 12, .int v1, .int (nI 1)]) (st' := [.int ((v1 * (nI 3)) + (nI 1)), .ref 14]) (E' := E1) (I' := I1) (J' := J1) (S' := S1) am_e26 rfl rfl rfl rfl ?_
      have hf3 := h.1
      replace h := h.2
      refine w_ia (k := 14) (n := 192) (jn := ((v1 * (nI 3)) + (nI 1)).toNatClampNeg) am_e26 rfl rfl (by decide) hf3 rfl ?_
      refine w_ri am_e26 rfl rfl (q_mkI ?_)
      show am_ww 34 19 [.ref 69, .ref 12, .int v1] [.int ((I1 14) (((v1 * (nI 3)) + (nI 1)).toNatClampNeg))] E1 I1 J1 S1 _
      refine w_var (fun w4 => am_ww 34 19 [.ref 69, .ref 12, .int v1] [.int w4] E1 I1 J1 S1 _) ((I1 14) (((v1 * (nI 3)) + (nI 1)).toNatClampNeg)) (fun w4 hw4 => ?_)
      replace h := h w4 hw4
      refine w_st (i' := 21) (ls' := [.ref 69, .ref 12, .int v1]) (st' := [.int w4]) (E' := E1) (I' := I1) (J' := J1) (S' := S1) am_e34 rfl rfl rfl rfl ?_
      exact w_ri am_e34 rfl rfl h
-- 36 obey
theorem g36_0_69 {p2 : Int32} {E : am_Ev} {I : Nat → Nat → Int32} {J : Nat → Nat → Int64} {S : Nat → Nat → Option Nat} {Q : am_Qt}  (h : am_cl 24 [.ref 69, .ref 12, .int ((I 69) 6)] E I J S (q_I fun v1 E1 I1 J1 S1 => (v1 = (-1) → (Q (.inl none) E1 I1 J1 S1)) ∧ (¬ v1 = (-1) → (vp_in v1 64 ∧ ((((I1 13) v1.toNatClampNeg) = (nI 15) → (am_cl 37 [.ref 69, .ref 12, .int v1] E1 I1 J1 S1 (q_V fun E3 I3 J3 S3 => Q (.inl none) E3 I3 J3 S3))) ∧ (¬ ((I1 13) v1.toNatClampNeg) = (nI 15) → ((((I1 13) v1.toNatClampNeg) = (nI 16) → (am_cl 37 [.ref 69, .ref 12, .int v1] E1 I1 J1 S1 (q_V fun E4 I4 J4 S4 => Q (.inl none) E4 I4 J4 S4))) ∧ (¬ ((I1 13) v1.toNatClampNeg) = (nI 16) → ((((I1 13) v1.toNatClampNeg) = (nI 17) → (am_cl 37 [.ref 69, .ref 12, .int v1] E1 I1 J1 S1 (q_V fun E7 I7 J7 S7 => Q (.inl none) E7 I7 J7 S7))) ∧ (¬ ((I1 13) v1.toNatClampNeg) = (nI 17) → (am_cl 38 [.ref 69, .ref 12, .int v1, .int p2] E1 I1 J1 S1 (q_V fun E5 I5 J5 S5 => vp_in ((I5 69) 6) 4 ∧ (Q (.inl none) E5 (u_I I5 72 (upd (I5 72) (((I5 69) 6).toNatClampNeg) (((I5 72) (((I5 69) 6).toNatClampNeg)) + (nI 1)))) J5 S5))))))))))))) : am_ww 36 0 [.ref 69, .ref 12, .int p2, am_U, am_U] [] E I J S Q := by
  refine w_st (i' := 1) (ls' := [.ref 69, .ref 12, .int p2, am_U, am_U]) (st' := [.ref 69]) (E' := E) (I' := I) (J' := J) (S' := S) am_e36 rfl rfl rfl rfl ?_
  refine w_st (i' := 2) (ls' := [.ref 69, .ref 12, .int p2, am_U, am_U]) (st' := [.ref 12, .ref 69]) (E' := E) (I' := I) (J' := J) (S' := S) am_e36 rfl rfl rfl rfl ?_
  refine w_st (i' := 3) (ls' := [.ref 69, .ref 12, .int p2, am_U, am_U]) (st' := [.ref 69, .ref 12, .ref 69]) (E' := E) (I' := I) (J' := J) (S' := S) am_e36 rfl rfl rfl rfl ?_
  refine w_st (i' := 4) (ls' := [.ref 69, .ref 12, .int p2, am_U, am_U]) (st' := [.int ((I 69) 6), .ref 12, .ref 69]) (E' := E) (I' := I) (J' := J) (S' := S) am_e36 rfl rfl rfl rfl ?_
  refine w_cI am_e36 rfl rfl (as := [.ref 69, .ref 12, .int ((I 69) 6)]) (rest := []) rfl rfl (am_ww.mono h ?_)
  rintro _ E1 I1 J1 S1 ⟨v1, rfl, h⟩
  refine q_mkI ?_
  refine w_st (i' := 6) (ls' := [.ref 69, .ref 12, .int p2, .int v1, am_U]) (st' := []) (E' := E1) (I' := I1) (J' := J1) (S' := S1) am_e36 rfl rfl rfl rfl ?_
  refine w_st (i' := 7) (ls' := [.ref 69, .ref 12, .int p2, .int v1, am_U]) (st' := [.int v1]) (E' := E1) (I' := I1) (J' := J1) (S' := S1) am_e36 rfl rfl rfl rfl ?_
  refine w_st (i' := 8) (ls' := [.ref 69, .ref 12, .int p2, .int v1, am_U]) (st' := [.int (-1), .int v1]) (E' := E1) (I' := I1) (J' := J1) (S' := S1) am_e36 rfl rfl rfl rfl ?_
  refine w_if2 am_e36 rfl rfl (fun c => ?_) (fun c => ?_)
  · replace h := h.2 (of_decide_eq_true c)
    refine w_st (i' := 11) (ls' := [.ref 69, .ref 12, .int p2, .int v1, am_U]) (st' := [.ref 12]) (E' := E1) (I' := I1) (J' := J1) (S' := S1) am_e36 rfl rfl rfl rfl ?_
    refine w_st (i' := 12) (ls' := [.ref 69, .ref 12, .int p2, .int v1, am_U]) (st' := [.ref 13]) (E' := E1) (I' := I1) (J' := J1) (S' := S1) am_e36 rfl rfl rfl rfl ?_
    refine w_st (i' := 13) (ls' := [.ref 69, .ref 12, .int p2, .int v1, am_U]) (st' := [.int v1, .ref 13]) (E' := E1) (I' := I1) (J' := J1) (S' := S1) am_e36 rfl rfl rfl rfl ?_
    have hf2 := h.1
    replace h := h.2
    refine w_ia (k := 13) (n := 64) (jn := v1.toNatClampNeg) am_e36 rfl rfl (by decide) hf2 rfl ?_
    refine w_st (i' := 15) (ls' := [.ref 69, .ref 12, .int p2, .int v1, .int ((I1 13) v1.toNatClampNeg)]) (st' := []) (E' := E1) (I' := I1) (J' := J1) (S' := S1) am_e36 rfl rfl rfl rfl ?_
    refine w_st (i' := 16) (ls' := [.ref 69, .ref 12, .int p2, .int v1, .int ((I1 13) v1.toNatClampNeg)]) (st' := [.int ((I1 13) v1.toNatClampNeg)]) (E' := E1) (I' := I1) (J' := J1) (S' := S1) am_e36 rfl rfl rfl rfl ?_
    refine w_st (i' := 17) (ls' := [.ref 69, .ref 12, .int p2, .int v1, .int ((I1 13) v1.toNatClampNeg)]) (st' := [.int (nI 15), .int ((I1 13) v1.toNatClampNeg)]) (E' := E1) (I' := I1) (J' := J1) (S' := S1) am_e36 rfl rfl rfl rfl ?_
    refine w_if2 am_e36 rfl rfl (fun c => ?_) (fun c => ?_)
    · replace h := h.1 (of_decide_eq_true c)
      refine w_st (i' := 25) (ls' := [.ref 69, .ref 12, .int p2, .int v1, .int ((I1 13) v1.toNatClampNeg)]) (st' := [.ref 69]) (E' := E1) (I' := I1) (J' := J1) (S' := S1) am_e36 rfl rfl rfl rfl ?_
      refine w_st (i' := 26) (ls' := [.ref 69, .ref 12, .int p2, .int v1, .int ((I1 13) v1.toNatClampNeg)]) (st' := [.ref 12, .ref 69]) (E' := E1) (I' := I1) (J' := J1) (S' := S1) am_e36 rfl rfl rfl rfl ?_
      refine w_st (i' := 27) (ls' := [.ref 69, .ref 12, .int p2, .int v1, .int ((I1 13) v1.toNatClampNeg)]) (st' := [.int v1, .ref 12, .ref 69]) (E' := E1) (I' := I1) (J' := J1) (S' := S1) am_e36 rfl rfl rfl rfl ?_
      refine w_cV am_e36 rfl rfl (as := [.ref 69, .ref 12, .int v1]) (rest := []) rfl rfl (am_ww.mono h ?_)
      rintro _ E3 I3 J3 S3 ⟨rfl, h⟩
      refine q_mkV ?_
      refine w_st (i' := 43) (ls' := [.ref 69, .ref 12, .int p2, .int v1, .int ((I1 13) v1.toNatClampNeg)]) (st' := []) (E' := E3) (I' := I3) (J' := J3) (S' := S3) am_e36 rfl rfl rfl rfl ?_
      exact w_end am_e36 rfl rfl rfl h
    · replace h := h.2 (of_decide_eq_false c)
      refine w_st (i' := 19) (ls' := [.ref 69, .ref 12, .int p2, .int v1, .int ((I1 13) v1.toNatClampNeg)]) (st' := [.int ((I1 13) v1.toNatClampNeg)]) (E' := E1) (I' := I1) (J' := J1) (S' := S1) am_e36 rfl rfl rfl rfl ?_
      refine w_st (i' := 20) (ls' := [.ref 69, .ref 12, .int p2, .int v1, .int ((I1 13) v1.toNatClampNeg)]) (st' := [.int (nI 16), .int ((I1 13) v1.toNatClampNeg)]) (E' := E1) (I' := I1) (J' := J1) (S' := S1) am_e36 rfl rfl rfl rfl ?_
      refine w_if2 am_e36 rfl rfl (fun c => ?_) (fun c => ?_)
      · replace h := h.1 (of_decide_eq_true c)
        refine w_st (i' := 25) (ls' := [.ref 69, .ref 12, .int p2, .int v1, .int ((I1 13) v1.toNatClampNeg)]) (st' := [.ref 69]) (E' := E1) (I' := I1) (J' := J1) (S' := S1) am_e36 rfl rfl rfl rfl ?_
        refine w_st (i' := 26) (ls' := [.ref 69, .ref 12, .int p2, .int v1, .int ((I1 13) v1.toNatClampNeg)]) (st' := [.ref 12, .ref 69]) (E' := E1) (I' := I1) (J' := J1) (S' := S1) am_e36 rfl rfl rfl rfl ?_
        refine w_st (i' := 27) (ls' := [.ref 69, .ref 12, .int p2, .int v1, .int ((I1 13) v1.toNatClampNeg)]) (st' := [.int v1, .ref 12, .ref 69]) (E' := E1) (I' := I1) (J' := J1) (S' := S1) am_e36 rfl rfl rfl rfl ?_
        refine w_cV am_e36 rfl rfl (as := [.ref 69, .ref 12, .int v1]) (rest := []) rfl rfl (am_ww.mono h ?_)
        rintro _ E4 I4 J4 S4 ⟨rfl, h⟩
        refine q_mkV ?_
        refine w_st (i' := 43) (ls' := [.ref 69, .ref 12, .int p2, .int v1, .int ((I1 13) v1.toNatClampNeg)]) (st' := []) (E' := E4) (I' := I4) (J' := J4) (S' := S4) am_e36 rfl rfl rfl rfl ?_
        exact w_end am_e36 rfl rfl rfl h
      · replace h := h.2 (of_decide_eq_false c)
        refine w_st (i' := 22) (ls' := [.ref 69, .ref 12, .int p2, .int v1, .int ((I1 13) v1.toNatClampNeg)]) (st' := [.int ((I1 13) v1.toNatClampNeg)]) (E' := E1) (I' := I1) (J' := J1) (S' := S1) am_e36 rfl rfl rfl rfl ?_
        refine w_st (i' := 23) (ls' := [.ref 69, .ref 12, .int p2, .int v1, .int ((I1 13) v1.toNatClampNeg)]) (st' := [.int (nI 17), .int ((I1 13) v1.toNatClampNeg)]) (E' := E1) (I' := I1) (J' := J1) (S' := S1) am_e36 rfl rfl rfl rfl ?_
        refine w_if2 am_e36 rfl rfl (fun c => ?_) (fun c => ?_)
        · replace h := h.2 (of_decide_eq_true c)
          refine w_st (i' := 30) (ls' := [.ref 69, .ref 12, .int p2, .int v1, .int ((I1 13) v1.toNatClampNeg)]) (st' := [.ref 69]) (E' := E1) (I' := I1) (J' := J1) (S' := S1) am_e36 rfl rfl rfl rfl ?_
          refine w_st (i' := 31) (ls' := [.ref 69, .ref 12, .int p2, .int v1, .int ((I1 13) v1.toNatClampNeg)]) (st' := [.ref 12, .ref 69]) (E' := E1) (I' := I1) (J' := J1) (S' := S1) am_e36 rfl rfl rfl rfl ?_
          refine w_st (i' := 32) (ls' := [.ref 69, .ref 12, .int p2, .int v1, .int ((I1 13) v1.toNatClampNeg)]) (st' := [.int v1, .ref 12, .ref 69]) (E' := E1) (I' := I1) (J' := J1) (S' := S1) am_e36 rfl rfl rfl rfl ?_
          refine w_st (i' := 33) (ls' := [.ref 69, .ref 12, .int p2, .int v1, .int ((I1 13) v1.toNatClampNeg)]) (st' := [.int p2, .int v1, .ref 12, .ref 69]) (E' := E1) (I' := I1) (J' := J1) (S' := S1) am_e36 rfl rfl rfl rfl ?_
          refine w_cV am_e36 rfl rfl (as := [.ref 69, .ref 12, .int v1, .int p2]) (rest := []) rfl rfl (am_ww.mono h ?_)
          rintro _ E5 I5 J5 S5 ⟨rfl, h⟩
          refine q_mkV ?_
          refine w_st (i' := 35) (ls' := [.ref 69, .ref 12, .int p2, .int v1, .int ((I1 13) v1.toNatClampNeg)]) (st' := [.ref 69]) (E' := E5) (I' := I5) (J' := J5) (S' := S5) am_e36 rfl rfl rfl rfl ?_
          refine w_st (i' := 36) (ls' := [.ref 69, .ref 12, .int p2, .int v1, .int ((I1 13) v1.toNatClampNeg)]) (st' := [.ref 72]) (E' := E5) (I' := I5) (J' := J5) (S' := S5) am_e36 rfl rfl rfl rfl ?_
          refine w_st (i' := 37) (ls' := [.ref 69, .ref 12, .int p2, .int v1, .int ((I1 13) v1.toNatClampNeg)]) (st' := [.ref 69, .ref 72]) (E' := E5) (I' := I5) (J' := J5) (S' := S5) am_e36 rfl rfl rfl rfl ?_
          refine w_st (i' := 38) (ls' := [.ref 69, .ref 12, .int p2, .int v1, .int ((I1 13) v1.toNatClampNeg)]) (st' := [.int ((I5 69) 6), .ref 72]) (E' := E5) (I' := I5) (J' := J5) (S' := S5) am_e36 rfl rfl rfl rfl ?_
          refine w_st (i' := 39) (ls' := [.ref 69, .ref 12, .int p2, .int v1, .int ((I1 13) v1.toNatClampNeg)]) (st' := [.int ((I5 69) 6), .ref 72, .int ((I5 69) 6), .ref 72]) (E' := E5) (I' := I5) (J' := J5) (S' := S5) am_e36 rfl rfl rfl rfl ?_
          have hf6 := h.1
          replace h := h.2
          refine w_ia (k := 72) (n := 4) (jn := ((I5 69) 6).toNatClampNeg) am_e36 rfl rfl (by decide) hf6 rfl ?_
          refine w_st (i' := 41) (ls' := [.ref 69, .ref 12, .int p2, .int v1, .int ((I1 13) v1.toNatClampNeg)]) (st' := [.int (nI 1), .int ((I5 72) (((I5 69) 6).toNatClampNeg)), .int ((I5 69) 6), .ref 72]) (E' := E5) (I' := I5) (J' := J5) (S' := S5) am_e36 rfl rfl rfl rfl ?_
          refine w_st (i' := 42) (ls' := [.ref 69, .ref 12, .int p2, .int v1, .int ((I1 13) v1.toNatClampNeg)]) (st' := [.int (((I5 72) (((I5 69) 6).toNatClampNeg)) + (nI 1)), .int ((I5 69) 6), .ref 72]) (E' := E5) (I' := I5) (J' := J5) (S' := S5) am_e36 rfl rfl rfl rfl ?_
          refine w_is (k := 72) (n := 4) (jn := ((I5 69) 6).toNatClampNeg) am_e36 rfl rfl (by decide) hf6 rfl ?_
          show am_ww 36 43 [.ref 69, .ref 12, .int p2, .int v1, .int ((I1 13) v1.toNatClampNeg)] [] E5 (u_I I5 72 (upd (I5 72) (((I5 69) 6).toNatClampNeg) (((I5 72) (((I5 69) 6).toNatClampNeg)) + (nI 1)))) J5 S5 _
          exact w_end am_e36 rfl rfl rfl h
        · replace h := h.1 (Decidable.not_not.mp (of_decide_eq_false c))
          refine w_st (i' := 25) (ls' := [.ref 69, .ref 12, .int p2, .int v1, .int ((I1 13) v1.toNatClampNeg)]) (st' := [.ref 69]) (E' := E1) (I' := I1) (J' := J1) (S' := S1) am_e36 rfl rfl rfl rfl ?_
          refine w_st (i' := 26) (ls' := [.ref 69, .ref 12, .int p2, .int v1, .int ((I1 13) v1.toNatClampNeg)]) (st' := [.ref 12, .ref 69]) (E' := E1) (I' := I1) (J' := J1) (S' := S1) am_e36 rfl rfl rfl rfl ?_
          refine w_st (i' := 27) (ls' := [.ref 69, .ref 12, .int p2, .int v1, .int ((I1 13) v1.toNatClampNeg)]) (st' := [.int v1, .ref 12, .ref 69]) (E' := E1) (I' := I1) (J' := J1) (S' := S1) am_e36 rfl rfl rfl rfl ?_
          refine w_cV am_e36 rfl rfl (as := [.ref 69, .ref 12, .int v1]) (rest := []) rfl rfl (am_ww.mono h ?_)
          rintro _ E7 I7 J7 S7 ⟨rfl, h⟩
          refine q_mkV ?_
          refine w_st (i' := 43) (ls' := [.ref 69, .ref 12, .int p2, .int v1, .int ((I1 13) v1.toNatClampNeg)]) (st' := []) (E' := E7) (I' := I7) (J' := J7) (S' := S7) am_e36 rfl rfl rfl rfl ?_
          exact w_end am_e36 rfl rfl rfl h
  · replace h := h.1 (Decidable.not_not.mp (of_decide_eq_false c))
    exact w_end am_e36 rfl rfl rfl h
-- 37 branch
theorem g37_0_69 {p2 : Int32} {E : am_Ev} {I : Nat → Nat → Int32} {J : Nat → Nat → Int64} {S : Nat → Nat → Option Nat} {Q : am_Qt}  (h : vp_in ((p2 * (nI 3)) + (nI 0)) 192 ∧ (∀ w2 : Int32, w2 = ((I 14) (((p2 * (nI 3)) + (nI 0)).toNatClampNeg)) → (vp_in ((p2 * (nI 3)) + (nI 1)) 192 ∧ (∀ w4 : Int32, w4 = ((I 14) (((p2 * (nI 3)) + (nI 1)).toNatClampNeg)) → (vp_in ((I 69) 6) 4 ∧ (∀ w6 : Int32, w6 = (((I 72) (((I 69) 6).toNatClampNeg)) + (nI 1)) → (vp_in p2 64 ∧ ((((I 13) p2.toNatClampNeg) = nI 15 → (am_ww 37 69 [.ref 69, .ref 12, .int p2, .int (((I 69) 6) * (nI 4)), .int w2, .int w4, .int w2, am_U] [] E I J S Q)) ∧ (((I 13) p2.toNatClampNeg) = nI 16 → (vp_in ((((I 69) 6) * (nI 4)) + w2) 16 ∧ (∀ w10 : Int32, w10 = (if ((I 71) (((((I 69) 6) * (nI 4)) + w2).toNatClampNeg)) = 0 then w4 else w6) → (am_ww 37 69 [.ref 69, .ref 12, .int p2, .int (((I 69) 6) * (nI 4)), .int w2, .int w4, .int w10, am_U] [] E I J S Q)))) ∧ (¬ ((I 13) p2.toNatClampNeg) = nI 15 → ¬ ((I 13) p2.toNatClampNeg) = nI 16 → (vp_in ((((I 69) 6) * (nI 4)) + w2) 16 ∧ (vp_in ((((I 69) 6) * (nI 4)) + w4) 16 ∧ (∀ w14 : Int32, w14 = (if ((I 71) (((((I 69) 6) * (nI 4)) + w4).toNatClampNeg)) ≤ ((I 71) (((((I 69) 6) * (nI 4)) + w2).toNatClampNeg)) then nI 0 else nI 1) → ((w14 = 0 → (am_ww 37 69 [.ref 69, .ref 12, .int p2, .int (((I 69) 6) * (nI 4)), .int w2, .int w4, .int w6, .int w14] [] E I J S Q)) ∧ (¬ w14 = 0 → (vp_in ((p2 * (nI 3)) + (nI 2)) 192 ∧ (∀ w16 : Int32, w16 = ((I 14) (((p2 * (nI 3)) + (nI 2)).toNatClampNeg)) → (am_ww 37 69 [.ref 69, .ref 12, .int p2, .int (((I 69) 6) * (nI 4)), .int w2, .int w4, .int w16, .int w14] [] E I J S Q))))))))))))))))) : am_ww 37 0 [.ref 69, .ref 12, .int p2, am_U, am_U, am_U, am_U, am_U] [] E I J S Q := by
  refine w_st (i' := 1) (ls' := [.ref 69, .ref 12, .int p2, am_U, am_U, am_U, am_U, am_U]) (st' := [.ref 69]) (E' := E) (I' := I) (J' := J) (S' := S) am_e37 rfl rfl rfl rfl ?_
  refine w_st (i' := 2) (ls' := [.ref 69, .ref 12, .int p2, am_U, am_U, am_U, am_U, am_U]) (st' := [.int ((I 69) 6)]) (E' := E) (I' := I) (J' := J) (S' := S) am_e37 rfl rfl rfl rfl ?_
  refine w_st (i' := 3) (ls' := [.ref 69, .ref 12, .int p2, am_U, am_U, am_U, am_U, am_U]) (st' := [.int (nI 4), .int ((I 69) 6)]) (E' := E) (I' := I) (J' := J) (S' := S) am_e37 rfl rfl rfl rfl ?_
  refine w_st (i' := 4) (ls' := [.ref 69, .ref 12, .int p2, am_U, am_U, am_U, am_U, am_U]) (st' := [.int (((I 69) 6) * (nI 4))]) (E' := E) (I' := I) (J' := J) (S' := S) am_e37 rfl rfl rfl rfl ?_
  refine w_st (i' := 5) (ls' := [.ref 69, .ref 12, .int p2, .int (((I 69) 6) * (nI 4)), am_U, am_U, am_U, am_U]) (st' := []) (E' := E) (I' := I) (J' := J) (S' := S) am_e37 rfl rfl rfl rfl ?_
  refine w_st (i' := 6) (ls' := [.ref 69, .ref 12, .int p2, .int (((I 69) 6) * (nI 4)), am_U, am_U, am_U, am_U]) (st' := [.ref 12]) (E' := E) (I' := I) (J' := J) (S' := S) am_e37 rfl rfl rfl rfl ?_
  refine w_st (i' := 7) (ls' := [.ref 69, .ref 12, .int p2, .int (((I 69) 6) * (nI 4)), am_U, am_U, am_U, am_U]) (st' := [.int p2, .ref 12]) (E' := E) (I' := I) (J' := J) (S' := S) am_e37 rfl rfl rfl rfl ?_
  refine w_st (i' := 8) (ls' := [.ref 69, .ref 12, .int p2, .int (((I 69) 6) * (nI 4)), am_U, am_U, am_U, am_U]) (st' := [.int (nI 0), .int p2, .ref 12]) (E' := E) (I' := I) (J' := J) (S' := S) am_e37 rfl rfl rfl rfl ?_
  refine w_cI am_e37 rfl rfl (as := [.ref 12, .int p2, .int (nI 0)]) (rest := []) rfl rfl ?_
  show am_ww 26 0 [.ref 12, .int p2, .int (nI 0)] [] E I J S _
  refine w_st (i' := 1) (ls' := [.ref 12, .int p2, .int (nI 0)]) (st' := [.ref 12]) (E' := E) (I' := I) (J' := J) (S' := S) am_e26 rfl rfl rfl rfl ?_
  refine w_st (i' := 2) (ls' := [.ref 12, .int p2, .int (nI 0)]) (st' := [.ref 14]) (E' := E) (I' := I) (J' := J) (S' := S) am_e26 rfl rfl rfl rfl ?_
  refine w_st (i' := 3) (ls' := [.ref 12, .int p2, .int (nI 0)]) (st' := [.int p2, .ref 14]) (E' := E) (I' := I) (J' := J) (S' := S) am_e26 rfl rfl rfl rfl ?_
  refine w_st (i' := 4) (ls' := [.ref 12, .int p2, .int (nI 0)]) (st' := [.int (nI 3), .int p2, .ref 14]) (E' := E) (I' := I) (J' := J) (S' := S) am_e26 rfl rfl rfl rfl ?_
  refine w_st (i' := 5) (ls' := [.ref 12, .int p2, .int (nI 0)]) (st' := [.int (p2 * (nI 3)), .ref 14]) (E' := E) (I' := I) (J' := J) (S' := S) am_e26 rfl rfl rfl rfl ?_
  refine w_st (i' := 6) (ls' := [.ref 12, .int p2, .int (nI 0)]) (st' := [.int (nI 0), .int (p2 * (nI 3)), .ref 14]) (E' := E) (I' := I) (J' := J) (S' := S) am_e26 rfl rfl rfl rfl ?_
  refine w_st (i' := 7) (ls' := [.ref 12, .int p2, .int (nI 0)]) (st' := [.int ((p2 * (nI 3)) + (nI 0)), .ref 14]) (E' := E) (I' := I) (J' := J) (S' := S) am_e26 rfl rfl rfl rfl ?_
  have hf1 := h.1
  replace h := h.2
  refine w_ia (k := 14) (n := 192) (jn := ((p2 * (nI 3)) + (nI 0)).toNatClampNeg) am_e26 rfl rfl (by decide) hf1 rfl ?_
  refine w_ri am_e26 rfl rfl (q_mkI ?_)
  show am_ww 37 9 [.ref 69, .ref 12, .int p2, .int (((I 69) 6) * (nI 4)), am_U, am_U, am_U, am_U] [.int ((I 14) (((p2 * (nI 3)) + (nI 0)).toNatClampNeg))] E I J S _
  refine w_var (fun w2 => am_ww 37 9 [.ref 69, .ref 12, .int p2, .int (((I 69) 6) * (nI 4)), am_U, am_U, am_U, am_U] [.int w2] E I J S _) ((I 14) (((p2 * (nI 3)) + (nI 0)).toNatClampNeg)) (fun w2 hw2 => ?_)
  replace h := h w2 hw2
  refine w_st (i' := 10) (ls' := [.ref 69, .ref 12, .int p2, .int (((I 69) 6) * (nI 4)), .int w2, am_U, am_U, am_U]) (st' := []) (E' := E) (I' := I) (J' := J) (S' := S) am_e37 rfl rfl rfl rfl ?_
  refine w_st (i' := 11) (ls' := [.ref 69, .ref 12, .int p2, .int (((I 69) 6) * (nI 4)), .int w2, am_U, am_U, am_U]) (st' := [.ref 12]) (E' := E) (I' := I) (J' := J) (S' := S) am_e37 rfl rfl rfl rfl ?_
  refine w_st (i' := 12) (ls' := [.ref 69, .ref 12, .int p2, .int (((I 69) 6) * (nI 4)), .int w2, am_U, am_U, am_U]) (st' := [.int p2, .ref 12]) (E' := E) (I' := I) (J' := J) (S' := S) am_e37 rfl rfl rfl rfl ?_
  refine w_st (i' := 13) (ls' := [.ref 69, .ref 12, .int p2, .int (((I 69) 6) * (nI 4)), .int w2, am_U, am_U, am_U]) (st' := [.int (nI 1), .int p2, .ref 12]) (E' := E) (I' := I) (J' := J) (S' := S) am_e37 rfl rfl rfl rfl ?_
  refine w_cI am_e37 rfl rfl (as := [.ref 12, .int p2, .int (nI 1)]) (rest := []) rfl rfl ?_
  show am_ww 26 0 [.ref 12, .int p2, .int (nI 1)] [] E I J S _
  refine w_st (i' := 1) (ls' := [.ref 12, .int p2, .int (nI 1)]) (st' := [.ref 12]) (E' := E) (I' := I) (J' := J) (S' := S) am_e26 rfl rfl rfl rfl ?_
  refine w_st (i' := 2) (ls' := [.ref 12, .int p2, .int (nI 1)]) (st' := [.ref 14]) (E' := E) (I' := I) (J' := J) (S' := S) am_e26 rfl rfl rfl rfl ?_
  refine w_st (i' := 3) (ls' := [.ref 12, .int p2, .int (nI 1)]) (st' := [.int p2, .ref 14]) (E' := E) (I' := I) (J' := J) (S' := S) am_e26 rfl rfl rfl rfl ?_
  refine w_st (i' := 4) (ls' := [.ref 12, .int p2, .int (nI 1)]) (st' := [.int (nI 3), .int p2, .ref 14]) (E' := E) (I' := I) (J' := J) (S' := S) am_e26 rfl rfl rfl rfl ?_
  refine w_st (i' := 5) (ls' := [.ref 12, .int p2, .int (nI 1)]) (st' := [.int (p2 * (nI 3)), .ref 14]) (E' := E) (I' := I) (J' := J) (S' := S) am_e26 rfl rfl rfl rfl ?_
  refine w_st (i' := 6) (ls' := [.ref 12, .int p2, .int (nI 1)]) (st' := [.int (nI 1), .int (p2 * (nI 3)), .ref 14]) (E' := E) (I' := I) (J' := J) (S' := S) am_e26 rfl rfl rfl rfl ?_
  refine w_st (i' := 7) (ls' := [.ref 12, .int p2, .int (nI 1)]) (st' := [.int ((p2 * (nI 3)) + (nI 1)), .ref 14]) (E' := E) (I' := I) (J' := J) (S' := S) am_e26 rfl rfl rfl rfl ?_
  have hf3 := h.1
  replace h := h.2
  refine w_ia (k := 14) (n := 192) (jn := ((p2 * (nI 3)) + (nI 1)).toNatClampNeg) am_e26 rfl rfl (by decide) hf3 rfl ?_
  refine w_ri am_e26 rfl rfl (q_mkI ?_)
  show am_ww 37 14 [.ref 69, .ref 12, .int p2, .int (((I 69) 6) * (nI 4)), .int w2, am_U, am_U, am_U] [.int ((I 14) (((p2 * (nI 3)) + (nI 1)).toNatClampNeg))] E I J S _
  refine w_var (fun w4 => am_ww 37 14 [.ref 69, .ref 12, .int p2, .int (((I 69) 6) * (nI 4)), .int w2, am_U, am_U, am_U] [.int w4] E I J S _) ((I 14) (((p2 * (nI 3)) + (nI 1)).toNatClampNeg)) (fun w4 hw4 => ?_)
  replace h := h w4 hw4
  refine w_st (i' := 15) (ls' := [.ref 69, .ref 12, .int p2, .int (((I 69) 6) * (nI 4)), .int w2, .int w4, am_U, am_U]) (st' := []) (E' := E) (I' := I) (J' := J) (S' := S) am_e37 rfl rfl rfl rfl ?_
  refine w_st (i' := 16) (ls' := [.ref 69, .ref 12, .int p2, .int (((I 69) 6) * (nI 4)), .int w2, .int w4, am_U, am_U]) (st' := [.ref 69]) (E' := E) (I' := I) (J' := J) (S' := S) am_e37 rfl rfl rfl rfl ?_
  refine w_st (i' := 17) (ls' := [.ref 69, .ref 12, .int p2, .int (((I 69) 6) * (nI 4)), .int w2, .int w4, am_U, am_U]) (st' := [.ref 72]) (E' := E) (I' := I) (J' := J) (S' := S) am_e37 rfl rfl rfl rfl ?_
  refine w_st (i' := 18) (ls' := [.ref 69, .ref 12, .int p2, .int (((I 69) 6) * (nI 4)), .int w2, .int w4, am_U, am_U]) (st' := [.ref 69, .ref 72]) (E' := E) (I' := I) (J' := J) (S' := S) am_e37 rfl rfl rfl rfl ?_
  refine w_st (i' := 19) (ls' := [.ref 69, .ref 12, .int p2, .int (((I 69) 6) * (nI 4)), .int w2, .int w4, am_U, am_U]) (st' := [.int ((I 69) 6), .ref 72]) (E' := E) (I' := I) (J' := J) (S' := S) am_e37 rfl rfl rfl rfl ?_
  have hf5 := h.1
  replace h := h.2
  refine w_ia (k := 72) (n := 4) (jn := ((I 69) 6).toNatClampNeg) am_e37 rfl rfl (by decide) hf5 rfl ?_
  refine w_st (i' := 21) (ls' := [.ref 69, .ref 12, .int p2, .int (((I 69) 6) * (nI 4)), .int w2, .int w4, am_U, am_U]) (st' := [.int (nI 1), .int ((I 72) (((I 69) 6).toNatClampNeg))]) (E' := E) (I' := I) (J' := J) (S' := S) am_e37 rfl rfl rfl rfl ?_
  refine w_st (i' := 22) (ls' := [.ref 69, .ref 12, .int p2, .int (((I 69) 6) * (nI 4)), .int w2, .int w4, am_U, am_U]) (st' := [.int (((I 72) (((I 69) 6).toNatClampNeg)) + (nI 1))]) (E' := E) (I' := I) (J' := J) (S' := S) am_e37 rfl rfl rfl rfl ?_
  refine w_st (i' := 23) (ls' := [.ref 69, .ref 12, .int p2, .int (((I 69) 6) * (nI 4)), .int w2, .int w4, .int (((I 72) (((I 69) 6).toNatClampNeg)) + (nI 1)), am_U]) (st' := []) (E' := E) (I' := I) (J' := J) (S' := S) am_e37 rfl rfl rfl rfl ?_
  refine w_var (fun w6 => am_ww 37 23 [.ref 69, .ref 12, .int p2, .int (((I 69) 6) * (nI 4)), .int w2, .int w4, .int w6, am_U] [] E I J S _) (((I 72) (((I 69) 6).toNatClampNeg)) + (nI 1)) (fun w6 hw6 => ?_)
  replace h := h w6 hw6
  refine w_st (i' := 24) (ls' := [.ref 69, .ref 12, .int p2, .int (((I 69) 6) * (nI 4)), .int w2, .int w4, .int w6, am_U]) (st' := [.ref 12]) (E' := E) (I' := I) (J' := J) (S' := S) am_e37 rfl rfl rfl rfl ?_
  refine w_st (i' := 25) (ls' := [.ref 69, .ref 12, .int p2, .int (((I 69) 6) * (nI 4)), .int w2, .int w4, .int w6, am_U]) (st' := [.ref 13]) (E' := E) (I' := I) (J' := J) (S' := S) am_e37 rfl rfl rfl rfl ?_
  refine w_st (i' := 26) (ls' := [.ref 69, .ref 12, .int p2, .int (((I 69) 6) * (nI 4)), .int w2, .int w4, .int w6, am_U]) (st' := [.int p2, .ref 13]) (E' := E) (I' := I) (J' := J) (S' := S) am_e37 rfl rfl rfl rfl ?_
  have hf7 := h.1
  replace h := h.2
  refine w_ia (k := 13) (n := 64) (jn := p2.toNatClampNeg) am_e37 rfl rfl (by decide) hf7 rfl ?_
  refine w_lk am_e37 rfl ?_
  by_cases c15 : ((I 13) p2.toNatClampNeg) = nI 15
  · replace h := h.1 c15
    refine w_to (i2 := 28) (by rw [c15]; first | done | rfl) ?_
    refine w_st (i' := 29) (ls' := [.ref 69, .ref 12, .int p2, .int (((I 69) 6) * (nI 4)), .int w2, .int w4, .int w6, am_U]) (st' := [.int w2]) (E' := E) (I' := I) (J' := J) (S' := S) am_e37 rfl rfl rfl rfl ?_
    refine w_st (i' := 30) (ls' := [.ref 69, .ref 12, .int p2, .int (((I 69) 6) * (nI 4)), .int w2, .int w4, .int w2, am_U]) (st' := []) (E' := E) (I' := I) (J' := J) (S' := S) am_e37 rfl rfl rfl rfl ?_
    refine w_st (i' := 69) (ls' := [.ref 69, .ref 12, .int p2, .int (((I 69) 6) * (nI 4)), .int w2, .int w4, .int w2, am_U]) (st' := []) (E' := E) (I' := I) (J' := J) (S' := S) am_e37 rfl rfl rfl rfl ?_
    exact h
  by_cases c16 : ((I 13) p2.toNatClampNeg) = nI 16
  · replace h := h.2.1 c16
    refine w_to (i2 := 31) (by rw [c16]; first | done | rfl) ?_
    refine w_st (i' := 32) (ls' := [.ref 69, .ref 12, .int p2, .int (((I 69) 6) * (nI 4)), .int w2, .int w4, .int w6, am_U]) (st' := [.ref 69]) (E' := E) (I' := I) (J' := J) (S' := S) am_e37 rfl rfl rfl rfl ?_
    refine w_st (i' := 33) (ls' := [.ref 69, .ref 12, .int p2, .int (((I 69) 6) * (nI 4)), .int w2, .int w4, .int w6, am_U]) (st' := [.ref 71]) (E' := E) (I' := I) (J' := J) (S' := S) am_e37 rfl rfl rfl rfl ?_
    refine w_st (i' := 34) (ls' := [.ref 69, .ref 12, .int p2, .int (((I 69) 6) * (nI 4)), .int w2, .int w4, .int w6, am_U]) (st' := [.int (((I 69) 6) * (nI 4)), .ref 71]) (E' := E) (I' := I) (J' := J) (S' := S) am_e37 rfl rfl rfl rfl ?_
    refine w_st (i' := 35) (ls' := [.ref 69, .ref 12, .int p2, .int (((I 69) 6) * (nI 4)), .int w2, .int w4, .int w6, am_U]) (st' := [.int w2, .int (((I 69) 6) * (nI 4)), .ref 71]) (E' := E) (I' := I) (J' := J) (S' := S) am_e37 rfl rfl rfl rfl ?_
    refine w_st (i' := 36) (ls' := [.ref 69, .ref 12, .int p2, .int (((I 69) 6) * (nI 4)), .int w2, .int w4, .int w6, am_U]) (st' := [.int ((((I 69) 6) * (nI 4)) + w2), .ref 71]) (E' := E) (I' := I) (J' := J) (S' := S) am_e37 rfl rfl rfl rfl ?_
    have hf8 := h.1
    replace h := h.2
    refine w_ia (k := 71) (n := 16) (jn := ((((I 69) 6) * (nI 4)) + w2).toNatClampNeg) am_e37 rfl rfl (by decide) hf8 rfl ?_
    refine w_mg (i := 41) (ls' := [.ref 69, .ref 12, .int p2, .int (((I 69) 6) * (nI 4)), .int w2, .int w4, .int w6, am_U]) (st' := [.int (if ((I 71) (((((I 69) 6) * (nI 4)) + w2).toNatClampNeg)) = 0 then w4 else w6)]) (fun hm => ?_) ?_
    · clear h
      refine w_if1 am_e37 rfl rfl (fun c => ?_) (fun c => ?_)
      · have m9 : ¬ (((I 71) (((((I 69) 6) * (nI 4)) + w2).toNatClampNeg)) = 0) := (of_decide_eq_true c)
        refine w_st (i' := 41) (ls' := [.ref 69, .ref 12, .int p2, .int (((I 69) 6) * (nI 4)), .int w2, .int w4, .int w6, am_U]) (st' := [.int w6]) (E' := E) (I' := I) (J' := J) (S' := S) am_e37 rfl rfl rfl rfl ?_
        first | exact hm | (simp only [if_neg m9] at hm; exact hm)
      · have m9 : ((I 71) (((((I 69) 6) * (nI 4)) + w2).toNatClampNeg)) = 0 := (Decidable.not_not.mp (of_decide_eq_false c))
        refine w_st (i' := 39) (ls' := [.ref 69, .ref 12, .int p2, .int (((I 69) 6) * (nI 4)), .int w2, .int w4, .int w6, am_U]) (st' := [.int w4]) (E' := E) (I' := I) (J' := J) (S' := S) am_e37 rfl rfl rfl rfl ?_
        refine w_st (i' := 41) (ls' := [.ref 69, .ref 12, .int p2, .int (((I 69) 6) * (nI 4)), .int w2, .int w4, .int w6, am_U]) (st' := [.int w4]) (E' := E) (I' := I) (J' := J) (S' := S) am_e37 rfl rfl rfl rfl ?_
        first | exact hm | (simp only [if_pos m9] at hm; exact hm)
    refine w_var (fun w10 => am_ww 37 41 [.ref 69, .ref 12, .int p2, .int (((I 69) 6) * (nI 4)), .int w2, .int w4, .int w6, am_U] [.int w10] E I J S _) (if ((I 71) (((((I 69) 6) * (nI 4)) + w2).toNatClampNeg)) = 0 then w4 else w6) (fun w10 hw10 => ?_)
    replace h := h w10 hw10
    refine w_st (i' := 42) (ls' := [.ref 69, .ref 12, .int p2, .int (((I 69) 6) * (nI 4)), .int w2, .int w4, .int w10, am_U]) (st' := []) (E' := E) (I' := I) (J' := J) (S' := S) am_e37 rfl rfl rfl rfl ?_
    refine w_st (i' := 69) (ls' := [.ref 69, .ref 12, .int p2, .int (((I 69) 6) * (nI 4)), .int w2, .int w4, .int w10, am_U]) (st' := []) (E' := E) (I' := I) (J' := J) (S' := S) am_e37 rfl rfl rfl rfl ?_
    exact h
  replace h := h.2.2 c15 c16
  refine w_to (i2 := 43) (am_lk_out (by intro q h1; have : q = 15 ∨ q = 16 := (by simpa using h1); rcases this with rfl | rfl <;> assumption)) ?_
  refine w_st (i' := 44) (ls' := [.ref 69, .ref 12, .int p2, .int (((I 69) 6) * (nI 4)), .int w2, .int w4, .int w6, am_U]) (st' := [.ref 69]) (E' := E) (I' := I) (J' := J) (S' := S) am_e37 rfl rfl rfl rfl ?_
  refine w_st (i' := 45) (ls' := [.ref 69, .ref 12, .int p2, .int (((I 69) 6) * (nI 4)), .int w2, .int w4, .int w6, am_U]) (st' := [.ref 71]) (E' := E) (I' := I) (J' := J) (S' := S) am_e37 rfl rfl rfl rfl ?_
  refine w_st (i' := 46) (ls' := [.ref 69, .ref 12, .int p2, .int (((I 69) 6) * (nI 4)), .int w2, .int w4, .int w6, am_U]) (st' := [.int (((I 69) 6) * (nI 4)), .ref 71]) (E' := E) (I' := I) (J' := J) (S' := S) am_e37 rfl rfl rfl rfl ?_
  refine w_st (i' := 47) (ls' := [.ref 69, .ref 12, .int p2, .int (((I 69) 6) * (nI 4)), .int w2, .int w4, .int w6, am_U]) (st' := [.int w2, .int (((I 69) 6) * (nI 4)), .ref 71]) (E' := E) (I' := I) (J' := J) (S' := S) am_e37 rfl rfl rfl rfl ?_
  refine w_st (i' := 48) (ls' := [.ref 69, .ref 12, .int p2, .int (((I 69) 6) * (nI 4)), .int w2, .int w4, .int w6, am_U]) (st' := [.int ((((I 69) 6) * (nI 4)) + w2), .ref 71]) (E' := E) (I' := I) (J' := J) (S' := S) am_e37 rfl rfl rfl rfl ?_
  have hf11 := h.1
  replace h := h.2
  refine w_ia (k := 71) (n := 16) (jn := ((((I 69) 6) * (nI 4)) + w2).toNatClampNeg) am_e37 rfl rfl (by decide) hf11 rfl ?_
  refine w_st (i' := 50) (ls' := [.ref 69, .ref 12, .int p2, .int (((I 69) 6) * (nI 4)), .int w2, .int w4, .int w6, am_U]) (st' := [.ref 69, .int ((I 71) (((((I 69) 6) * (nI 4)) + w2).toNatClampNeg))]) (E' := E) (I' := I) (J' := J) (S' := S) am_e37 rfl rfl rfl rfl ?_
  refine w_st (i' := 51) (ls' := [.ref 69, .ref 12, .int p2, .int (((I 69) 6) * (nI 4)), .int w2, .int w4, .int w6, am_U]) (st' := [.ref 71, .int ((I 71) (((((I 69) 6) * (nI 4)) + w2).toNatClampNeg))]) (E' := E) (I' := I) (J' := J) (S' := S) am_e37 rfl rfl rfl rfl ?_
  refine w_st (i' := 52) (ls' := [.ref 69, .ref 12, .int p2, .int (((I 69) 6) * (nI 4)), .int w2, .int w4, .int w6, am_U]) (st' := [.int (((I 69) 6) * (nI 4)), .ref 71, .int ((I 71) (((((I 69) 6) * (nI 4)) + w2).toNatClampNeg))]) (E' := E) (I' := I) (J' := J) (S' := S) am_e37 rfl rfl rfl rfl ?_
  refine w_st (i' := 53) (ls' := [.ref 69, .ref 12, .int p2, .int (((I 69) 6) * (nI 4)), .int w2, .int w4, .int w6, am_U]) (st' := [.int w4, .int (((I 69) 6) * (nI 4)), .ref 71, .int ((I 71) (((((I 69) 6) * (nI 4)) + w2).toNatClampNeg))]) (E' := E) (I' := I) (J' := J) (S' := S) am_e37 rfl rfl rfl rfl ?_
  refine w_st (i' := 54) (ls' := [.ref 69, .ref 12, .int p2, .int (((I 69) 6) * (nI 4)), .int w2, .int w4, .int w6, am_U]) (st' := [.int ((((I 69) 6) * (nI 4)) + w4), .ref 71, .int ((I 71) (((((I 69) 6) * (nI 4)) + w2).toNatClampNeg))]) (E' := E) (I' := I) (J' := J) (S' := S) am_e37 rfl rfl rfl rfl ?_
  have hf12 := h.1
  replace h := h.2
  refine w_ia (k := 71) (n := 16) (jn := ((((I 69) 6) * (nI 4)) + w4).toNatClampNeg) am_e37 rfl rfl (by decide) hf12 rfl ?_
  refine w_mg (i := 59) (ls' := [.ref 69, .ref 12, .int p2, .int (((I 69) 6) * (nI 4)), .int w2, .int w4, .int w6, am_U]) (st' := [.int (if ((I 71) (((((I 69) 6) * (nI 4)) + w4).toNatClampNeg)) ≤ ((I 71) (((((I 69) 6) * (nI 4)) + w2).toNatClampNeg)) then nI 0 else nI 1)]) (fun hm => ?_) ?_
  · clear h
    refine w_if2 am_e37 rfl rfl (fun c => ?_) (fun c => ?_)
    · have m13 : ((I 71) (((((I 69) 6) * (nI 4)) + w4).toNatClampNeg)) ≤ ((I 71) (((((I 69) 6) * (nI 4)) + w2).toNatClampNeg)) := (of_decide_eq_true c)
      refine w_st (i' := 59) (ls' := [.ref 69, .ref 12, .int p2, .int (((I 69) 6) * (nI 4)), .int w2, .int w4, .int w6, am_U]) (st' := [.int (nI 0)]) (E' := E) (I' := I) (J' := J) (S' := S) am_e37 rfl rfl rfl rfl ?_
      first | exact hm | (simp only [if_pos m13] at hm; exact hm)
    · have m13 : ¬ (((I 71) (((((I 69) 6) * (nI 4)) + w4).toNatClampNeg)) ≤ ((I 71) (((((I 69) 6) * (nI 4)) + w2).toNatClampNeg))) := (of_decide_eq_false c)
      refine w_st (i' := 57) (ls' := [.ref 69, .ref 12, .int p2, .int (((I 69) 6) * (nI 4)), .int w2, .int w4, .int w6, am_U]) (st' := [.int (nI 1)]) (E' := E) (I' := I) (J' := J) (S' := S) am_e37 rfl rfl rfl rfl ?_
      refine w_st (i' := 59) (ls' := [.ref 69, .ref 12, .int p2, .int (((I 69) 6) * (nI 4)), .int w2, .int w4, .int w6, am_U]) (st' := [.int (nI 1)]) (E' := E) (I' := I) (J' := J) (S' := S) am_e37 rfl rfl rfl rfl ?_
      first | exact hm | (simp only [if_neg m13] at hm; exact hm)
  refine w_var (fun w14 => am_ww 37 59 [.ref 69, .ref 12, .int p2, .int (((I 69) 6) * (nI 4)), .int w2, .int w4, .int w6, am_U] [.int w14] E I J S _) (if ((I 71) (((((I 69) 6) * (nI 4)) + w4).toNatClampNeg)) ≤ ((I 71) (((((I 69) 6) * (nI 4)) + w2).toNatClampNeg)) then nI 0 else nI 1) (fun w14 hw14 => ?_)
  replace h := h w14 hw14
  refine w_st (i' := 60) (ls' := [.ref 69, .ref 12, .int p2, .int (((I 69) 6) * (nI 4)), .int w2, .int w4, .int w6, .int w14]) (st' := []) (E' := E) (I' := I) (J' := J) (S' := S) am_e37 rfl rfl rfl rfl ?_
  refine w_st (i' := 61) (ls' := [.ref 69, .ref 12, .int p2, .int (((I 69) 6) * (nI 4)), .int w2, .int w4, .int w6, .int w14]) (st' := [.int w14]) (E' := E) (I' := I) (J' := J) (S' := S) am_e37 rfl rfl rfl rfl ?_
  refine w_if1 am_e37 rfl rfl (fun c => ?_) (fun c => ?_)
  · replace h := h.1 (of_decide_eq_true c)
    refine w_st (i' := 68) (ls' := [.ref 69, .ref 12, .int p2, .int (((I 69) 6) * (nI 4)), .int w2, .int w4, .int w6, .int w14]) (st' := [.int w6]) (E' := E) (I' := I) (J' := J) (S' := S) am_e37 rfl rfl rfl rfl ?_
    refine w_st (i' := 69) (ls' := [.ref 69, .ref 12, .int p2, .int (((I 69) 6) * (nI 4)), .int w2, .int w4, .int w6, .int w14]) (st' := []) (E' := E) (I' := I) (J' := J) (S' := S) am_e37 rfl rfl rfl rfl ?_
    exact h
  · replace h := h.2 (of_decide_eq_false c)
    refine w_st (i' := 63) (ls' := [.ref 69, .ref 12, .int p2, .int (((I 69) 6) * (nI 4)), .int w2, .int w4, .int w6, .int w14]) (st' := [.ref 12]) (E' := E) (I' := I) (J' := J) (S' := S) am_e37 rfl rfl rfl rfl ?_
    refine w_st (i' := 64) (ls' := [.ref 69, .ref 12, .int p2, .int (((I 69) 6) * (nI 4)), .int w2, .int w4, .int w6, .int w14]) (st' := [.int p2, .ref 12]) (E' := E) (I' := I) (J' := J) (S' := S) am_e37 rfl rfl rfl rfl ?_
    refine w_st (i' := 65) (ls' := [.ref 69, .ref 12, .int p2, .int (((I 69) 6) * (nI 4)), .int w2, .int w4, .int w6, .int w14]) (st' := [.int (nI 2), .int p2, .ref 12]) (E' := E) (I' := I) (J' := J) (S' := S) am_e37 rfl rfl rfl rfl ?_
    refine w_cI am_e37 rfl rfl (as := [.ref 12, .int p2, .int (nI 2)]) (rest := []) rfl rfl ?_
    show am_ww 26 0 [.ref 12, .int p2, .int (nI 2)] [] E I J S _
    refine w_st (i' := 1) (ls' := [.ref 12, .int p2, .int (nI 2)]) (st' := [.ref 12]) (E' := E) (I' := I) (J' := J) (S' := S) am_e26 rfl rfl rfl rfl ?_
    refine w_st (i' := 2) (ls' := [.ref 12, .int p2, .int (nI 2)]) (st' := [.ref 14]) (E' := E) (I' := I) (J' := J) (S' := S) am_e26 rfl rfl rfl rfl ?_
    refine w_st (i' := 3) (ls' := [.ref 12, .int p2, .int (nI 2)]) (st' := [.int p2, .ref 14]) (E' := E) (I' := I) (J' := J) (S' := S) am_e26 rfl rfl rfl rfl ?_
    refine w_st (i' := 4) (ls' := [.ref 12, .int p2, .int (nI 2)]) (st' := [.int (nI 3), .int p2, .ref 14]) (E' := E) (I' := I) (J' := J) (S' := S) am_e26 rfl rfl rfl rfl ?_
    refine w_st (i' := 5) (ls' := [.ref 12, .int p2, .int (nI 2)]) (st' := [.int (p2 * (nI 3)), .ref 14]) (E' := E) (I' := I) (J' := J) (S' := S) am_e26 rfl rfl rfl rfl ?_
    refine w_st (i' := 6) (ls' := [.ref 12, .int p2, .int (nI 2)]) (st' := [.int (nI 2), .int (p2 * (nI 3)), .ref 14]) (E' := E) (I' := I) (J' := J) (S' := S) am_e26 rfl rfl rfl rfl ?_
    refine w_st (i' := 7) (ls' := [.ref 12, .int p2, .int (nI 2)]) (st' := [.int ((p2 * (nI 3)) + (nI 2)), .ref 14]) (E' := E) (I' := I) (J' := J) (S' := S) am_e26 rfl rfl rfl rfl ?_
    have hf15 := h.1
    replace h := h.2
    refine w_ia (k := 14) (n := 192) (jn := ((p2 * (nI 3)) + (nI 2)).toNatClampNeg) am_e26 rfl rfl (by decide) hf15 rfl ?_
    refine w_ri am_e26 rfl rfl (q_mkI ?_)
    show am_ww 37 66 [.ref 69, .ref 12, .int p2, .int (((I 69) 6) * (nI 4)), .int w2, .int w4, .int w6, .int w14] [.int ((I 14) (((p2 * (nI 3)) + (nI 2)).toNatClampNeg))] E I J S _
    refine w_var (fun w16 => am_ww 37 66 [.ref 69, .ref 12, .int p2, .int (((I 69) 6) * (nI 4)), .int w2, .int w4, .int w6, .int w14] [.int w16] E I J S _) ((I 14) (((p2 * (nI 3)) + (nI 2)).toNatClampNeg)) (fun w16 hw16 => ?_)
    replace h := h w16 hw16
    refine w_st (i' := 68) (ls' := [.ref 69, .ref 12, .int p2, .int (((I 69) 6) * (nI 4)), .int w2, .int w4, .int w6, .int w14]) (st' := [.int w16]) (E' := E) (I' := I) (J' := J) (S' := S) am_e37 rfl rfl rfl rfl ?_
    refine w_st (i' := 69) (ls' := [.ref 69, .ref 12, .int p2, .int (((I 69) 6) * (nI 4)), .int w2, .int w4, .int w16, .int w14]) (st' := []) (E' := E) (I' := I) (J' := J) (S' := S) am_e37 rfl rfl rfl rfl ?_
    exact h
theorem g37_69_69 {d1 : Value} {d2 : Value} {d3 : Value} {d4 : Value} {d5 : Value} {x6 : Int32} {d7 : Value} {E : am_Ev} {I : Nat → Nat → Int32} {J : Nat → Nat → Int64} {S : Nat → Nat → Option Nat} {Q : am_Qt} (hd1 : am_isL d1 = false) (hd2 : am_isL d2 = false) (hd3 : am_isL d3 = false) (hd4 : am_isL d4 = false) (hd5 : am_isL d5 = false) (hd7 : am_isL d7 = false) (h : vp_in ((I 69) 6) 4 ∧ (Q (.inl none) E (u_I (u_I I 72 (upd (I 72) (((I 69) 6).toNatClampNeg) x6)) 73 (upd (I 73) (((I 69) 6).toNatClampNeg) (((I 73) (((I 69) 6).toNatClampNeg)) + (nI 1)))) J S)) : am_ww 37 69 [.ref 69, d1, d2, d3, d4, d5, .int x6, d7] [] E I J S Q := by
  refine w_st (i' := 70) (ls' := [.ref 69, d1, d2, d3, d4, d5, .int x6, d7]) (st' := [.ref 69]) (E' := E) (I' := I) (J' := J) (S' := S) am_e37 rfl rfl rfl rfl ?_
  refine w_st (i' := 71) (ls' := [.ref 69, d1, d2, d3, d4, d5, .int x6, d7]) (st' := [.ref 72]) (E' := E) (I' := I) (J' := J) (S' := S) am_e37 rfl rfl rfl rfl ?_
  refine w_st (i' := 72) (ls' := [.ref 69, d1, d2, d3, d4, d5, .int x6, d7]) (st' := [.ref 69, .ref 72]) (E' := E) (I' := I) (J' := J) (S' := S) am_e37 rfl rfl rfl rfl ?_
  refine w_st (i' := 73) (ls' := [.ref 69, d1, d2, d3, d4, d5, .int x6, d7]) (st' := [.int ((I 69) 6), .ref 72]) (E' := E) (I' := I) (J' := J) (S' := S) am_e37 rfl rfl rfl rfl ?_
  refine w_st (i' := 74) (ls' := [.ref 69, d1, d2, d3, d4, d5, .int x6, d7]) (st' := [.int x6, .int ((I 69) 6), .ref 72]) (E' := E) (I' := I) (J' := J) (S' := S) am_e37 rfl rfl rfl rfl ?_
  have hf1 := h.1
  replace h := h.2
  refine w_is (k := 72) (n := 4) (jn := ((I 69) 6).toNatClampNeg) am_e37 rfl rfl (by decide) hf1 rfl ?_
  show am_ww 37 75 [.ref 69, d1, d2, d3, d4, d5, .int x6, d7] [] E (u_I I 72 (upd (I 72) (((I 69) 6).toNatClampNeg) x6)) J S _
  refine w_st (i' := 76) (ls' := [.ref 69, d1, d2, d3, d4, d5, .int x6, d7]) (st' := [.ref 69]) (E' := E) (I' := (u_I I 72 (upd (I 72) (((I 69) 6).toNatClampNeg) x6))) (J' := J) (S' := S) am_e37 rfl rfl rfl rfl ?_
  refine w_st (i' := 77) (ls' := [.ref 69, d1, d2, d3, d4, d5, .int x6, d7]) (st' := [.ref 73]) (E' := E) (I' := (u_I I 72 (upd (I 72) (((I 69) 6).toNatClampNeg) x6))) (J' := J) (S' := S) am_e37 rfl rfl rfl rfl ?_
  refine w_st (i' := 78) (ls' := [.ref 69, d1, d2, d3, d4, d5, .int x6, d7]) (st' := [.ref 69, .ref 73]) (E' := E) (I' := (u_I I 72 (upd (I 72) (((I 69) 6).toNatClampNeg) x6))) (J' := J) (S' := S) am_e37 rfl rfl rfl rfl ?_
  refine w_st (i' := 79) (ls' := [.ref 69, d1, d2, d3, d4, d5, .int x6, d7]) (st' := [.int ((I 69) 6), .ref 73]) (E' := E) (I' := (u_I I 72 (upd (I 72) (((I 69) 6).toNatClampNeg) x6))) (J' := J) (S' := S) am_e37 rfl rfl rfl rfl ?_
  refine w_st (i' := 80) (ls' := [.ref 69, d1, d2, d3, d4, d5, .int x6, d7]) (st' := [.int ((I 69) 6), .ref 73, .int ((I 69) 6), .ref 73]) (E' := E) (I' := (u_I I 72 (upd (I 72) (((I 69) 6).toNatClampNeg) x6))) (J' := J) (S' := S) am_e37 rfl rfl rfl rfl ?_
  refine w_ia (k := 73) (n := 4) (jn := ((I 69) 6).toNatClampNeg) am_e37 rfl rfl (by decide) hf1 rfl ?_
  show am_ww 37 81 [.ref 69, d1, d2, d3, d4, d5, .int x6, d7] [.int ((I 73) (((I 69) 6).toNatClampNeg)), .int ((I 69) 6), .ref 73] E (u_I I 72 (upd (I 72) (((I 69) 6).toNatClampNeg) x6)) J S _
  refine w_st (i' := 82) (ls' := [.ref 69, d1, d2, d3, d4, d5, .int x6, d7]) (st' := [.int (nI 1), .int ((I 73) (((I 69) 6).toNatClampNeg)), .int ((I 69) 6), .ref 73]) (E' := E) (I' := (u_I I 72 (upd (I 72) (((I 69) 6).toNatClampNeg) x6))) (J' := J) (S' := S) am_e37 rfl rfl rfl rfl ?_
  refine w_st (i' := 83) (ls' := [.ref 69, d1, d2, d3, d4, d5, .int x6, d7]) (st' := [.int (((I 73) (((I 69) 6).toNatClampNeg)) + (nI 1)), .int ((I 69) 6), .ref 73]) (E' := E) (I' := (u_I I 72 (upd (I 72) (((I 69) 6).toNatClampNeg) x6))) (J' := J) (S' := S) am_e37 rfl rfl rfl rfl ?_
  refine w_is (k := 73) (n := 4) (jn := ((I 69) 6).toNatClampNeg) am_e37 rfl rfl (by decide) hf1 rfl ?_
  show am_ww 37 84 [.ref 69, d1, d2, d3, d4, d5, .int x6, d7] [] E (u_I (u_I I 72 (upd (I 72) (((I 69) 6).toNatClampNeg) x6)) 73 (upd (I 73) (((I 69) 6).toNatClampNeg) (((I 73) (((I 69) 6).toNatClampNeg)) + (nI 1)))) J S _
  exact w_end am_e37 rfl rfl rfl h
-- 38 work
theorem g38_0_69 {p2 : Int32} {p3 : Int32} {E : am_Ev} {I : Nat → Nat → Int32} {J : Nat → Nat → Int64} {S : Nat → Nat → Option Nat} {Q : am_Qt}  (h : vp_in ((p2 * (nI 3)) + (nI 0)) 192 ∧ (∀ w2 : Int32, w2 = ((I 14) (((p2 * (nI 3)) + (nI 0)).toNatClampNeg)) → (vp_in ((p2 * (nI 3)) + (nI 1)) 192 ∧ (∀ w4 : Int32, w4 = ((I 14) (((p2 * (nI 3)) + (nI 1)).toNatClampNeg)) → (vp_in p2 64 ∧ ((((I 13) p2.toNatClampNeg) = nI 6 → (vp_in ((((I 69) 6) * (nI 4)) + w2) 16 ∧ (Q (.inl none) E (u_I I 71 (upd (I 71) (((((I 69) 6) * (nI 4)) + w2).toNatClampNeg) w4)) J S))) ∧ (((I 13) p2.toNatClampNeg) = nI 7 → (vp_in w4 16 ∧ (vp_in ((((I 69) 6) * (nI 4)) + w2) 16 ∧ (Q (.inl none) E (u_I I 71 (upd (I 71) (((((I 69) 6) * (nI 4)) + w2).toNatClampNeg) ((I 70) w4.toNatClampNeg))) J S)))) ∧ (((I 13) p2.toNatClampNeg) = nI 8 → (vp_in ((((I 69) 6) * (nI 4)) + w4) 16 ∧ (vp_in w2 16 ∧ (Q (.inl none) E (u_I I 70 (upd (I 70) w2.toNatClampNeg ((I 71) (((((I 69) 6) * (nI 4)) + w4).toNatClampNeg)))) J S)))) ∧ (((I 13) p2.toNatClampNeg) = nI 9 → (vp_in ((((I 69) 6) * (nI 4)) + w2) 16 ∧ (vp_in ((((I 69) 6) * (nI 4)) + w4) 16 ∧ (Q (.inl none) E (u_I I 71 (upd (I 71) (((((I 69) 6) * (nI 4)) + w2).toNatClampNeg) (((I 71) (((((I 69) 6) * (nI 4)) + w2).toNatClampNeg)) + ((I 71) (((((I 69) 6) * (nI 4)) + w4).toNatClampNeg))))) J S)))) ∧ (((I 13) p2.toNatClampNeg) = nI 10 → (vp_in ((((I 69) 6) * (nI 4)) + w2) 16 ∧ (vp_in ((((I 69) 6) * (nI 4)) + w4) 16 ∧ (Q (.inl none) E (u_I I 71 (upd (I 71) (((((I 69) 6) * (nI 4)) + w2).toNatClampNeg) (((I 71) (((((I 69) 6) * (nI 4)) + w2).toNatClampNeg)) - ((I 71) (((((I 69) 6) * (nI 4)) + w4).toNatClampNeg))))) J S)))) ∧ (((I 13) p2.toNatClampNeg) = nI 11 → (vp_in ((((I 69) 6) * (nI 4)) + w2) 16 ∧ (vp_in ((((I 69) 6) * (nI 4)) + w4) 16 ∧ (Q (.inl none) E (u_I I 71 (upd (I 71) (((((I 69) 6) * (nI 4)) + w2).toNatClampNeg) (((I 71) (((((I 69) 6) * (nI 4)) + w2).toNatClampNeg)) * ((I 71) (((((I 69) 6) * (nI 4)) + w4).toNatClampNeg))))) J S)))) ∧ (((I 13) p2.toNatClampNeg) = nI 12 → (vp_in ((((I 69) 6) * (nI 4)) + w2) 16 ∧ (vp_in w4 3 ∧ (Q (.inl none) E (u_I (u_I I 71 (upd (I 71) (((((I 69) 6) * (nI 4)) + w2).toNatClampNeg) p3)) 75 (upd (I 75) w4.toNatClampNeg (((I 75) w4.toNatClampNeg) + (nI 1)))) J S)))) ∧ (((I 13) p2.toNatClampNeg) = nI 13 → (vp_in w2 4 ∧ (Q (.inl none) E (u_I I 74 (upd (I 74) w2.toNatClampNeg ((I 69) 6))) J S))) ∧ (((I 13) p2.toNatClampNeg) = nI 14 → (vp_in w2 4 ∧ (∀ w22 : Int32, w22 = (if ((I 74) w2.toNatClampNeg) = ((I 69) 6) then (-1) else ((I 74) w2.toNatClampNeg)) → (Q (.inl none) E (u_I I 74 (upd (I 74) w2.toNatClampNeg w22)) J S)))) ∧ (¬ ((I 13) p2.toNatClampNeg) = nI 6 → ¬ ((I 13) p2.toNatClampNeg) = nI 7 → ¬ ((I 13) p2.toNatClampNeg) = nI 8 → ¬ ((I 13) p2.toNatClampNeg) = nI 9 → ¬ ((I 13) p2.toNatClampNeg) = nI 10 → ¬ ((I 13) p2.toNatClampNeg) = nI 11 → ¬ ((I 13) p2.toNatClampNeg) = nI 12 → ¬ ((I 13) p2.toNatClampNeg) = nI 13 → ¬ ((I 13) p2.toNatClampNeg) = nI 14 → (Q (.inl none) E I J S)))))))) : am_ww 38 0 [.ref 69, .ref 12, .int p2, .int p3, am_U, am_U, am_U] [] E I J S Q := by
  refine w_st (i' := 1) (ls' := [.ref 69, .ref 12, .int p2, .int p3, am_U, am_U, am_U]) (st' := [.ref 69]) (E' := E) (I' := I) (J' := J) (S' := S) am_e38 rfl rfl rfl rfl ?_
  refine w_st (i' := 2) (ls' := [.ref 69, .ref 12, .int p2, .int p3, am_U, am_U, am_U]) (st' := [.int ((I 69) 6)]) (E' := E) (I' := I) (J' := J) (S' := S) am_e38 rfl rfl rfl rfl ?_
  refine w_st (i' := 3) (ls' := [.ref 69, .ref 12, .int p2, .int p3, am_U, am_U, am_U]) (st' := [.int (nI 4), .int ((I 69) 6)]) (E' := E) (I' := I) (J' := J) (S' := S) am_e38 rfl rfl rfl rfl ?_
  refine w_st (i' := 4) (ls' := [.ref 69, .ref 12, .int p2, .int p3, am_U, am_U, am_U]) (st' := [.int (((I 69) 6) * (nI 4))]) (E' := E) (I' := I) (J' := J) (S' := S) am_e38 rfl rfl rfl rfl ?_
  refine w_st (i' := 5) (ls' := [.ref 69, .ref 12, .int p2, .int p3, .int (((I 69) 6) * (nI 4)), am_U, am_U]) (st' := []) (E' := E) (I' := I) (J' := J) (S' := S) am_e38 rfl rfl rfl rfl ?_
  refine w_st (i' := 6) (ls' := [.ref 69, .ref 12, .int p2, .int p3, .int (((I 69) 6) * (nI 4)), am_U, am_U]) (st' := [.ref 12]) (E' := E) (I' := I) (J' := J) (S' := S) am_e38 rfl rfl rfl rfl ?_
  refine w_st (i' := 7) (ls' := [.ref 69, .ref 12, .int p2, .int p3, .int (((I 69) 6) * (nI 4)), am_U, am_U]) (st' := [.int p2, .ref 12]) (E' := E) (I' := I) (J' := J) (S' := S) am_e38 rfl rfl rfl rfl ?_
  refine w_st (i' := 8) (ls' := [.ref 69, .ref 12, .int p2, .int p3, .int (((I 69) 6) * (nI 4)), am_U, am_U]) (st' := [.int (nI 0), .int p2, .ref 12]) (E' := E) (I' := I) (J' := J) (S' := S) am_e38 rfl rfl rfl rfl ?_
  refine w_cI am_e38 rfl rfl (as := [.ref 12, .int p2, .int (nI 0)]) (rest := []) rfl rfl ?_
  show am_ww 26 0 [.ref 12, .int p2, .int (nI 0)] [] E I J S _
  refine w_st (i' := 1) (ls' := [.ref 12, .int p2, .int (nI 0)]) (st' := [.ref 12]) (E' := E) (I' := I) (J' := J) (S' := S) am_e26 rfl rfl rfl rfl ?_
  refine w_st (i' := 2) (ls' := [.ref 12, .int p2, .int (nI 0)]) (st' := [.ref 14]) (E' := E) (I' := I) (J' := J) (S' := S) am_e26 rfl rfl rfl rfl ?_
  refine w_st (i' := 3) (ls' := [.ref 12, .int p2, .int (nI 0)]) (st' := [.int p2, .ref 14]) (E' := E) (I' := I) (J' := J) (S' := S) am_e26 rfl rfl rfl rfl ?_
  refine w_st (i' := 4) (ls' := [.ref 12, .int p2, .int (nI 0)]) (st' := [.int (nI 3), .int p2, .ref 14]) (E' := E) (I' := I) (J' := J) (S' := S) am_e26 rfl rfl rfl rfl ?_
  refine w_st (i' := 5) (ls' := [.ref 12, .int p2, .int (nI 0)]) (st' := [.int (p2 * (nI 3)), .ref 14]) (E' := E) (I' := I) (J' := J) (S' := S) am_e26 rfl rfl rfl rfl ?_
  refine w_st (i' := 6) (ls' := [.ref 12, .int p2, .int (nI 0)]) (st' := [.int (nI 0), .int (p2 * (nI 3)), .ref 14]) (E' := E) (I' := I) (J' := J) (S' := S) am_e26 rfl rfl rfl rfl ?_
  refine w_st (i' := 7) (ls' := [.ref 12, .int p2, .int (nI 0)]) (st' := [.int ((p2 * (nI 3)) + (nI 0)), .ref 14]) (E' := E) (I' := I) (J' := J) (S' := S) am_e26 rfl rfl rfl rfl ?_
  have hf1 := h.1
  replace h := h.2
  refine w_ia (k := 14) (n := 192) (jn := ((p2 * (nI 3)) + (nI 0)).toNatClampNeg) am_e26 rfl rfl (by decide) hf1 rfl ?_
  refine w_ri am_e26 rfl rfl (q_mkI ?_)
  show am_ww 38 9 [.ref 69, .ref 12, .int p2, .int p3, .int (((I 69) 6) * (nI 4)), am_U, am_U] [.int ((I 14) (((p2 * (nI 3)) + (nI 0)).toNatClampNeg))] E I J S _
  refine w_var (fun w2 => am_ww 38 9 [.ref 69, .ref 12, .int p2, .int p3, .int (((I 69) 6) * (nI 4)), am_U, am_U] [.int w2] E I J S _) ((I 14) (((p2 * (nI 3)) + (nI 0)).toNatClampNeg)) (fun w2 hw2 => ?_)
  replace h := h w2 hw2
  refine w_st (i' := 10) (ls' := [.ref 69, .ref 12, .int p2, .int p3, .int (((I 69) 6) * (nI 4)), .int w2, am_U]) (st' := []) (E' := E) (I' := I) (J' := J) (S' := S) am_e38 rfl rfl rfl rfl ?_
  refine w_st (i' := 11) (ls' := [.ref 69, .ref 12, .int p2, .int p3, .int (((I 69) 6) * (nI 4)), .int w2, am_U]) (st' := [.ref 12]) (E' := E) (I' := I) (J' := J) (S' := S) am_e38 rfl rfl rfl rfl ?_
  refine w_st (i' := 12) (ls' := [.ref 69, .ref 12, .int p2, .int p3, .int (((I 69) 6) * (nI 4)), .int w2, am_U]) (st' := [.int p2, .ref 12]) (E' := E) (I' := I) (J' := J) (S' := S) am_e38 rfl rfl rfl rfl ?_
  refine w_st (i' := 13) (ls' := [.ref 69, .ref 12, .int p2, .int p3, .int (((I 69) 6) * (nI 4)), .int w2, am_U]) (st' := [.int (nI 1), .int p2, .ref 12]) (E' := E) (I' := I) (J' := J) (S' := S) am_e38 rfl rfl rfl rfl ?_
  refine w_cI am_e38 rfl rfl (as := [.ref 12, .int p2, .int (nI 1)]) (rest := []) rfl rfl ?_
  show am_ww 26 0 [.ref 12, .int p2, .int (nI 1)] [] E I J S _
  refine w_st (i' := 1) (ls' := [.ref 12, .int p2, .int (nI 1)]) (st' := [.ref 12]) (E' := E) (I' := I) (J' := J) (S' := S) am_e26 rfl rfl rfl rfl ?_
  refine w_st (i' := 2) (ls' := [.ref 12, .int p2, .int (nI 1)]) (st' := [.ref 14]) (E' := E) (I' := I) (J' := J) (S' := S) am_e26 rfl rfl rfl rfl ?_
  refine w_st (i' := 3) (ls' := [.ref 12, .int p2, .int (nI 1)]) (st' := [.int p2, .ref 14]) (E' := E) (I' := I) (J' := J) (S' := S) am_e26 rfl rfl rfl rfl ?_
  refine w_st (i' := 4) (ls' := [.ref 12, .int p2, .int (nI 1)]) (st' := [.int (nI 3), .int p2, .ref 14]) (E' := E) (I' := I) (J' := J) (S' := S) am_e26 rfl rfl rfl rfl ?_
  refine w_st (i' := 5) (ls' := [.ref 12, .int p2, .int (nI 1)]) (st' := [.int (p2 * (nI 3)), .ref 14]) (E' := E) (I' := I) (J' := J) (S' := S) am_e26 rfl rfl rfl rfl ?_
  refine w_st (i' := 6) (ls' := [.ref 12, .int p2, .int (nI 1)]) (st' := [.int (nI 1), .int (p2 * (nI 3)), .ref 14]) (E' := E) (I' := I) (J' := J) (S' := S) am_e26 rfl rfl rfl rfl ?_
  refine w_st (i' := 7) (ls' := [.ref 12, .int p2, .int (nI 1)]) (st' := [.int ((p2 * (nI 3)) + (nI 1)), .ref 14]) (E' := E) (I' := I) (J' := J) (S' := S) am_e26 rfl rfl rfl rfl ?_
  have hf3 := h.1
  replace h := h.2
  refine w_ia (k := 14) (n := 192) (jn := ((p2 * (nI 3)) + (nI 1)).toNatClampNeg) am_e26 rfl rfl (by decide) hf3 rfl ?_
  refine w_ri am_e26 rfl rfl (q_mkI ?_)
  show am_ww 38 14 [.ref 69, .ref 12, .int p2, .int p3, .int (((I 69) 6) * (nI 4)), .int w2, am_U] [.int ((I 14) (((p2 * (nI 3)) + (nI 1)).toNatClampNeg))] E I J S _
  refine w_var (fun w4 => am_ww 38 14 [.ref 69, .ref 12, .int p2, .int p3, .int (((I 69) 6) * (nI 4)), .int w2, am_U] [.int w4] E I J S _) ((I 14) (((p2 * (nI 3)) + (nI 1)).toNatClampNeg)) (fun w4 hw4 => ?_)
  replace h := h w4 hw4
  refine w_st (i' := 15) (ls' := [.ref 69, .ref 12, .int p2, .int p3, .int (((I 69) 6) * (nI 4)), .int w2, .int w4]) (st' := []) (E' := E) (I' := I) (J' := J) (S' := S) am_e38 rfl rfl rfl rfl ?_
  refine w_st (i' := 16) (ls' := [.ref 69, .ref 12, .int p2, .int p3, .int (((I 69) 6) * (nI 4)), .int w2, .int w4]) (st' := [.ref 12]) (E' := E) (I' := I) (J' := J) (S' := S) am_e38 rfl rfl rfl rfl ?_
  refine w_st (i' := 17) (ls' := [.ref 69, .ref 12, .int p2, .int p3, .int (((I 69) 6) * (nI 4)), .int w2, .int w4]) (st' := [.ref 13]) (E' := E) (I' := I) (J' := J) (S' := S) am_e38 rfl rfl rfl rfl ?_
  refine w_st (i' := 18) (ls' := [.ref 69, .ref 12, .int p2, .int p3, .int (((I 69) 6) * (nI 4)), .int w2, .int w4]) (st' := [.int p2, .ref 13]) (E' := E) (I' := I) (J' := J) (S' := S) am_e38 rfl rfl rfl rfl ?_
  have hf5 := h.1
  replace h := h.2
  refine w_ia (k := 13) (n := 64) (jn := p2.toNatClampNeg) am_e38 rfl rfl (by decide) hf5 rfl ?_
  refine w_tb am_e38 rfl ?_
  by_cases c6 : ((I 13) p2.toNatClampNeg) = nI 6
  · replace h := h.1 c6
    refine w_to (i2 := 20) (by rw [c6]; first | done | rfl) ?_
    refine w_st (i' := 21) (ls' := [.ref 69, .ref 12, .int p2, .int p3, .int (((I 69) 6) * (nI 4)), .int w2, .int w4]) (st' := [.ref 69]) (E' := E) (I' := I) (J' := J) (S' := S) am_e38 rfl rfl rfl rfl ?_
    refine w_st (i' := 22) (ls' := [.ref 69, .ref 12, .int p2, .int p3, .int (((I 69) 6) * (nI 4)), .int w2, .int w4]) (st' := [.ref 71]) (E' := E) (I' := I) (J' := J) (S' := S) am_e38 rfl rfl rfl rfl ?_
    refine w_st (i' := 23) (ls' := [.ref 69, .ref 12, .int p2, .int p3, .int (((I 69) 6) * (nI 4)), .int w2, .int w4]) (st' := [.int (((I 69) 6) * (nI 4)), .ref 71]) (E' := E) (I' := I) (J' := J) (S' := S) am_e38 rfl rfl rfl rfl ?_
    refine w_st (i' := 24) (ls' := [.ref 69, .ref 12, .int p2, .int p3, .int (((I 69) 6) * (nI 4)), .int w2, .int w4]) (st' := [.int w2, .int (((I 69) 6) * (nI 4)), .ref 71]) (E' := E) (I' := I) (J' := J) (S' := S) am_e38 rfl rfl rfl rfl ?_
    refine w_st (i' := 25) (ls' := [.ref 69, .ref 12, .int p2, .int p3, .int (((I 69) 6) * (nI 4)), .int w2, .int w4]) (st' := [.int ((((I 69) 6) * (nI 4)) + w2), .ref 71]) (E' := E) (I' := I) (J' := J) (S' := S) am_e38 rfl rfl rfl rfl ?_
    refine w_st (i' := 26) (ls' := [.ref 69, .ref 12, .int p2, .int p3, .int (((I 69) 6) * (nI 4)), .int w2, .int w4]) (st' := [.int w4, .int ((((I 69) 6) * (nI 4)) + w2), .ref 71]) (E' := E) (I' := I) (J' := J) (S' := S) am_e38 rfl rfl rfl rfl ?_
    have hf6 := h.1
    replace h := h.2
    refine w_is (k := 71) (n := 16) (jn := ((((I 69) 6) * (nI 4)) + w2).toNatClampNeg) am_e38 rfl rfl (by decide) hf6 rfl ?_
    show am_ww 38 27 [.ref 69, .ref 12, .int p2, .int p3, .int (((I 69) 6) * (nI 4)), .int w2, .int w4] [] E (u_I I 71 (upd (I 71) (((((I 69) 6) * (nI 4)) + w2).toNatClampNeg) w4)) J S _
    refine w_st (i' := 139) (ls' := [.ref 69, .ref 12, .int p2, .int p3, .int (((I 69) 6) * (nI 4)), .int w2, .int w4]) (st' := []) (E' := E) (I' := (u_I I 71 (upd (I 71) (((((I 69) 6) * (nI 4)) + w2).toNatClampNeg) w4))) (J' := J) (S' := S) am_e38 rfl rfl rfl rfl ?_
    exact w_end am_e38 rfl rfl rfl h
  by_cases c7 : ((I 13) p2.toNatClampNeg) = nI 7
  · replace h := h.2.1 c7
    refine w_to (i2 := 28) (by rw [c7]; first | done | rfl) ?_
    refine w_st (i' := 29) (ls' := [.ref 69, .ref 12, .int p2, .int p3, .int (((I 69) 6) * (nI 4)), .int w2, .int w4]) (st' := [.ref 69]) (E' := E) (I' := I) (J' := J) (S' := S) am_e38 rfl rfl rfl rfl ?_
    refine w_st (i' := 30) (ls' := [.ref 69, .ref 12, .int p2, .int p3, .int (((I 69) 6) * (nI 4)), .int w2, .int w4]) (st' := [.ref 71]) (E' := E) (I' := I) (J' := J) (S' := S) am_e38 rfl rfl rfl rfl ?_
    refine w_st (i' := 31) (ls' := [.ref 69, .ref 12, .int p2, .int p3, .int (((I 69) 6) * (nI 4)), .int w2, .int w4]) (st' := [.int (((I 69) 6) * (nI 4)), .ref 71]) (E' := E) (I' := I) (J' := J) (S' := S) am_e38 rfl rfl rfl rfl ?_
    refine w_st (i' := 32) (ls' := [.ref 69, .ref 12, .int p2, .int p3, .int (((I 69) 6) * (nI 4)), .int w2, .int w4]) (st' := [.int w2, .int (((I 69) 6) * (nI 4)), .ref 71]) (E' := E) (I' := I) (J' := J) (S' := S) am_e38 rfl rfl rfl rfl ?_
    refine w_st (i' := 33) (ls' := [.ref 69, .ref 12, .int p2, .int p3, .int (((I 69) 6) * (nI 4)), .int w2, .int w4]) (st' := [.int ((((I 69) 6) * (nI 4)) + w2), .ref 71]) (E' := E) (I' := I) (J' := J) (S' := S) am_e38 rfl rfl rfl rfl ?_
    refine w_st (i' := 34) (ls' := [.ref 69, .ref 12, .int p2, .int p3, .int (((I 69) 6) * (nI 4)), .int w2, .int w4]) (st' := [.ref 69, .int ((((I 69) 6) * (nI 4)) + w2), .ref 71]) (E' := E) (I' := I) (J' := J) (S' := S) am_e38 rfl rfl rfl rfl ?_
    refine w_st (i' := 35) (ls' := [.ref 69, .ref 12, .int p2, .int p3, .int (((I 69) 6) * (nI 4)), .int w2, .int w4]) (st' := [.ref 70, .int ((((I 69) 6) * (nI 4)) + w2), .ref 71]) (E' := E) (I' := I) (J' := J) (S' := S) am_e38 rfl rfl rfl rfl ?_
    refine w_st (i' := 36) (ls' := [.ref 69, .ref 12, .int p2, .int p3, .int (((I 69) 6) * (nI 4)), .int w2, .int w4]) (st' := [.int w4, .ref 70, .int ((((I 69) 6) * (nI 4)) + w2), .ref 71]) (E' := E) (I' := I) (J' := J) (S' := S) am_e38 rfl rfl rfl rfl ?_
    have hf7 := h.1
    replace h := h.2
    refine w_ia (k := 70) (n := 16) (jn := w4.toNatClampNeg) am_e38 rfl rfl (by decide) hf7 rfl ?_
    have hf8 := h.1
    replace h := h.2
    refine w_is (k := 71) (n := 16) (jn := ((((I 69) 6) * (nI 4)) + w2).toNatClampNeg) am_e38 rfl rfl (by decide) hf8 rfl ?_
    show am_ww 38 38 [.ref 69, .ref 12, .int p2, .int p3, .int (((I 69) 6) * (nI 4)), .int w2, .int w4] [] E (u_I I 71 (upd (I 71) (((((I 69) 6) * (nI 4)) + w2).toNatClampNeg) ((I 70) w4.toNatClampNeg))) J S _
    refine w_st (i' := 139) (ls' := [.ref 69, .ref 12, .int p2, .int p3, .int (((I 69) 6) * (nI 4)), .int w2, .int w4]) (st' := []) (E' := E) (I' := (u_I I 71 (upd (I 71) (((((I 69) 6) * (nI 4)) + w2).toNatClampNeg) ((I 70) w4.toNatClampNeg)))) (J' := J) (S' := S) am_e38 rfl rfl rfl rfl ?_
    exact w_end am_e38 rfl rfl rfl h
  by_cases c8 : ((I 13) p2.toNatClampNeg) = nI 8
  · replace h := h.2.2.1 c8
    refine w_to (i2 := 39) (by rw [c8]; first | done | rfl) ?_
    refine w_st (i' := 40) (ls' := [.ref 69, .ref 12, .int p2, .int p3, .int (((I 69) 6) * (nI 4)), .int w2, .int w4]) (st' := [.ref 69]) (E' := E) (I' := I) (J' := J) (S' := S) am_e38 rfl rfl rfl rfl ?_
    refine w_st (i' := 41) (ls' := [.ref 69, .ref 12, .int p2, .int p3, .int (((I 69) 6) * (nI 4)), .int w2, .int w4]) (st' := [.ref 70]) (E' := E) (I' := I) (J' := J) (S' := S) am_e38 rfl rfl rfl rfl ?_
    refine w_st (i' := 42) (ls' := [.ref 69, .ref 12, .int p2, .int p3, .int (((I 69) 6) * (nI 4)), .int w2, .int w4]) (st' := [.int w2, .ref 70]) (E' := E) (I' := I) (J' := J) (S' := S) am_e38 rfl rfl rfl rfl ?_
    refine w_st (i' := 43) (ls' := [.ref 69, .ref 12, .int p2, .int p3, .int (((I 69) 6) * (nI 4)), .int w2, .int w4]) (st' := [.ref 69, .int w2, .ref 70]) (E' := E) (I' := I) (J' := J) (S' := S) am_e38 rfl rfl rfl rfl ?_
    refine w_st (i' := 44) (ls' := [.ref 69, .ref 12, .int p2, .int p3, .int (((I 69) 6) * (nI 4)), .int w2, .int w4]) (st' := [.ref 71, .int w2, .ref 70]) (E' := E) (I' := I) (J' := J) (S' := S) am_e38 rfl rfl rfl rfl ?_
    refine w_st (i' := 45) (ls' := [.ref 69, .ref 12, .int p2, .int p3, .int (((I 69) 6) * (nI 4)), .int w2, .int w4]) (st' := [.int (((I 69) 6) * (nI 4)), .ref 71, .int w2, .ref 70]) (E' := E) (I' := I) (J' := J) (S' := S) am_e38 rfl rfl rfl rfl ?_
    refine w_st (i' := 46) (ls' := [.ref 69, .ref 12, .int p2, .int p3, .int (((I 69) 6) * (nI 4)), .int w2, .int w4]) (st' := [.int w4, .int (((I 69) 6) * (nI 4)), .ref 71, .int w2, .ref 70]) (E' := E) (I' := I) (J' := J) (S' := S) am_e38 rfl rfl rfl rfl ?_
    refine w_st (i' := 47) (ls' := [.ref 69, .ref 12, .int p2, .int p3, .int (((I 69) 6) * (nI 4)), .int w2, .int w4]) (st' := [.int ((((I 69) 6) * (nI 4)) + w4), .ref 71, .int w2, .ref 70]) (E' := E) (I' := I) (J' := J) (S' := S) am_e38 rfl rfl rfl rfl ?_
    have hf9 := h.1
    replace h := h.2
    refine w_ia (k := 71) (n := 16) (jn := ((((I 69) 6) * (nI 4)) + w4).toNatClampNeg) am_e38 rfl rfl (by decide) hf9 rfl ?_
    have hf10 := h.1
    replace h := h.2
    refine w_is (k := 70) (n := 16) (jn := w2.toNatClampNeg) am_e38 rfl rfl (by decide) hf10 rfl ?_
    show am_ww 38 49 [.ref 69, .ref 12, .int p2, .int p3, .int (((I 69) 6) * (nI 4)), .int w2, .int w4] [] E (u_I I 70 (upd (I 70) w2.toNatClampNeg ((I 71) (((((I 69) 6) * (nI 4)) + w4).toNatClampNeg)))) J S _
    refine w_st (i' := 139) (ls' := [.ref 69, .ref 12, .int p2, .int p3, .int (((I 69) 6) * (nI 4)), .int w2, .int w4]) (st' := []) (E' := E) (I' := (u_I I 70 (upd (I 70) w2.toNatClampNeg ((I 71) (((((I 69) 6) * (nI 4)) + w4).toNatClampNeg))))) (J' := J) (S' := S) am_e38 rfl rfl rfl rfl ?_
    exact w_end am_e38 rfl rfl rfl h
  by_cases c9 : ((I 13) p2.toNatClampNeg) = nI 9
  · replace h := h.2.2.2.1 c9
    refine w_to (i2 := 50) (by rw [c9]; first | done | rfl) ?_
    refine w_st (i' := 51) (ls' := [.ref 69, .ref 12, .int p2, .int p3, .int (((I 69) 6) * (nI 4)), .int w2, .int w4]) (st' := [.ref 69]) (E' := E) (I' := I) (J' := J) (S' := S) am_e38 rfl rfl rfl rfl ?_
    refine w_st (i' := 52) (ls' := [.ref 69, .ref 12, .int p2, .int p3, .int (((I 69) 6) * (nI 4)), .int w2, .int w4]) (st' := [.ref 71]) (E' := E) (I' := I) (J' := J) (S' := S) am_e38 rfl rfl rfl rfl ?_
    refine w_st (i' := 53) (ls' := [.ref 69, .ref 12, .int p2, .int p3, .int (((I 69) 6) * (nI 4)), .int w2, .int w4]) (st' := [.int (((I 69) 6) * (nI 4)), .ref 71]) (E' := E) (I' := I) (J' := J) (S' := S) am_e38 rfl rfl rfl rfl ?_
    refine w_st (i' := 54) (ls' := [.ref 69, .ref 12, .int p2, .int p3, .int (((I 69) 6) * (nI 4)), .int w2, .int w4]) (st' := [.int w2, .int (((I 69) 6) * (nI 4)), .ref 71]) (E' := E) (I' := I) (J' := J) (S' := S) am_e38 rfl rfl rfl rfl ?_
    refine w_st (i' := 55) (ls' := [.ref 69, .ref 12, .int p2, .int p3, .int (((I 69) 6) * (nI 4)), .int w2, .int w4]) (st' := [.int ((((I 69) 6) * (nI 4)) + w2), .ref 71]) (E' := E) (I' := I) (J' := J) (S' := S) am_e38 rfl rfl rfl rfl ?_
    refine w_st (i' := 56) (ls' := [.ref 69, .ref 12, .int p2, .int p3, .int (((I 69) 6) * (nI 4)), .int w2, .int w4]) (st' := [.int ((((I 69) 6) * (nI 4)) + w2), .ref 71, .int ((((I 69) 6) * (nI 4)) + w2), .ref 71]) (E' := E) (I' := I) (J' := J) (S' := S) am_e38 rfl rfl rfl rfl ?_
    have hf11 := h.1
    replace h := h.2
    refine w_ia (k := 71) (n := 16) (jn := ((((I 69) 6) * (nI 4)) + w2).toNatClampNeg) am_e38 rfl rfl (by decide) hf11 rfl ?_
    refine w_st (i' := 58) (ls' := [.ref 69, .ref 12, .int p2, .int p3, .int (((I 69) 6) * (nI 4)), .int w2, .int w4]) (st' := [.ref 69, .int ((I 71) (((((I 69) 6) * (nI 4)) + w2).toNatClampNeg)), .int ((((I 69) 6) * (nI 4)) + w2), .ref 71]) (E' := E) (I' := I) (J' := J) (S' := S) am_e38 rfl rfl rfl rfl ?_
    refine w_st (i' := 59) (ls' := [.ref 69, .ref 12, .int p2, .int p3, .int (((I 69) 6) * (nI 4)), .int w2, .int w4]) (st' := [.ref 71, .int ((I 71) (((((I 69) 6) * (nI 4)) + w2).toNatClampNeg)), .int ((((I 69) 6) * (nI 4)) + w2), .ref 71]) (E' := E) (I' := I) (J' := J) (S' := S) am_e38 rfl rfl rfl rfl ?_
    refine w_st (i' := 60) (ls' := [.ref 69, .ref 12, .int p2, .int p3, .int (((I 69) 6) * (nI 4)), .int w2, .int w4]) (st' := [.int (((I 69) 6) * (nI 4)), .ref 71, .int ((I 71) (((((I 69) 6) * (nI 4)) + w2).toNatClampNeg)), .int ((((I 69) 6) * (nI 4)) + w2), .ref 71]) (E' := E) (I' := I) (J' := J) (S' := S) am_e38 rfl rfl rfl rfl ?_
    refine w_st (i' := 61) (ls' := [.ref 69, .ref 12, .int p2, .int p3, .int (((I 69) 6) * (nI 4)), .int w2, .int w4]) (st' := [.int w4, .int (((I 69) 6) * (nI 4)), .ref 71, .int ((I 71) (((((I 69) 6) * (nI 4)) + w2).toNatClampNeg)), .int ((((I 69) 6) * (nI 4)) + w2), .ref 71]) (E' := E) (I' := I) (J' := J) (S' := S) am_e38 rfl rfl rfl rfl ?_
    refine w_st (i' := 62) (ls' := [.ref 69, .ref 12, .int p2, .int p3, .int (((I 69) 6) * (nI 4)), .int w2, .int w4]) (st' := [.int ((((I 69) 6) * (nI 4)) + w4), .ref 71, .int ((I 71) (((((I 69) 6) * (nI 4)) + w2).toNatClampNeg)), .int ((((I 69) 6) * (nI 4)) + w2), .ref 71]) (E' := E) (I' := I) (J' := J) (S' := S) am_e38 rfl rfl rfl rfl ?_
    have hf12 := h.1
    replace h := h.2
    refine w_ia (k := 71) (n := 16) (jn := ((((I 69) 6) * (nI 4)) + w4).toNatClampNeg) am_e38 rfl rfl (by decide) hf12 rfl ?_
    refine w_st (i' := 64) (ls' := [.ref 69, .ref 12, .int p2, .int p3, .int (((I 69) 6) * (nI 4)), .int w2, .int w4]) (st' := [.int (((I 71) (((((I 69) 6) * (nI 4)) + w2).toNatClampNeg)) + ((I 71) (((((I 69) 6) * (nI 4)) + w4).toNatClampNeg))), .int ((((I 69) 6) * (nI 4)) + w2), .ref 71]) (E' := E) (I' := I) (J' := J) (S' := S) am_e38 rfl rfl rfl rfl ?_
    refine w_is (k := 71) (n := 16) (jn := ((((I 69) 6) * (nI 4)) + w2).toNatClampNeg) am_e38 rfl rfl (by decide) hf11 rfl ?_
    show am_ww 38 65 [.ref 69, .ref 12, .int p2, .int p3, .int (((I 69) 6) * (nI 4)), .int w2, .int w4] [] E (u_I I 71 (upd (I 71) (((((I 69) 6) * (nI 4)) + w2).toNatClampNeg) (((I 71) (((((I 69) 6) * (nI 4)) + w2).toNatClampNeg)) + ((I 71) (((((I 69) 6) * (nI 4)) + w4).toNatClampNeg))))) J S _
    refine w_st (i' := 139) (ls' := [.ref 69, .ref 12, .int p2, .int p3, .int (((I 69) 6) * (nI 4)), .int w2, .int w4]) (st' := []) (E' := E) (I' := (u_I I 71 (upd (I 71) (((((I 69) 6) * (nI 4)) + w2).toNatClampNeg) (((I 71) (((((I 69) 6) * (nI 4)) + w2).toNatClampNeg)) + ((I 71) (((((I 69) 6) * (nI 4)) + w4).toNatClampNeg)))))) (J' := J) (S' := S) am_e38 rfl rfl rfl rfl ?_
    exact w_end am_e38 rfl rfl rfl h
  by_cases c10 : ((I 13) p2.toNatClampNeg) = nI 10
  · replace h := h.2.2.2.2.1 c10
    refine w_to (i2 := 66) (by rw [c10]; first | done | rfl) ?_
    refine w_st (i' := 67) (ls' := [.ref 69, .ref 12, .int p2, .int p3, .int (((I 69) 6) * (nI 4)), .int w2, .int w4]) (st' := [.ref 69]) (E' := E) (I' := I) (J' := J) (S' := S) am_e38 rfl rfl rfl rfl ?_
    refine w_st (i' := 68) (ls' := [.ref 69, .ref 12, .int p2, .int p3, .int (((I 69) 6) * (nI 4)), .int w2, .int w4]) (st' := [.ref 71]) (E' := E) (I' := I) (J' := J) (S' := S) am_e38 rfl rfl rfl rfl ?_
    refine w_st (i' := 69) (ls' := [.ref 69, .ref 12, .int p2, .int p3, .int (((I 69) 6) * (nI 4)), .int w2, .int w4]) (st' := [.int (((I 69) 6) * (nI 4)), .ref 71]) (E' := E) (I' := I) (J' := J) (S' := S) am_e38 rfl rfl rfl rfl ?_
    refine w_st (i' := 70) (ls' := [.ref 69, .ref 12, .int p2, .int p3, .int (((I 69) 6) * (nI 4)), .int w2, .int w4]) (st' := [.int w2, .int (((I 69) 6) * (nI 4)), .ref 71]) (E' := E) (I' := I) (J' := J) (S' := S) am_e38 rfl rfl rfl rfl ?_
    refine w_st (i' := 71) (ls' := [.ref 69, .ref 12, .int p2, .int p3, .int (((I 69) 6) * (nI 4)), .int w2, .int w4]) (st' := [.int ((((I 69) 6) * (nI 4)) + w2), .ref 71]) (E' := E) (I' := I) (J' := J) (S' := S) am_e38 rfl rfl rfl rfl ?_
    refine w_st (i' := 72) (ls' := [.ref 69, .ref 12, .int p2, .int p3, .int (((I 69) 6) * (nI 4)), .int w2, .int w4]) (st' := [.int ((((I 69) 6) * (nI 4)) + w2), .ref 71, .int ((((I 69) 6) * (nI 4)) + w2), .ref 71]) (E' := E) (I' := I) (J' := J) (S' := S) am_e38 rfl rfl rfl rfl ?_
    have hf13 := h.1
    replace h := h.2
    refine w_ia (k := 71) (n := 16) (jn := ((((I 69) 6) * (nI 4)) + w2).toNatClampNeg) am_e38 rfl rfl (by decide) hf13 rfl ?_
    refine w_st (i' := 74) (ls' := [.ref 69, .ref 12, .int p2, .int p3, .int (((I 69) 6) * (nI 4)), .int w2, .int w4]) (st' := [.ref 69, .int ((I 71) (((((I 69) 6) * (nI 4)) + w2).toNatClampNeg)), .int ((((I 69) 6) * (nI 4)) + w2), .ref 71]) (E' := E) (I' := I) (J' := J) (S' := S) am_e38 rfl rfl rfl rfl ?_
    refine w_st (i' := 75) (ls' := [.ref 69, .ref 12, .int p2, .int p3, .int (((I 69) 6) * (nI 4)), .int w2, .int w4]) (st' := [.ref 71, .int ((I 71) (((((I 69) 6) * (nI 4)) + w2).toNatClampNeg)), .int ((((I 69) 6) * (nI 4)) + w2), .ref 71]) (E' := E) (I' := I) (J' := J) (S' := S) am_e38 rfl rfl rfl rfl ?_
    refine w_st (i' := 76) (ls' := [.ref 69, .ref 12, .int p2, .int p3, .int (((I 69) 6) * (nI 4)), .int w2, .int w4]) (st' := [.int (((I 69) 6) * (nI 4)), .ref 71, .int ((I 71) (((((I 69) 6) * (nI 4)) + w2).toNatClampNeg)), .int ((((I 69) 6) * (nI 4)) + w2), .ref 71]) (E' := E) (I' := I) (J' := J) (S' := S) am_e38 rfl rfl rfl rfl ?_
    refine w_st (i' := 77) (ls' := [.ref 69, .ref 12, .int p2, .int p3, .int (((I 69) 6) * (nI 4)), .int w2, .int w4]) (st' := [.int w4, .int (((I 69) 6) * (nI 4)), .ref 71, .int ((I 71) (((((I 69) 6) * (nI 4)) + w2).toNatClampNeg)), .int ((((I 69) 6) * (nI 4)) + w2), .ref 71]) (E' := E) (I' := I) (J' := J) (S' := S) am_e38 rfl rfl rfl rfl ?_
    refine w_st (i' := 78) (ls' := [.ref 69, .ref 12, .int p2, .int p3, .int (((I 69) 6) * (nI 4)), .int w2, .int w4]) (st' := [.int ((((I 69) 6) * (nI 4)) + w4), .ref 71, .int ((I 71) (((((I 69) 6) * (nI 4)) + w2).toNatClampNeg)), .int ((((I 69) 6) * (nI 4)) + w2), .ref 71]) (E' := E) (I' := I) (J' := J) (S' := S) am_e38 rfl rfl rfl rfl ?_
    have hf14 := h.1
    replace h := h.2
    refine w_ia (k := 71) (n := 16) (jn := ((((I 69) 6) * (nI 4)) + w4).toNatClampNeg) am_e38 rfl rfl (by decide) hf14 rfl ?_
    refine w_st (i' := 80) (ls' := [.ref 69, .ref 12, .int p2, .int p3, .int (((I 69) 6) * (nI 4)), .int w2, .int w4]) (st' := [.int (((I 71) (((((I 69) 6) * (nI 4)) + w2).toNatClampNeg)) - ((I 71) (((((I 69) 6) * (nI 4)) + w4).toNatClampNeg))), .int ((((I 69) 6) * (nI 4)) + w2), .ref 71]) (E' := E) (I' := I) (J' := J) (S' := S) am_e38 rfl rfl rfl rfl ?_
    refine w_is (k := 71) (n := 16) (jn := ((((I 69) 6) * (nI 4)) + w2).toNatClampNeg) am_e38 rfl rfl (by decide) hf13 rfl ?_
    show am_ww 38 81 [.ref 69, .ref 12, .int p2, .int p3, .int (((I 69) 6) * (nI 4)), .int w2, .int w4] [] E (u_I I 71 (upd (I 71) (((((I 69) 6) * (nI 4)) + w2).toNatClampNeg) (((I 71) (((((I 69) 6) * (nI 4)) + w2).toNatClampNeg)) - ((I 71) (((((I 69) 6) * (nI 4)) + w4).toNatClampNeg))))) J S _
    refine w_st (i' := 139) (ls' := [.ref 69, .ref 12, .int p2, .int p3, .int (((I 69) 6) * (nI 4)), .int w2, .int w4]) (st' := []) (E' := E) (I' := (u_I I 71 (upd (I 71) (((((I 69) 6) * (nI 4)) + w2).toNatClampNeg) (((I 71) (((((I 69) 6) * (nI 4)) + w2).toNatClampNeg)) - ((I 71) (((((I 69) 6) * (nI 4)) + w4).toNatClampNeg)))))) (J' := J) (S' := S) am_e38 rfl rfl rfl rfl ?_
    exact w_end am_e38 rfl rfl rfl h
  by_cases c11 : ((I 13) p2.toNatClampNeg) = nI 11
  · replace h := h.2.2.2.2.2.1 c11
    refine w_to (i2 := 82) (by rw [c11]; first | done | rfl) ?_
    refine w_st (i' := 83) (ls' := [.ref 69, .ref 12, .int p2, .int p3, .int (((I 69) 6) * (nI 4)), .int w2, .int w4]) (st' := [.ref 69]) (E' := E) (I' := I) (J' := J) (S' := S) am_e38 rfl rfl rfl rfl ?_
    refine w_st (i' := 84) (ls' := [.ref 69, .ref 12, .int p2, .int p3, .int (((I 69) 6) * (nI 4)), .int w2, .int w4]) (st' := [.ref 71]) (E' := E) (I' := I) (J' := J) (S' := S) am_e38 rfl rfl rfl rfl ?_
    refine w_st (i' := 85) (ls' := [.ref 69, .ref 12, .int p2, .int p3, .int (((I 69) 6) * (nI 4)), .int w2, .int w4]) (st' := [.int (((I 69) 6) * (nI 4)), .ref 71]) (E' := E) (I' := I) (J' := J) (S' := S) am_e38 rfl rfl rfl rfl ?_
    refine w_st (i' := 86) (ls' := [.ref 69, .ref 12, .int p2, .int p3, .int (((I 69) 6) * (nI 4)), .int w2, .int w4]) (st' := [.int w2, .int (((I 69) 6) * (nI 4)), .ref 71]) (E' := E) (I' := I) (J' := J) (S' := S) am_e38 rfl rfl rfl rfl ?_
    refine w_st (i' := 87) (ls' := [.ref 69, .ref 12, .int p2, .int p3, .int (((I 69) 6) * (nI 4)), .int w2, .int w4]) (st' := [.int ((((I 69) 6) * (nI 4)) + w2), .ref 71]) (E' := E) (I' := I) (J' := J) (S' := S) am_e38 rfl rfl rfl rfl ?_
    refine w_st (i' := 88) (ls' := [.ref 69, .ref 12, .int p2, .int p3, .int (((I 69) 6) * (nI 4)), .int w2, .int w4]) (st' := [.int ((((I 69) 6) * (nI 4)) + w2), .ref 71, .int ((((I 69) 6) * (nI 4)) + w2), .ref 71]) (E' := E) (I' := I) (J' := J) (S' := S) am_e38 rfl rfl rfl rfl ?_
    have hf15 := h.1
    replace h := h.2
    refine w_ia (k := 71) (n := 16) (jn := ((((I 69) 6) * (nI 4)) + w2).toNatClampNeg) am_e38 rfl rfl (by decide) hf15 rfl ?_
    refine w_st (i' := 90) (ls' := [.ref 69, .ref 12, .int p2, .int p3, .int (((I 69) 6) * (nI 4)), .int w2, .int w4]) (st' := [.ref 69, .int ((I 71) (((((I 69) 6) * (nI 4)) + w2).toNatClampNeg)), .int ((((I 69) 6) * (nI 4)) + w2), .ref 71]) (E' := E) (I' := I) (J' := J) (S' := S) am_e38 rfl rfl rfl rfl ?_
    refine w_st (i' := 91) (ls' := [.ref 69, .ref 12, .int p2, .int p3, .int (((I 69) 6) * (nI 4)), .int w2, .int w4]) (st' := [.ref 71, .int ((I 71) (((((I 69) 6) * (nI 4)) + w2).toNatClampNeg)), .int ((((I 69) 6) * (nI 4)) + w2), .ref 71]) (E' := E) (I' := I) (J' := J) (S' := S) am_e38 rfl rfl rfl rfl ?_
    refine w_st (i' := 92) (ls' := [.ref 69, .ref 12, .int p2, .int p3, .int (((I 69) 6) * (nI 4)), .int w2, .int w4]) (st' := [.int (((I 69) 6) * (nI 4)), .ref 71, .int ((I 71) (((((I 69) 6) * (nI 4)) + w2).toNatClampNeg)), .int ((((I 69) 6) * (nI 4)) + w2), .ref 71]) (E' := E) (I' := I) (J' := J) (S' := S) am_e38 rfl rfl rfl rfl ?_
    refine w_st (i' := 93) (ls' := [.ref 69, .ref 12, .int p2, .int p3, .int (((I 69) 6) * (nI 4)), .int w2, .int w4]) (st' := [.int w4, .int (((I 69) 6) * (nI 4)), .ref 71, .int ((I 71) (((((I 69) 6) * (nI 4)) + w2).toNatClampNeg)), .int ((((I 69) 6) * (nI 4)) + w2), .ref 71]) (E' := E) (I' := I) (J' := J) (S' := S) am_e38 rfl rfl rfl rfl ?_
    refine w_st (i' := 94) (ls' := [.ref 69, .ref 12, .int p2, .int p3, .int (((I 69) 6) * (nI 4)), .int w2, .int w4]) (st' := [.int ((((I 69) 6) * (nI 4)) + w4), .ref 71, .int ((I 71) (((((I 69) 6) * (nI 4)) + w2).toNatClampNeg)), .int ((((I 69) 6) * (nI 4)) + w2), .ref 71]) (E' := E) (I' := I) (J' := J) (S' := S) am_e38 rfl rfl rfl rfl ?_
    have hf16 := h.1
    replace h := h.2
    refine w_ia (k := 71) (n := 16) (jn := ((((I 69) 6) * (nI 4)) + w4).toNatClampNeg) am_e38 rfl rfl (by decide) hf16 rfl ?_
    refine w_st (i' := 96) (ls' := [.ref 69, .ref 12, .int p2, .int p3, .int (((I 69) 6) * (nI 4)), .int w2, .int w4]) (st' := [.int (((I 71) (((((I 69) 6) * (nI 4)) + w2).toNatClampNeg)) * ((I 71) (((((I 69) 6) * (nI 4)) + w4).toNatClampNeg))), .int ((((I 69) 6) * (nI 4)) + w2), .ref 71]) (E' := E) (I' := I) (J' := J) (S' := S) am_e38 rfl rfl rfl rfl ?_
    refine w_is (k := 71) (n := 16) (jn := ((((I 69) 6) * (nI 4)) + w2).toNatClampNeg) am_e38 rfl rfl (by decide) hf15 rfl ?_
    show am_ww 38 97 [.ref 69, .ref 12, .int p2, .int p3, .int (((I 69) 6) * (nI 4)), .int w2, .int w4] [] E (u_I I 71 (upd (I 71) (((((I 69) 6) * (nI 4)) + w2).toNatClampNeg) (((I 71) (((((I 69) 6) * (nI 4)) + w2).toNatClampNeg)) * ((I 71) (((((I 69) 6) * (nI 4)) + w4).toNatClampNeg))))) J S _
    refine w_st (i' := 139) (ls' := [.ref 69, .ref 12, .int p2, .int p3, .int (((I 69) 6) * (nI 4)), .int w2, .int w4]) (st' := []) (E' := E) (I' := (u_I I 71 (upd (I 71) (((((I 69) 6) * (nI 4)) + w2).toNatClampNeg) (((I 71) (((((I 69) 6) * (nI 4)) + w2).toNatClampNeg)) * ((I 71) (((((I 69) 6) * (nI 4)) + w4).toNatClampNeg)))))) (J' := J) (S' := S) am_e38 rfl rfl rfl rfl ?_
    exact w_end am_e38 rfl rfl rfl h
  by_cases c12 : ((I 13) p2.toNatClampNeg) = nI 12
  · replace h := h.2.2.2.2.2.2.1 c12
    refine w_to (i2 := 98) (by rw [c12]; first | done | rfl) ?_
    refine w_st (i' := 99) (ls' := [.ref 69, .ref 12, .int p2, .int p3, .int (((I 69) 6) * (nI 4)), .int w2, .int w4]) (st' := [.ref 69]) (E' := E) (I' := I) (J' := J) (S' := S) am_e38 rfl rfl rfl rfl ?_
    refine w_st (i' := 100) (ls' := [.ref 69, .ref 12, .int p2, .int p3, .int (((I 69) 6) * (nI 4)), .int w2, .int w4]) (st' := [.ref 71]) (E' := E) (I' := I) (J' := J) (S' := S) am_e38 rfl rfl rfl rfl ?_
    refine w_st (i' := 101) (ls' := [.ref 69, .ref 12, .int p2, .int p3, .int (((I 69) 6) * (nI 4)), .int w2, .int w4]) (st' := [.int (((I 69) 6) * (nI 4)), .ref 71]) (E' := E) (I' := I) (J' := J) (S' := S) am_e38 rfl rfl rfl rfl ?_
    refine w_st (i' := 102) (ls' := [.ref 69, .ref 12, .int p2, .int p3, .int (((I 69) 6) * (nI 4)), .int w2, .int w4]) (st' := [.int w2, .int (((I 69) 6) * (nI 4)), .ref 71]) (E' := E) (I' := I) (J' := J) (S' := S) am_e38 rfl rfl rfl rfl ?_
    refine w_st (i' := 103) (ls' := [.ref 69, .ref 12, .int p2, .int p3, .int (((I 69) 6) * (nI 4)), .int w2, .int w4]) (st' := [.int ((((I 69) 6) * (nI 4)) + w2), .ref 71]) (E' := E) (I' := I) (J' := J) (S' := S) am_e38 rfl rfl rfl rfl ?_
    refine w_st (i' := 104) (ls' := [.ref 69, .ref 12, .int p2, .int p3, .int (((I 69) 6) * (nI 4)), .int w2, .int w4]) (st' := [.int p3, .int ((((I 69) 6) * (nI 4)) + w2), .ref 71]) (E' := E) (I' := I) (J' := J) (S' := S) am_e38 rfl rfl rfl rfl ?_
    have hf17 := h.1
    replace h := h.2
    refine w_is (k := 71) (n := 16) (jn := ((((I 69) 6) * (nI 4)) + w2).toNatClampNeg) am_e38 rfl rfl (by decide) hf17 rfl ?_
    show am_ww 38 105 [.ref 69, .ref 12, .int p2, .int p3, .int (((I 69) 6) * (nI 4)), .int w2, .int w4] [] E (u_I I 71 (upd (I 71) (((((I 69) 6) * (nI 4)) + w2).toNatClampNeg) p3)) J S _
    refine w_st (i' := 106) (ls' := [.ref 69, .ref 12, .int p2, .int p3, .int (((I 69) 6) * (nI 4)), .int w2, .int w4]) (st' := [.ref 69]) (E' := E) (I' := (u_I I 71 (upd (I 71) (((((I 69) 6) * (nI 4)) + w2).toNatClampNeg) p3))) (J' := J) (S' := S) am_e38 rfl rfl rfl rfl ?_
    refine w_st (i' := 107) (ls' := [.ref 69, .ref 12, .int p2, .int p3, .int (((I 69) 6) * (nI 4)), .int w2, .int w4]) (st' := [.ref 75]) (E' := E) (I' := (u_I I 71 (upd (I 71) (((((I 69) 6) * (nI 4)) + w2).toNatClampNeg) p3))) (J' := J) (S' := S) am_e38 rfl rfl rfl rfl ?_
    refine w_st (i' := 108) (ls' := [.ref 69, .ref 12, .int p2, .int p3, .int (((I 69) 6) * (nI 4)), .int w2, .int w4]) (st' := [.int w4, .ref 75]) (E' := E) (I' := (u_I I 71 (upd (I 71) (((((I 69) 6) * (nI 4)) + w2).toNatClampNeg) p3))) (J' := J) (S' := S) am_e38 rfl rfl rfl rfl ?_
    refine w_st (i' := 109) (ls' := [.ref 69, .ref 12, .int p2, .int p3, .int (((I 69) 6) * (nI 4)), .int w2, .int w4]) (st' := [.int w4, .ref 75, .int w4, .ref 75]) (E' := E) (I' := (u_I I 71 (upd (I 71) (((((I 69) 6) * (nI 4)) + w2).toNatClampNeg) p3))) (J' := J) (S' := S) am_e38 rfl rfl rfl rfl ?_
    have hf18 := h.1
    replace h := h.2
    refine w_ia (k := 75) (n := 3) (jn := w4.toNatClampNeg) am_e38 rfl rfl (by decide) hf18 rfl ?_
    show am_ww 38 110 [.ref 69, .ref 12, .int p2, .int p3, .int (((I 69) 6) * (nI 4)), .int w2, .int w4] [.int ((I 75) w4.toNatClampNeg), .int w4, .ref 75] E (u_I I 71 (upd (I 71) (((((I 69) 6) * (nI 4)) + w2).toNatClampNeg) p3)) J S _
    refine w_st (i' := 111) (ls' := [.ref 69, .ref 12, .int p2, .int p3, .int (((I 69) 6) * (nI 4)), .int w2, .int w4]) (st' := [.int (nI 1), .int ((I 75) w4.toNatClampNeg), .int w4, .ref 75]) (E' := E) (I' := (u_I I 71 (upd (I 71) (((((I 69) 6) * (nI 4)) + w2).toNatClampNeg) p3))) (J' := J) (S' := S) am_e38 rfl rfl rfl rfl ?_
    refine w_st (i' := 112) (ls' := [.ref 69, .ref 12, .int p2, .int p3, .int (((I 69) 6) * (nI 4)), .int w2, .int w4]) (st' := [.int (((I 75) w4.toNatClampNeg) + (nI 1)), .int w4, .ref 75]) (E' := E) (I' := (u_I I 71 (upd (I 71) (((((I 69) 6) * (nI 4)) + w2).toNatClampNeg) p3))) (J' := J) (S' := S) am_e38 rfl rfl rfl rfl ?_
    refine w_is (k := 75) (n := 3) (jn := w4.toNatClampNeg) am_e38 rfl rfl (by decide) hf18 rfl ?_
    show am_ww 38 113 [.ref 69, .ref 12, .int p2, .int p3, .int (((I 69) 6) * (nI 4)), .int w2, .int w4] [] E (u_I (u_I I 71 (upd (I 71) (((((I 69) 6) * (nI 4)) + w2).toNatClampNeg) p3)) 75 (upd (I 75) w4.toNatClampNeg (((I 75) w4.toNatClampNeg) + (nI 1)))) J S _
    refine w_st (i' := 139) (ls' := [.ref 69, .ref 12, .int p2, .int p3, .int (((I 69) 6) * (nI 4)), .int w2, .int w4]) (st' := []) (E' := E) (I' := (u_I (u_I I 71 (upd (I 71) (((((I 69) 6) * (nI 4)) + w2).toNatClampNeg) p3)) 75 (upd (I 75) w4.toNatClampNeg (((I 75) w4.toNatClampNeg) + (nI 1))))) (J' := J) (S' := S) am_e38 rfl rfl rfl rfl ?_
    exact w_end am_e38 rfl rfl rfl h
  by_cases c13 : ((I 13) p2.toNatClampNeg) = nI 13
  · replace h := h.2.2.2.2.2.2.2.1 c13
    refine w_to (i2 := 114) (by rw [c13]; first | done | rfl) ?_
    refine w_st (i' := 115) (ls' := [.ref 69, .ref 12, .int p2, .int p3, .int (((I 69) 6) * (nI 4)), .int w2, .int w4]) (st' := [.ref 69]) (E' := E) (I' := I) (J' := J) (S' := S) am_e38 rfl rfl rfl rfl ?_
    refine w_st (i' := 116) (ls' := [.ref 69, .ref 12, .int p2, .int p3, .int (((I 69) 6) * (nI 4)), .int w2, .int w4]) (st' := [.ref 74]) (E' := E) (I' := I) (J' := J) (S' := S) am_e38 rfl rfl rfl rfl ?_
    refine w_st (i' := 117) (ls' := [.ref 69, .ref 12, .int p2, .int p3, .int (((I 69) 6) * (nI 4)), .int w2, .int w4]) (st' := [.int w2, .ref 74]) (E' := E) (I' := I) (J' := J) (S' := S) am_e38 rfl rfl rfl rfl ?_
    refine w_st (i' := 118) (ls' := [.ref 69, .ref 12, .int p2, .int p3, .int (((I 69) 6) * (nI 4)), .int w2, .int w4]) (st' := [.ref 69, .int w2, .ref 74]) (E' := E) (I' := I) (J' := J) (S' := S) am_e38 rfl rfl rfl rfl ?_
    refine w_st (i' := 119) (ls' := [.ref 69, .ref 12, .int p2, .int p3, .int (((I 69) 6) * (nI 4)), .int w2, .int w4]) (st' := [.int ((I 69) 6), .int w2, .ref 74]) (E' := E) (I' := I) (J' := J) (S' := S) am_e38 rfl rfl rfl rfl ?_
    have hf19 := h.1
    replace h := h.2
    refine w_is (k := 74) (n := 4) (jn := w2.toNatClampNeg) am_e38 rfl rfl (by decide) hf19 rfl ?_
    show am_ww 38 120 [.ref 69, .ref 12, .int p2, .int p3, .int (((I 69) 6) * (nI 4)), .int w2, .int w4] [] E (u_I I 74 (upd (I 74) w2.toNatClampNeg ((I 69) 6))) J S _
    refine w_st (i' := 139) (ls' := [.ref 69, .ref 12, .int p2, .int p3, .int (((I 69) 6) * (nI 4)), .int w2, .int w4]) (st' := []) (E' := E) (I' := (u_I I 74 (upd (I 74) w2.toNatClampNeg ((I 69) 6)))) (J' := J) (S' := S) am_e38 rfl rfl rfl rfl ?_
    exact w_end am_e38 rfl rfl rfl h
  by_cases c14 : ((I 13) p2.toNatClampNeg) = nI 14
  · replace h := h.2.2.2.2.2.2.2.2.1 c14
    refine w_to (i2 := 121) (by rw [c14]; first | done | rfl) ?_
    refine w_st (i' := 122) (ls' := [.ref 69, .ref 12, .int p2, .int p3, .int (((I 69) 6) * (nI 4)), .int w2, .int w4]) (st' := [.ref 69]) (E' := E) (I' := I) (J' := J) (S' := S) am_e38 rfl rfl rfl rfl ?_
    refine w_st (i' := 123) (ls' := [.ref 69, .ref 12, .int p2, .int p3, .int (((I 69) 6) * (nI 4)), .int w2, .int w4]) (st' := [.ref 74]) (E' := E) (I' := I) (J' := J) (S' := S) am_e38 rfl rfl rfl rfl ?_
    refine w_st (i' := 124) (ls' := [.ref 69, .ref 12, .int p2, .int p3, .int (((I 69) 6) * (nI 4)), .int w2, .int w4]) (st' := [.int w2, .ref 74]) (E' := E) (I' := I) (J' := J) (S' := S) am_e38 rfl rfl rfl rfl ?_
    refine w_st (i' := 125) (ls' := [.ref 69, .ref 12, .int p2, .int p3, .int (((I 69) 6) * (nI 4)), .int w2, .int w4]) (st' := [.ref 69, .int w2, .ref 74]) (E' := E) (I' := I) (J' := J) (S' := S) am_e38 rfl rfl rfl rfl ?_
    refine w_st (i' := 126) (ls' := [.ref 69, .ref 12, .int p2, .int p3, .int (((I 69) 6) * (nI 4)), .int w2, .int w4]) (st' := [.ref 74, .int w2, .ref 74]) (E' := E) (I' := I) (J' := J) (S' := S) am_e38 rfl rfl rfl rfl ?_
    refine w_st (i' := 127) (ls' := [.ref 69, .ref 12, .int p2, .int p3, .int (((I 69) 6) * (nI 4)), .int w2, .int w4]) (st' := [.int w2, .ref 74, .int w2, .ref 74]) (E' := E) (I' := I) (J' := J) (S' := S) am_e38 rfl rfl rfl rfl ?_
    have hf20 := h.1
    replace h := h.2
    refine w_ia (k := 74) (n := 4) (jn := w2.toNatClampNeg) am_e38 rfl rfl (by decide) hf20 rfl ?_
    refine w_st (i' := 129) (ls' := [.ref 69, .ref 12, .int p2, .int p3, .int (((I 69) 6) * (nI 4)), .int w2, .int w4]) (st' := [.ref 69, .int ((I 74) w2.toNatClampNeg), .int w2, .ref 74]) (E' := E) (I' := I) (J' := J) (S' := S) am_e38 rfl rfl rfl rfl ?_
    refine w_st (i' := 130) (ls' := [.ref 69, .ref 12, .int p2, .int p3, .int (((I 69) 6) * (nI 4)), .int w2, .int w4]) (st' := [.int ((I 69) 6), .int ((I 74) w2.toNatClampNeg), .int w2, .ref 74]) (E' := E) (I' := I) (J' := J) (S' := S) am_e38 rfl rfl rfl rfl ?_
    refine w_mg (i := 137) (ls' := [.ref 69, .ref 12, .int p2, .int p3, .int (((I 69) 6) * (nI 4)), .int w2, .int w4]) (st' := [.int (if ((I 74) w2.toNatClampNeg) = ((I 69) 6) then (-1) else ((I 74) w2.toNatClampNeg)), .int w2, .ref 74]) (fun hm => ?_) ?_
    · clear h
      refine w_if2 am_e38 rfl rfl (fun c => ?_) (fun c => ?_)
      · have m21 : ¬ (((I 74) w2.toNatClampNeg) = ((I 69) 6)) := (of_decide_eq_true c)
        refine w_st (i' := 134) (ls' := [.ref 69, .ref 12, .int p2, .int p3, .int (((I 69) 6) * (nI 4)), .int w2, .int w4]) (st' := [.ref 69, .int w2, .ref 74]) (E' := E) (I' := I) (J' := J) (S' := S) am_e38 rfl rfl rfl rfl ?_
        refine w_st (i' := 135) (ls' := [.ref 69, .ref 12, .int p2, .int p3, .int (((I 69) 6) * (nI 4)), .int w2, .int w4]) (st' := [.ref 74, .int w2, .ref 74]) (E' := E) (I' := I) (J' := J) (S' := S) am_e38 rfl rfl rfl rfl ?_
        refine w_st (i' := 136) (ls' := [.ref 69, .ref 12, .int p2, .int p3, .int (((I 69) 6) * (nI 4)), .int w2, .int w4]) (st' := [.int w2, .ref 74, .int w2, .ref 74]) (E' := E) (I' := I) (J' := J) (S' := S) am_e38 rfl rfl rfl rfl ?_
        refine w_ia (k := 74) (n := 4) (jn := w2.toNatClampNeg) am_e38 rfl rfl (by decide) hf20 rfl ?_
        show am_ww 38 137 [.ref 69, .ref 12, .int p2, .int p3, .int (((I 69) 6) * (nI 4)), .int w2, .int w4] [.int ((I 74) w2.toNatClampNeg), .int w2, .ref 74] E I J S _
        first | exact hm | (simp only [if_neg m21] at hm; exact hm)
      · have m21 : ((I 74) w2.toNatClampNeg) = ((I 69) 6) := (Decidable.not_not.mp (of_decide_eq_false c))
        refine w_st (i' := 132) (ls' := [.ref 69, .ref 12, .int p2, .int p3, .int (((I 69) 6) * (nI 4)), .int w2, .int w4]) (st' := [.int (-1), .int w2, .ref 74]) (E' := E) (I' := I) (J' := J) (S' := S) am_e38 rfl rfl rfl rfl ?_
        refine w_st (i' := 137) (ls' := [.ref 69, .ref 12, .int p2, .int p3, .int (((I 69) 6) * (nI 4)), .int w2, .int w4]) (st' := [.int (-1), .int w2, .ref 74]) (E' := E) (I' := I) (J' := J) (S' := S) am_e38 rfl rfl rfl rfl ?_
        first | exact hm | (simp only [if_pos m21] at hm; exact hm)
    refine w_var (fun w22 => am_ww 38 137 [.ref 69, .ref 12, .int p2, .int p3, .int (((I 69) 6) * (nI 4)), .int w2, .int w4] [.int w22, .int w2, .ref 74] E I J S _) (if ((I 74) w2.toNatClampNeg) = ((I 69) 6) then (-1) else ((I 74) w2.toNatClampNeg)) (fun w22 hw22 => ?_)
    replace h := h w22 hw22
    refine w_is (k := 74) (n := 4) (jn := w2.toNatClampNeg) am_e38 rfl rfl (by decide) hf20 rfl ?_
    show am_ww 38 138 [.ref 69, .ref 12, .int p2, .int p3, .int (((I 69) 6) * (nI 4)), .int w2, .int w4] [] E (u_I I 74 (upd (I 74) w2.toNatClampNeg w22)) J S _
    refine w_st (i' := 139) (ls' := [.ref 69, .ref 12, .int p2, .int p3, .int (((I 69) 6) * (nI 4)), .int w2, .int w4]) (st' := []) (E' := E) (I' := (u_I I 74 (upd (I 74) w2.toNatClampNeg w22))) (J' := J) (S' := S) am_e38 rfl rfl rfl rfl ?_
    exact w_end am_e38 rfl rfl rfl h
  replace h := h.2.2.2.2.2.2.2.2.2 c6 c7 c8 c9 c10 c11 c12 c13 c14
  refine w_to (i2 := 139) (am_tb_out (lo := 6) (up := 14) (by intro q h1 h2; have : q = 6 ∨ q = 7 ∨ q = 8 ∨ q = 9 ∨ q = 10 ∨ q = 11 ∨ q = 12 ∨ q = 13 ∨ q = 14 := (by omega); rcases this with rfl | rfl | rfl | rfl | rfl | rfl | rfl | rfl | rfl <;> assumption)) ?_
  exact w_end am_e38 rfl rfl rfl h
-- 16 begin
theorem g16_0_77  {E : am_Ev} {I : Nat → Nat → Int32} {J : Nat → Nat → Int64} {S : Nat → Nat → Option Nat} {Q : am_Qt}  (h : am_cl 13 [.ref 79, .int (nI 0)] E (u_I I 78 (va_cpy (I 16) (I 78) 0 0 16)) J S (q_V fun E1 I1 J1 S1 => am_cl 13 [.ref 80, .int (nI 0)] E1 I1 J1 S1 (q_V fun E2 I2 J2 S2 => am_cl 13 [.ref 81, .int (nI 0)] E2 I2 J2 S2 (q_V fun E3 I3 J3 S3 => am_cl 13 [.ref 82, .int (-1)] E3 I3 J3 S3 (q_V fun E4 I4 J4 S4 => am_cl 13 [.ref 83, .int (nI 0)] E4 I4 J4 S4 (q_V fun E5 I5 J5 S5 => Q (.inl none) E5 (u_I I5 77 (upd (I5 77) 6 (-1))) J5 S5)))))) : am_ww 16 0 [.ref 77, .ref 12] [] E I J S Q := by
  refine w_st (i' := 1) (ls' := [.ref 77, .ref 12]) (st' := [.ref 12]) (E' := E) (I' := I) (J' := J) (S' := S) am_e16 rfl rfl rfl rfl ?_
  refine w_st (i' := 2) (ls' := [.ref 77, .ref 12]) (st' := [.ref 16]) (E' := E) (I' := I) (J' := J) (S' := S) am_e16 rfl rfl rfl rfl ?_
  refine w_st (i' := 3) (ls' := [.ref 77, .ref 12]) (st' := [.int (nI 0), .ref 16]) (E' := E) (I' := I) (J' := J) (S' := S) am_e16 rfl rfl rfl rfl ?_
  refine w_st (i' := 4) (ls' := [.ref 77, .ref 12]) (st' := [.ref 77, .int (nI 0), .ref 16]) (E' := E) (I' := I) (J' := J) (S' := S) am_e16 rfl rfl rfl rfl ?_
  refine w_st (i' := 5) (ls' := [.ref 77, .ref 12]) (st' := [.ref 78, .int (nI 0), .ref 16]) (E' := E) (I' := I) (J' := J) (S' := S) am_e16 rfl rfl rfl rfl ?_
  refine w_st (i' := 6) (ls' := [.ref 77, .ref 12]) (st' := [.int (nI 0), .ref 78, .int (nI 0), .ref 16]) (E' := E) (I' := I) (J' := J) (S' := S) am_e16 rfl rfl rfl rfl ?_
  refine w_st (i' := 7) (ls' := [.ref 77, .ref 12]) (st' := [.int (nI 16), .int (nI 0), .ref 78, .int (nI 0), .ref 16]) (E' := E) (I' := I) (J' := J) (S' := S) am_e16 rfl rfl rfl rfl ?_
  refine w_cp (k := 16) (a := 78) (nk := 16) (na := 16) am_e16 rfl (by decide) (by decide) rfl rfl (by decide) (by unfold am_cpOk; decide) ?_
  show am_ww 16 8 [.ref 77, .ref 12] [] E (u_I I 78 (va_cpy (I 16) (I 78) 0 0 16)) J S _
  refine w_st (i' := 9) (ls' := [.ref 77, .ref 12]) (st' := [.ref 77]) (E' := E) (I' := (u_I I 78 (va_cpy (I 16) (I 78) 0 0 16))) (J' := J) (S' := S) am_e16 rfl rfl rfl rfl ?_
  refine w_st (i' := 10) (ls' := [.ref 77, .ref 12]) (st' := [.ref 79]) (E' := E) (I' := (u_I I 78 (va_cpy (I 16) (I 78) 0 0 16))) (J' := J) (S' := S) am_e16 rfl rfl rfl rfl ?_
  refine w_st (i' := 11) (ls' := [.ref 77, .ref 12]) (st' := [.int (nI 0), .ref 79]) (E' := E) (I' := (u_I I 78 (va_cpy (I 16) (I 78) 0 0 16))) (J' := J) (S' := S) am_e16 rfl rfl rfl rfl ?_
  refine w_cV am_e16 rfl rfl (as := [.ref 79, .int (nI 0)]) (rest := []) rfl rfl (am_ww.mono h ?_)
  rintro _ E1 I1 J1 S1 ⟨rfl, h⟩
  refine q_mkV ?_
  refine w_st (i' := 13) (ls' := [.ref 77, .ref 12]) (st' := [.ref 77]) (E' := E1) (I' := I1) (J' := J1) (S' := S1) am_e16 rfl rfl rfl rfl ?_
  refine w_st (i' := 14) (ls' := [.ref 77, .ref 12]) (st' := [.ref 80]) (E' := E1) (I' := I1) (J' := J1) (S' := S1) am_e16 rfl rfl rfl rfl ?_
  refine w_st (i' := 15) (ls' := [.ref 77, .ref 12]) (st' := [.int (nI 0), .ref 80]) (E' := E1) (I' := I1) (J' := J1) (S' := S1) am_e16 rfl rfl rfl rfl ?_
  refine w_cV am_e16 rfl rfl (as := [.ref 80, .int (nI 0)]) (rest := []) rfl rfl (am_ww.mono h ?_)
  rintro _ E2 I2 J2 S2 ⟨rfl, h⟩
  refine q_mkV ?_
  refine w_st (i' := 17) (ls' := [.ref 77, .ref 12]) (st' := [.ref 77]) (E' := E2) (I' := I2) (J' := J2) (S' := S2) am_e16 rfl rfl rfl rfl ?_
  refine w_st (i' := 18) (ls' := [.ref 77, .ref 12]) (st' := [.ref 81]) (E' := E2) (I' := I2) (J' := J2) (S' := S2) am_e16 rfl rfl rfl rfl ?_
  refine w_st (i' := 19) (ls' := [.ref 77, .ref 12]) (st' := [.int (nI 0), .ref 81]) (E' := E2) (I' := I2) (J' := J2) (S' := S2) am_e16 rfl rfl rfl rfl ?_
  refine w_cV am_e16 rfl rfl (as := [.ref 81, .int (nI 0)]) (rest := []) rfl rfl (am_ww.mono h ?_)
  rintro _ E3 I3 J3 S3 ⟨rfl, h⟩
  refine q_mkV ?_
  refine w_st (i' := 21) (ls' := [.ref 77, .ref 12]) (st' := [.ref 77]) (E' := E3) (I' := I3) (J' := J3) (S' := S3) am_e16 rfl rfl rfl rfl ?_
  refine w_st (i' := 22) (ls' := [.ref 77, .ref 12]) (st' := [.ref 82]) (E' := E3) (I' := I3) (J' := J3) (S' := S3) am_e16 rfl rfl rfl rfl ?_
  refine w_st (i' := 23) (ls' := [.ref 77, .ref 12]) (st' := [.int (-1), .ref 82]) (E' := E3) (I' := I3) (J' := J3) (S' := S3) am_e16 rfl rfl rfl rfl ?_
  refine w_cV am_e16 rfl rfl (as := [.ref 82, .int (-1)]) (rest := []) rfl rfl (am_ww.mono h ?_)
  rintro _ E4 I4 J4 S4 ⟨rfl, h⟩
  refine q_mkV ?_
  refine w_st (i' := 25) (ls' := [.ref 77, .ref 12]) (st' := [.ref 77]) (E' := E4) (I' := I4) (J' := J4) (S' := S4) am_e16 rfl rfl rfl rfl ?_
  refine w_st (i' := 26) (ls' := [.ref 77, .ref 12]) (st' := [.ref 83]) (E' := E4) (I' := I4) (J' := J4) (S' := S4) am_e16 rfl rfl rfl rfl ?_
  refine w_st (i' := 27) (ls' := [.ref 77, .ref 12]) (st' := [.int (nI 0), .ref 83]) (E' := E4) (I' := I4) (J' := J4) (S' := S4) am_e16 rfl rfl rfl rfl ?_
  refine w_cV am_e16 rfl rfl (as := [.ref 83, .int (nI 0)]) (rest := []) rfl rfl (am_ww.mono h ?_)
  rintro _ E5 I5 J5 S5 ⟨rfl, h⟩
  refine q_mkV ?_
  refine w_st (i' := 29) (ls' := [.ref 77, .ref 12]) (st' := [.ref 77]) (E' := E5) (I' := I5) (J' := J5) (S' := S5) am_e16 rfl rfl rfl rfl ?_
  refine w_st (i' := 30) (ls' := [.ref 77, .ref 12]) (st' := [.int (-1), .ref 77]) (E' := E5) (I' := I5) (J' := J5) (S' := S5) am_e16 rfl rfl rfl rfl ?_
  refine w_st (i' := 31) (ls' := [.ref 77, .ref 12]) (st' := []) (E' := E5) (I' := (u_I I5 77 (upd (I5 77) 6 (-1)))) (J' := J5) (S' := S5) am_e16 rfl rfl rfl rfl ?_
  exact w_end am_e16 rfl rfl rfl h
-- 24 nextRow
theorem g24_0_77 {p2 : Int32} {E : am_Ev} {I : Nat → Nat → Int32} {J : Nat → Nat → Int64} {S : Nat → Nat → Option Nat} {Q : am_Qt}  (h : (p2 < 0 → (Q (.inl (some (.int (-1)))) E I J S)) ∧ (¬ p2 < 0 → ((((I 12) 5) ≤ p2 → (Q (.inl (some (.int (-1)))) E I J S)) ∧ (¬ ((I 12) 5) ≤ p2 → (vp_in p2 4 ∧ ((((I 80) p2.toNatClampNeg) < ((I 15) p2.toNatClampNeg) → (Q (.inl (some (.int ((p2 * (nI 16)) + ((I 80) p2.toNatClampNeg))))) E I J S)) ∧ (¬ ((I 80) p2.toNatClampNeg) < ((I 15) p2.toNatClampNeg) → (Q (.inl (some (.int (-1)))) E I J S)))))))) : am_ww 24 0 [.ref 77, .ref 12, .int p2] [] E I J S Q := by
  refine w_st (i' := 1) (ls' := [.ref 77, .ref 12, .int p2]) (st' := [.int p2]) (E' := E) (I' := I) (J' := J) (S' := S) am_e24 rfl rfl rfl rfl ?_
  refine w_if1 am_e24 rfl rfl (fun c => ?_) (fun c => ?_)
  · replace h := h.1 (of_decide_eq_true c)
    refine w_st (i' := 12) (ls' := [.ref 77, .ref 12, .int p2]) (st' := [.int (-1)]) (E' := E) (I' := I) (J' := J) (S' := S) am_e24 rfl rfl rfl rfl ?_
    exact w_end am_e24 rfl rfl rfl h
  · replace h := h.2 (of_decide_eq_false c)
    refine w_st (i' := 3) (ls' := [.ref 77, .ref 12, .int p2]) (st' := [.int p2]) (E' := E) (I' := I) (J' := J) (S' := S) am_e24 rfl rfl rfl rfl ?_
    refine w_st (i' := 4) (ls' := [.ref 77, .ref 12, .int p2]) (st' := [.ref 12, .int p2]) (E' := E) (I' := I) (J' := J) (S' := S) am_e24 rfl rfl rfl rfl ?_
    refine w_st (i' := 5) (ls' := [.ref 77, .ref 12, .int p2]) (st' := [.int ((I 12) 5), .int p2]) (E' := E) (I' := I) (J' := J) (S' := S) am_e24 rfl rfl rfl rfl ?_
    refine w_if2 am_e24 rfl rfl (fun c => ?_) (fun c => ?_)
    · replace h := h.1 (of_decide_eq_true c)
      refine w_st (i' := 12) (ls' := [.ref 77, .ref 12, .int p2]) (st' := [.int (-1)]) (E' := E) (I' := I) (J' := J) (S' := S) am_e24 rfl rfl rfl rfl ?_
      exact w_end am_e24 rfl rfl rfl h
    · replace h := h.2 (of_decide_eq_false c)
      refine w_st (i' := 7) (ls' := [.ref 77, .ref 12, .int p2]) (st' := [.ref 77]) (E' := E) (I' := I) (J' := J) (S' := S) am_e24 rfl rfl rfl rfl ?_
      refine w_st (i' := 8) (ls' := [.ref 77, .ref 12, .int p2]) (st' := [.ref 12, .ref 77]) (E' := E) (I' := I) (J' := J) (S' := S) am_e24 rfl rfl rfl rfl ?_
      refine w_st (i' := 9) (ls' := [.ref 77, .ref 12, .int p2]) (st' := [.int p2, .ref 12, .ref 77]) (E' := E) (I' := I) (J' := J) (S' := S) am_e24 rfl rfl rfl rfl ?_
      refine w_cI am_e24 rfl rfl (as := [.ref 77, .ref 12, .int p2]) (rest := []) rfl rfl ?_
      show am_ww 25 0 [.ref 77, .ref 12, .int p2] [] E I J S _
      refine w_st (i' := 1) (ls' := [.ref 77, .ref 12, .int p2]) (st' := [.ref 77]) (E' := E) (I' := I) (J' := J) (S' := S) am_e25 rfl rfl rfl rfl ?_
      refine w_st (i' := 2) (ls' := [.ref 77, .ref 12, .int p2]) (st' := [.ref 80]) (E' := E) (I' := I) (J' := J) (S' := S) am_e25 rfl rfl rfl rfl ?_
      refine w_st (i' := 3) (ls' := [.ref 77, .ref 12, .int p2]) (st' := [.int p2, .ref 80]) (E' := E) (I' := I) (J' := J) (S' := S) am_e25 rfl rfl rfl rfl ?_
      have hf1 := h.1
      replace h := h.2
      refine w_ia (k := 80) (n := 4) (jn := p2.toNatClampNeg) am_e25 rfl rfl (by decide) hf1 rfl ?_
      refine w_st (i' := 5) (ls' := [.ref 77, .ref 12, .int p2]) (st' := [.ref 12, .int ((I 80) p2.toNatClampNeg)]) (E' := E) (I' := I) (J' := J) (S' := S) am_e25 rfl rfl rfl rfl ?_
      refine w_st (i' := 6) (ls' := [.ref 77, .ref 12, .int p2]) (st' := [.ref 15, .int ((I 80) p2.toNatClampNeg)]) (E' := E) (I' := I) (J' := J) (S' := S) am_e25 rfl rfl rfl rfl ?_
      refine w_st (i' := 7) (ls' := [.ref 77, .ref 12, .int p2]) (st' := [.int p2, .ref 15, .int ((I 80) p2.toNatClampNeg)]) (E' := E) (I' := I) (J' := J) (S' := S) am_e25 rfl rfl rfl rfl ?_
      refine w_ia (k := 15) (n := 4) (jn := p2.toNatClampNeg) am_e25 rfl rfl (by decide) hf1 rfl ?_
      refine w_if2 am_e25 rfl rfl (fun c => ?_) (fun c => ?_)
      · replace h := h.1 (of_decide_eq_true c)
        refine w_st (i' := 12) (ls' := [.ref 77, .ref 12, .int p2]) (st' := [.int (nI 0)]) (E' := E) (I' := I) (J' := J) (S' := S) am_e25 rfl rfl rfl rfl ?_
        refine w_end (E' := E) (I' := I) (J' := J) (S' := S) am_e25 rfl rfl rfl (q_mkI ?_)
        show am_ww 24 10 [.ref 77, .ref 12, .int p2] [.int (nI 0)] E I J S _
        refine w_st (i' := 13) (ls' := [.ref 77, .ref 12, .int p2]) (st' := []) (E' := E) (I' := I) (J' := J) (S' := S) am_e24 rfl rfl rfl rfl ?_
        refine w_st (i' := 14) (ls' := [.ref 77, .ref 12, .int p2]) (st' := [.int p2]) (E' := E) (I' := I) (J' := J) (S' := S) am_e24 rfl rfl rfl rfl ?_
        refine w_st (i' := 15) (ls' := [.ref 77, .ref 12, .int p2]) (st' := [.int (nI 16), .int p2]) (E' := E) (I' := I) (J' := J) (S' := S) am_e24 rfl rfl rfl rfl ?_
        refine w_st (i' := 16) (ls' := [.ref 77, .ref 12, .int p2]) (st' := [.int (p2 * (nI 16))]) (E' := E) (I' := I) (J' := J) (S' := S) am_e24 rfl rfl rfl rfl ?_
        refine w_st (i' := 17) (ls' := [.ref 77, .ref 12, .int p2]) (st' := [.ref 77, .int (p2 * (nI 16))]) (E' := E) (I' := I) (J' := J) (S' := S) am_e24 rfl rfl rfl rfl ?_
        refine w_st (i' := 18) (ls' := [.ref 77, .ref 12, .int p2]) (st' := [.ref 80, .int (p2 * (nI 16))]) (E' := E) (I' := I) (J' := J) (S' := S) am_e24 rfl rfl rfl rfl ?_
        refine w_st (i' := 19) (ls' := [.ref 77, .ref 12, .int p2]) (st' := [.int p2, .ref 80, .int (p2 * (nI 16))]) (E' := E) (I' := I) (J' := J) (S' := S) am_e24 rfl rfl rfl rfl ?_
        refine w_ia (k := 80) (n := 4) (jn := p2.toNatClampNeg) am_e24 rfl rfl (by decide) hf1 rfl ?_
        refine w_st (i' := 21) (ls' := [.ref 77, .ref 12, .int p2]) (st' := [.int ((p2 * (nI 16)) + ((I 80) p2.toNatClampNeg))]) (E' := E) (I' := I) (J' := J) (S' := S) am_e24 rfl rfl rfl rfl ?_
        exact w_ri am_e24 rfl rfl h
      · replace h := h.2 (of_decide_eq_false c)
        refine w_st (i' := 10) (ls' := [.ref 77, .ref 12, .int p2]) (st' := [.int (nI 1)]) (E' := E) (I' := I) (J' := J) (S' := S) am_e25 rfl rfl rfl rfl ?_
        refine w_st (i' := 12) (ls' := [.ref 77, .ref 12, .int p2]) (st' := [.int (nI 1)]) (E' := E) (I' := I) (J' := J) (S' := S) am_e25 rfl rfl rfl rfl ?_
        refine w_end (E' := E) (I' := I) (J' := J) (S' := S) am_e25 rfl rfl rfl (q_mkI ?_)
        show am_ww 24 10 [.ref 77, .ref 12, .int p2] [.int (nI 1)] E I J S _
        refine w_st (i' := 11) (ls' := [.ref 77, .ref 12, .int p2]) (st' := []) (E' := E) (I' := I) (J' := J) (S' := S) am_e24 rfl rfl rfl rfl ?_
        refine w_st (i' := 12) (ls' := [.ref 77, .ref 12, .int p2]) (st' := [.int (-1)]) (E' := E) (I' := I) (J' := J) (S' := S) am_e24 rfl rfl rfl rfl ?_
        exact w_end am_e24 rfl rfl rfl h
-- 23 canGo
theorem g23_0_77 {p2 : Int32} {E : am_Ev} {I : Nat → Nat → Int32} {J : Nat → Nat → Int64} {S : Nat → Nat → Option Nat} {Q : am_Qt}  (h : am_cl 24 [.ref 77, .ref 12, .int p2] E I J S (q_I fun v1 E1 I1 J1 S1 => (v1 = (-1) → (Q (.inl (some (.int (nI 0)))) E1 I1 J1 S1)) ∧ (¬ v1 = (-1) → (vp_in v1 64 ∧ ((((I1 13) v1.toNatClampNeg) = (nI 13) → (vp_in ((v1 * (nI 3)) + (nI 0)) 192 ∧ (∀ w7 : Int32, w7 = ((I1 14) (((v1 * (nI 3)) + (nI 0)).toNatClampNeg)) → (vp_in w7 4 ∧ ((((I1 82) w7.toNatClampNeg) = (-1) → (Q (.inl (some (.int (nI 1)))) E1 I1 J1 S1)) ∧ (¬ ((I1 82) w7.toNatClampNeg) = (-1) → (Q (.inl (some (.int (nI 0)))) E1 I1 J1 S1))))))) ∧ (¬ ((I1 13) v1.toNatClampNeg) = (nI 13) → ((((I1 13) v1.toNatClampNeg) = (nI 12) → (vp_in ((v1 * (nI 3)) + (nI 1)) 192 ∧ (∀ w4 : Int32, w4 = ((I1 14) (((v1 * (nI 3)) + (nI 1)).toNatClampNeg)) → (vp_in w4 3 ∧ ((((I1 28) w4.toNatClampNeg) ≤ ((I1 83) w4.toNatClampNeg) → (Q (.inl (some (.int (nI 0)))) E1 I1 J1 S1)) ∧ (¬ ((I1 28) w4.toNatClampNeg) ≤ ((I1 83) w4.toNatClampNeg) → (Q (.inl (some (.int (nI 1)))) E1 I1 J1 S1))))))) ∧ (¬ ((I1 13) v1.toNatClampNeg) = (nI 12) → (Q (.inl (some (.int (nI 1)))) E1 I1 J1 S1))))))))) : am_ww 23 0 [.ref 77, .ref 12, .int p2, .ref 28, am_U, am_U] [] E I J S Q := by
  refine w_st (i' := 1) (ls' := [.ref 77, .ref 12, .int p2, .ref 28, am_U, am_U]) (st' := [.ref 77]) (E' := E) (I' := I) (J' := J) (S' := S) am_e23 rfl rfl rfl rfl ?_
  refine w_st (i' := 2) (ls' := [.ref 77, .ref 12, .int p2, .ref 28, am_U, am_U]) (st' := [.ref 12, .ref 77]) (E' := E) (I' := I) (J' := J) (S' := S) am_e23 rfl rfl rfl rfl ?_
  refine w_st (i' := 3) (ls' := [.ref 77, .ref 12, .int p2, .ref 28, am_U, am_U]) (st' := [.int p2, .ref 12, .ref 77]) (E' := E) (I' := I) (J' := J) (S' := S) am_e23 rfl rfl rfl rfl ?_
  refine w_cI am_e23 rfl rfl (as := [.ref 77, .ref 12, .int p2]) (rest := []) rfl rfl (am_ww.mono h ?_)
  rintro _ E1 I1 J1 S1 ⟨v1, rfl, h⟩
  refine q_mkI ?_
  refine w_st (i' := 5) (ls' := [.ref 77, .ref 12, .int p2, .ref 28, .int v1, am_U]) (st' := []) (E' := E1) (I' := I1) (J' := J1) (S' := S1) am_e23 rfl rfl rfl rfl ?_
  refine w_st (i' := 6) (ls' := [.ref 77, .ref 12, .int p2, .ref 28, .int v1, am_U]) (st' := [.int v1]) (E' := E1) (I' := I1) (J' := J1) (S' := S1) am_e23 rfl rfl rfl rfl ?_
  refine w_st (i' := 7) (ls' := [.ref 77, .ref 12, .int p2, .ref 28, .int v1, am_U]) (st' := [.int (-1), .int v1]) (E' := E1) (I' := I1) (J' := J1) (S' := S1) am_e23 rfl rfl rfl rfl ?_
  refine w_if2 am_e23 rfl rfl (fun c => ?_) (fun c => ?_)
  · replace h := h.2 (of_decide_eq_true c)
    refine w_st (i' := 11) (ls' := [.ref 77, .ref 12, .int p2, .ref 28, .int v1, am_U]) (st' := [.ref 12]) (E' := E1) (I' := I1) (J' := J1) (S' := S1) am_e23 rfl rfl rfl rfl ?_
    refine w_st (i' := 12) (ls' := [.ref 77, .ref 12, .int p2, .ref 28, .int v1, am_U]) (st' := [.ref 13]) (E' := E1) (I' := I1) (J' := J1) (S' := S1) am_e23 rfl rfl rfl rfl ?_
    refine w_st (i' := 13) (ls' := [.ref 77, .ref 12, .int p2, .ref 28, .int v1, am_U]) (st' := [.int v1, .ref 13]) (E' := E1) (I' := I1) (J' := J1) (S' := S1) am_e23 rfl rfl rfl rfl ?_
    have hf2 := h.1
    replace h := h.2
    refine w_ia (k := 13) (n := 64) (jn := v1.toNatClampNeg) am_e23 rfl rfl (by decide) hf2 rfl ?_
    refine w_st (i' := 15) (ls' := [.ref 77, .ref 12, .int p2, .ref 28, .int v1, am_U]) (st' := [.int (nI 13), .int ((I1 13) v1.toNatClampNeg)]) (E' := E1) (I' := I1) (J' := J1) (S' := S1) am_e23 rfl rfl rfl rfl ?_
    refine w_if2 am_e23 rfl rfl (fun c => ?_) (fun c => ?_)
    · replace h := h.2 (of_decide_eq_true c)
      refine w_st (i' := 30) (ls' := [.ref 77, .ref 12, .int p2, .ref 28, .int v1, am_U]) (st' := [.ref 12]) (E' := E1) (I' := I1) (J' := J1) (S' := S1) am_e23 rfl rfl rfl rfl ?_
      refine w_st (i' := 31) (ls' := [.ref 77, .ref 12, .int p2, .ref 28, .int v1, am_U]) (st' := [.ref 13]) (E' := E1) (I' := I1) (J' := J1) (S' := S1) am_e23 rfl rfl rfl rfl ?_
      refine w_st (i' := 32) (ls' := [.ref 77, .ref 12, .int p2, .ref 28, .int v1, am_U]) (st' := [.int v1, .ref 13]) (E' := E1) (I' := I1) (J' := J1) (S' := S1) am_e23 rfl rfl rfl rfl ?_
      refine w_ia (k := 13) (n := 64) (jn := v1.toNatClampNeg) am_e23 rfl rfl (by decide) hf2 rfl ?_
      refine w_st (i' := 34) (ls' := [.ref 77, .ref 12, .int p2, .ref 28, .int v1, am_U]) (st' := [.int (nI 12), .int ((I1 13) v1.toNatClampNeg)]) (E' := E1) (I' := I1) (J' := J1) (S' := S1) am_e23 rfl rfl rfl rfl ?_
      refine w_if2 am_e23 rfl rfl (fun c => ?_) (fun c => ?_)
      · replace h := h.2 (of_decide_eq_true c)
        refine w_st (i' := 53) (ls' := [.ref 77, .ref 12, .int p2, .ref 28, .int v1, am_U]) (st' := [.int (nI 1)]) (E' := E1) (I' := I1) (J' := J1) (S' := S1) am_e23 rfl rfl rfl rfl ?_
        exact w_end am_e23 rfl rfl rfl h
      · replace h := h.1 (Decidable.not_not.mp (of_decide_eq_false c))
        refine w_st (i' := 36) (ls' := [.ref 77, .ref 12, .int p2, .ref 28, .int v1, am_U]) (st' := [.ref 12]) (E' := E1) (I' := I1) (J' := J1) (S' := S1) am_e23 rfl rfl rfl rfl ?_
        refine w_st (i' := 37) (ls' := [.ref 77, .ref 12, .int p2, .ref 28, .int v1, am_U]) (st' := [.int v1, .ref 12]) (E' := E1) (I' := I1) (J' := J1) (S' := S1) am_e23 rfl rfl rfl rfl ?_
        refine w_st (i' := 38) (ls' := [.ref 77, .ref 12, .int p2, .ref 28, .int v1, am_U]) (st' := [.int (nI 1), .int v1, .ref 12]) (E' := E1) (I' := I1) (J' := J1) (S' := S1) am_e23 rfl rfl rfl rfl ?_
        refine w_cI am_e23 rfl rfl (as := [.ref 12, .int v1, .int (nI 1)]) (rest := []) rfl rfl ?_
        show am_ww 26 0 [.ref 12, .int v1, .int (nI 1)] [] E1 I1 J1 S1 _
        refine w_st (i' := 1) (ls' := [.ref 12, .int v1, .int (nI 1)]) (st' := [.ref 12]) (E' := E1) (I' := I1) (J' := J1) (S' := S1) am_e26 rfl rfl rfl rfl ?_
        refine w_st (i' := 2) (ls' := [.ref 12, .int v1, .int (nI 1)]) (st' := [.ref 14]) (E' := E1) (I' := I1) (J' := J1) (S' := S1) am_e26 rfl rfl rfl rfl ?_
        refine w_st (i' := 3) (ls' := [.ref 12, .int v1, .int (nI 1)]) (st' := [.int v1, .ref 14]) (E' := E1) (I' := I1) (J' := J1) (S' := S1) am_e26 rfl rfl rfl rfl ?_
        refine w_st (i' := 4) (ls' := [.ref 12, .int v1, .int (nI 1)]) (st' := [.int (nI 3), .int v1, .ref 14]) (E' := E1) (I' := I1) (J' := J1) (S' := S1) am_e26 rfl rfl rfl rfl ?_
        refine w_st (i' := 5) (ls' := [.ref 12, .int v1, .int (nI 1)]) (st' := [.int (v1 * (nI 3)), .ref 14]) (E' := E1) (I' := I1) (J' := J1) (S' := S1) am_e26 rfl rfl rfl rfl ?_
        refine w_st (i' := 6) (ls' := [.ref 12, .int v1, .int (nI 1)]) (st' := [.int (nI 1), .int (v1 * (nI 3)), .ref 14]) (E' := E1) (I' := I1) (J' := J1) (S' := S1) am_e26 rfl rfl rfl rfl ?_
        refine w_st (i' := 7) (ls' := [.ref 12, .int v1, .int (nI 1)]) (st' := [.int ((v1 * (nI 3)) + (nI 1)), .ref 14]) (E' := E1) (I' := I1) (J' := J1) (S' := S1) am_e26 rfl rfl rfl rfl ?_
        have hf3 := h.1
        replace h := h.2
        refine w_ia (k := 14) (n := 192) (jn := ((v1 * (nI 3)) + (nI 1)).toNatClampNeg) am_e26 rfl rfl (by decide) hf3 rfl ?_
        refine w_ri am_e26 rfl rfl (q_mkI ?_)
        show am_ww 23 39 [.ref 77, .ref 12, .int p2, .ref 28, .int v1, am_U] [.int ((I1 14) (((v1 * (nI 3)) + (nI 1)).toNatClampNeg))] E1 I1 J1 S1 _
        refine w_var (fun w4 => am_ww 23 39 [.ref 77, .ref 12, .int p2, .ref 28, .int v1, am_U] [.int w4] E1 I1 J1 S1 _) ((I1 14) (((v1 * (nI 3)) + (nI 1)).toNatClampNeg)) (fun w4 hw4 => ?_)
        replace h := h w4 hw4
        refine w_st (i' := 40) (ls' := [.ref 77, .ref 12, .int p2, .ref 28, .int v1, .int w4]) (st' := []) (E' := E1) (I' := I1) (J' := J1) (S' := S1) am_e23 rfl rfl rfl rfl ?_
        refine w_st (i' := 41) (ls' := [.ref 77, .ref 12, .int p2, .ref 28, .int v1, .int w4]) (st' := [.ref 77]) (E' := E1) (I' := I1) (J' := J1) (S' := S1) am_e23 rfl rfl rfl rfl ?_
        refine w_st (i' := 42) (ls' := [.ref 77, .ref 12, .int p2, .ref 28, .int v1, .int w4]) (st' := [.ref 83]) (E' := E1) (I' := I1) (J' := J1) (S' := S1) am_e23 rfl rfl rfl rfl ?_
        refine w_st (i' := 43) (ls' := [.ref 77, .ref 12, .int p2, .ref 28, .int v1, .int w4]) (st' := [.int w4, .ref 83]) (E' := E1) (I' := I1) (J' := J1) (S' := S1) am_e23 rfl rfl rfl rfl ?_
        have hf5 := h.1
        replace h := h.2
        refine w_ia (k := 83) (n := 3) (jn := w4.toNatClampNeg) am_e23 rfl rfl (by decide) hf5 rfl ?_
        refine w_st (i' := 45) (ls' := [.ref 77, .ref 12, .int p2, .ref 28, .int v1, .int w4]) (st' := [.ref 28, .int ((I1 83) w4.toNatClampNeg)]) (E' := E1) (I' := I1) (J' := J1) (S' := S1) am_e23 rfl rfl rfl rfl ?_
        refine w_st (i' := 46) (ls' := [.ref 77, .ref 12, .int p2, .ref 28, .int v1, .int w4]) (st' := [.int w4, .ref 28, .int ((I1 83) w4.toNatClampNeg)]) (E' := E1) (I' := I1) (J' := J1) (S' := S1) am_e23 rfl rfl rfl rfl ?_
        refine w_ia (k := 28) (n := 3) (jn := w4.toNatClampNeg) am_e23 rfl rfl (by decide) hf5 rfl ?_
        refine w_if2 am_e23 rfl rfl (fun c => ?_) (fun c => ?_)
        · replace h := h.1 (of_decide_eq_true c)
          refine w_st (i' := 51) (ls' := [.ref 77, .ref 12, .int p2, .ref 28, .int v1, .int w4]) (st' := [.int (nI 0)]) (E' := E1) (I' := I1) (J' := J1) (S' := S1) am_e23 rfl rfl rfl rfl ?_
          exact w_end am_e23 rfl rfl rfl h
        · replace h := h.2 (of_decide_eq_false c)
          refine w_st (i' := 49) (ls' := [.ref 77, .ref 12, .int p2, .ref 28, .int v1, .int w4]) (st' := [.int (nI 1)]) (E' := E1) (I' := I1) (J' := J1) (S' := S1) am_e23 rfl rfl rfl rfl ?_
          refine w_st (i' := 51) (ls' := [.ref 77, .ref 12, .int p2, .ref 28, .int v1, .int w4]) (st' := [.int (nI 1)]) (E' := E1) (I' := I1) (J' := J1) (S' := S1) am_e23 rfl rfl rfl rfl ?_
          exact w_end am_e23 rfl rfl rfl h
    · replace h := h.1 (Decidable.not_not.mp (of_decide_eq_false c))
      refine w_st (i' := 17) (ls' := [.ref 77, .ref 12, .int p2, .ref 28, .int v1, am_U]) (st' := [.ref 77]) (E' := E1) (I' := I1) (J' := J1) (S' := S1) am_e23 rfl rfl rfl rfl ?_
      refine w_st (i' := 18) (ls' := [.ref 77, .ref 12, .int p2, .ref 28, .int v1, am_U]) (st' := [.ref 82]) (E' := E1) (I' := I1) (J' := J1) (S' := S1) am_e23 rfl rfl rfl rfl ?_
      refine w_st (i' := 19) (ls' := [.ref 77, .ref 12, .int p2, .ref 28, .int v1, am_U]) (st' := [.ref 12, .ref 82]) (E' := E1) (I' := I1) (J' := J1) (S' := S1) am_e23 rfl rfl rfl rfl ?_
      refine w_st (i' := 20) (ls' := [.ref 77, .ref 12, .int p2, .ref 28, .int v1, am_U]) (st' := [.int v1, .ref 12, .ref 82]) (E' := E1) (I' := I1) (J' := J1) (S' := S1) am_e23 rfl rfl rfl rfl ?_
      refine w_st (i' := 21) (ls' := [.ref 77, .ref 12, .int p2, .ref 28, .int v1, am_U]) (st' := [.int (nI 0), .int v1, .ref 12, .ref 82]) (E' := E1) (I' := I1) (J' := J1) (S' := S1) am_e23 rfl rfl rfl rfl ?_
      refine w_cI am_e23 rfl rfl (as := [.ref 12, .int v1, .int (nI 0)]) (rest := [.ref 82]) rfl rfl ?_
      show am_ww 26 0 [.ref 12, .int v1, .int (nI 0)] [] E1 I1 J1 S1 _
      refine w_st (i' := 1) (ls' := [.ref 12, .int v1, .int (nI 0)]) (st' := [.ref 12]) (E' := E1) (I' := I1) (J' := J1) (S' := S1) am_e26 rfl rfl rfl rfl ?_
      refine w_st (i' := 2) (ls' := [.ref 12, .int v1, .int (nI 0)]) (st' := [.ref 14]) (E' := E1) (I' := I1) (J' := J1) (S' := S1) am_e26 rfl rfl rfl rfl ?_
      refine w_st (i' := 3) (ls' := [.ref 12, .int v1, .int (nI 0)]) (st' := [.int v1, .ref 14]) (E' := E1) (I' := I1) (J' := J1) (S' := S1) am_e26 rfl rfl rfl rfl ?_
      refine w_st (i' := 4) (ls' := [.ref 12, .int v1, .int (nI 0)]) (st' := [.int (nI 3), .int v1, .ref 14]) (E' := E1) (I' := I1) (J' := J1) (S' := S1) am_e26 rfl rfl rfl rfl ?_
      refine w_st (i' := 5) (ls' := [.ref 12, .int v1, .int (nI 0)]) (st' := [.int (v1 * (nI 3)), .ref 14]) (E' := E1) (I' := I1) (J' := J1) (S' := S1) am_e26 rfl rfl rfl rfl ?_
      refine w_st (i' := 6) (ls' := [.ref 12, .int v1, .int (nI 0)]) (st' := [.int (nI 0), .int (v1 * (nI 3)), .ref 14]) (E' := E1) (I' := I1) (J' := J1) (S' := S1) am_e26 rfl rfl rfl rfl ?_
      refine w_st (i' := 7) (ls' := [.ref 12, .int v1, .int (nI 0)]) (st' := [.int ((v1 * (nI 3)) + (nI 0)), .ref 14]) (E' := E1) (I' := I1) (J' := J1) (S' := S1) am_e26 rfl rfl rfl rfl ?_
      have hf6 := h.1
      replace h := h.2
      refine w_ia (k := 14) (n := 192) (jn := ((v1 * (nI 3)) + (nI 0)).toNatClampNeg) am_e26 rfl rfl (by decide) hf6 rfl ?_
      refine w_ri am_e26 rfl rfl (q_mkI ?_)
      show am_ww 23 22 [.ref 77, .ref 12, .int p2, .ref 28, .int v1, am_U] [.int ((I1 14) (((v1 * (nI 3)) + (nI 0)).toNatClampNeg)), .ref 82] E1 I1 J1 S1 _
      refine w_var (fun w7 => am_ww 23 22 [.ref 77, .ref 12, .int p2, .ref 28, .int v1, am_U] [.int w7, .ref 82] E1 I1 J1 S1 _) ((I1 14) (((v1 * (nI 3)) + (nI 0)).toNatClampNeg)) (fun w7 hw7 => ?_)
      replace h := h w7 hw7
      have hf8 := h.1
      replace h := h.2
      refine w_ia (k := 82) (n := 4) (jn := w7.toNatClampNeg) am_e23 rfl rfl (by decide) hf8 rfl ?_
      refine w_st (i' := 24) (ls' := [.ref 77, .ref 12, .int p2, .ref 28, .int v1, am_U]) (st' := [.int (-1), .int ((I1 82) w7.toNatClampNeg)]) (E' := E1) (I' := I1) (J' := J1) (S' := S1) am_e23 rfl rfl rfl rfl ?_
      refine w_if2 am_e23 rfl rfl (fun c => ?_) (fun c => ?_)
      · replace h := h.2 (of_decide_eq_true c)
        refine w_st (i' := 28) (ls' := [.ref 77, .ref 12, .int p2, .ref 28, .int v1, am_U]) (st' := [.int (nI 0)]) (E' := E1) (I' := I1) (J' := J1) (S' := S1) am_e23 rfl rfl rfl rfl ?_
        exact w_end am_e23 rfl rfl rfl h
      · replace h := h.1 (Decidable.not_not.mp (of_decide_eq_false c))
        refine w_st (i' := 26) (ls' := [.ref 77, .ref 12, .int p2, .ref 28, .int v1, am_U]) (st' := [.int (nI 1)]) (E' := E1) (I' := I1) (J' := J1) (S' := S1) am_e23 rfl rfl rfl rfl ?_
        refine w_st (i' := 28) (ls' := [.ref 77, .ref 12, .int p2, .ref 28, .int v1, am_U]) (st' := [.int (nI 1)]) (E' := E1) (I' := I1) (J' := J1) (S' := S1) am_e23 rfl rfl rfl rfl ?_
        exact w_end am_e23 rfl rfl rfl h
  · replace h := h.1 (Decidable.not_not.mp (of_decide_eq_false c))
    refine w_st (i' := 9) (ls' := [.ref 77, .ref 12, .int p2, .ref 28, .int v1, am_U]) (st' := [.int (nI 0)]) (E' := E1) (I' := I1) (J' := J1) (S' := S1) am_e23 rfl rfl rfl rfl ?_
    exact w_end am_e23 rfl rfl rfl h
-- 34 sourceWanted
theorem g34_0_77  {E : am_Ev} {I : Nat → Nat → Int32} {J : Nat → Nat → Int64} {S : Nat → Nat → Option Nat} {Q : am_Qt}  (h : am_cl 24 [.ref 77, .ref 12, .int ((I 77) 6)] E I J S (q_I fun v1 E1 I1 J1 S1 => (v1 = (-1) → (Q (.inl (some (.int (-1)))) E1 I1 J1 S1)) ∧ (¬ v1 = (-1) → (vp_in v1 64 ∧ ((((I1 13) v1.toNatClampNeg) = (nI 12) → (vp_in ((v1 * (nI 3)) + (nI 1)) 192 ∧ (∀ w4 : Int32, w4 = ((I1 14) (((v1 * (nI 3)) + (nI 1)).toNatClampNeg)) → (Q (.inl (some (.int w4))) E1 I1 J1 S1)))) ∧ (¬ ((I1 13) v1.toNatClampNeg) = (nI 12) → (Q (.inl (some (.int (-1)))) E1 I1 J1 S1))))))) : am_ww 34 0 [.ref 77, .ref 12, am_U] [] E I J S Q := by
  refine w_st (i' := 1) (ls' := [.ref 77, .ref 12, am_U]) (st' := [.ref 77]) (E' := E) (I' := I) (J' := J) (S' := S) am_e34 rfl rfl rfl rfl ?_
  refine w_st (i' := 2) (ls' := [.ref 77, .ref 12, am_U]) (st' := [.ref 12, .ref 77]) (E' := E) (I' := I) (J' := J) (S' := S) am_e34 rfl rfl rfl rfl ?_
  refine w_st (i' := 3) (ls' := [.ref 77, .ref 12, am_U]) (st' := [.ref 77, .ref 12, .ref 77]) (E' := E) (I' := I) (J' := J) (S' := S) am_e34 rfl rfl rfl rfl ?_
  refine w_st (i' := 4) (ls' := [.ref 77, .ref 12, am_U]) (st' := [.int ((I 77) 6), .ref 12, .ref 77]) (E' := E) (I' := I) (J' := J) (S' := S) am_e34 rfl rfl rfl rfl ?_
  refine w_cI am_e34 rfl rfl (as := [.ref 77, .ref 12, .int ((I 77) 6)]) (rest := []) rfl rfl (am_ww.mono h ?_)
  rintro _ E1 I1 J1 S1 ⟨v1, rfl, h⟩
  refine q_mkI ?_
  refine w_st (i' := 6) (ls' := [.ref 77, .ref 12, .int v1]) (st' := []) (E' := E1) (I' := I1) (J' := J1) (S' := S1) am_e34 rfl rfl rfl rfl ?_
  refine w_st (i' := 7) (ls' := [.ref 77, .ref 12, .int v1]) (st' := [.int v1]) (E' := E1) (I' := I1) (J' := J1) (S' := S1) am_e34 rfl rfl rfl rfl ?_
  refine w_st (i' := 8) (ls' := [.ref 77, .ref 12, .int v1]) (st' := [.int (-1), .int v1]) (E' := E1) (I' := I1) (J' := J1) (S' := S1) am_e34 rfl rfl rfl rfl ?_
  refine w_if2 am_e34 rfl rfl (fun c => ?_) (fun c => ?_)
  · replace h := h.1 (of_decide_eq_true c)
    refine w_st (i' := 21) (ls' := [.ref 77, .ref 12, .int v1]) (st' := [.int (-1)]) (E' := E1) (I' := I1) (J' := J1) (S' := S1) am_e34 rfl rfl rfl rfl ?_
    exact w_end am_e34 rfl rfl rfl h
  · replace h := h.2 (of_decide_eq_false c)
    refine w_st (i' := 10) (ls' := [.ref 77, .ref 12, .int v1]) (st' := [.ref 12]) (E' := E1) (I' := I1) (J' := J1) (S' := S1) am_e34 rfl rfl rfl rfl ?_
    refine w_st (i' := 11) (ls' := [.ref 77, .ref 12, .int v1]) (st' := [.ref 13]) (E' := E1) (I' := I1) (J' := J1) (S' := S1) am_e34 rfl rfl rfl rfl ?_
    refine w_st (i' := 12) (ls' := [.ref 77, .ref 12, .int v1]) (st' := [.int v1, .ref 13]) (E' := E1) (I' := I1) (J' := J1) (S' := S1) am_e34 rfl rfl rfl rfl ?_
    have hf2 := h.1
    replace h := h.2
    refine w_ia (k := 13) (n := 64) (jn := v1.toNatClampNeg) am_e34 rfl rfl (by decide) hf2 rfl ?_
    refine w_st (i' := 14) (ls' := [.ref 77, .ref 12, .int v1]) (st' := [.int (nI 12), .int ((I1 13) v1.toNatClampNeg)]) (E' := E1) (I' := I1) (J' := J1) (S' := S1) am_e34 rfl rfl rfl rfl ?_
    refine w_if2 am_e34 rfl rfl (fun c => ?_) (fun c => ?_)
    · replace h := h.2 (of_decide_eq_true c)
      refine w_st (i' := 21) (ls' := [.ref 77, .ref 12, .int v1]) (st' := [.int (-1)]) (E' := E1) (I' := I1) (J' := J1) (S' := S1) am_e34 rfl rfl rfl rfl ?_
      exact w_end am_e34 rfl rfl rfl h
    · replace h := h.1 (Decidable.not_not.mp (of_decide_eq_false c))
      refine w_st (i' := 16) (ls' := [.ref 77, .ref 12, .int v1]) (st' := [.ref 12]) (E' := E1) (I' := I1) (J' := J1) (S' := S1) am_e34 rfl rfl rfl rfl ?_
      refine w_st (i' := 17) (ls' := [.ref 77, .ref 12, .int v1]) (st' := [.int v1, .ref 12]) (E' := E1) (I' := I1) (J' := J1) (S' := S1) am_e34 rfl rfl rfl rfl ?_
      refine w_st (i' := 18) (ls' := [.ref 77, .ref 12, .int v1]) (st' := [.int (nI 1), .int v1, .ref 12]) (E' := E1) (I' := I1) (J' := J1) (S' := S1) am_e34 rfl rfl rfl rfl ?_
      refine w_cI am_e34 rfl rfl (as := [.ref 12, .int v1, .int (nI 1)]) (rest := []) rfl rfl ?_
      show am_ww 26 0 [.ref 12, .int v1, .int (nI 1)] [] E1 I1 J1 S1 _
      refine w_st (i' := 1) (ls' := [.ref 12, .int v1, .int (nI 1)]) (st' := [.ref 12]) (E' := E1) (I' := I1) (J' := J1) (S' := S1) am_e26 rfl rfl rfl rfl ?_
      refine w_st (i' := 2) (ls' := [.ref 12, .int v1, .int (nI 1)]) (st' := [.ref 14]) (E' := E1) (I' := I1) (J' := J1) (S' := S1) am_e26 rfl rfl rfl rfl ?_
      refine w_st (i' := 3) (ls' := [.ref 12, .int v1, .int (nI 1)]) (st' := [.int v1, .ref 14]) (E' := E1) (I' := I1) (J' := J1) (S' := S1) am_e26 rfl rfl rfl rfl ?_
      refine w_st (i' := 4) (ls' := [.ref 12, .int v1, .int (nI 1)]) (st' := [.int (nI 3), .int v1, .ref 14]) (E' := E1) (I' := I1) (J' := J1) (S' := S1) am_e26 rfl rfl rfl rfl ?_
      refine w_st (i' := 5) (ls' := [.ref 12, .int v1, .int (nI 1)]) (st' := [.int (v1 * (nI 3)), .ref 14]) (E' := E1) (I' := I1) (J' := J1) (S' := S1) am_e26 rfl rfl rfl rfl ?_
      refine w_st (i' := 6) (ls' := [.ref 12, .int v1, .int (nI 1)]) (st' := [.int (nI 1), .int (v1 * (nI 3)), .ref 14]) (E' := E1) (I' := I1) (J' := J1) (S' := S1) am_e26 rfl rfl rfl rfl ?_
      refine w_st (i' := 7) (ls' := [.ref 12, .int v1, .int (nI 1)]) (st' := [.int ((v1 * (nI 3)) + (nI 1)), .ref 14]) (E' := E1) (I' := I1) (J' := J1) (S' := S1) am_e26 rfl rfl rfl rfl ?_
      have hf3 := h.1
      replace h := h.2
      refine w_ia (k := 14) (n := 192) (jn := ((v1 * (nI 3)) + (nI 1)).toNatClampNeg) am_e26 rfl rfl (by decide) hf3 rfl ?_
      refine w_ri am_e26 rfl rfl (q_mkI ?_)
      show am_ww 34 19 [.ref 77, .ref 12, .int v1] [.int ((I1 14) (((v1 * (nI 3)) + (nI 1)).toNatClampNeg))] E1 I1 J1 S1 _
      refine w_var (fun w4 => am_ww 34 19 [.ref 77, .ref 12, .int v1] [.int w4] E1 I1 J1 S1 _) ((I1 14) (((v1 * (nI 3)) + (nI 1)).toNatClampNeg)) (fun w4 hw4 => ?_)
      replace h := h w4 hw4
      refine w_st (i' := 21) (ls' := [.ref 77, .ref 12, .int v1]) (st' := [.int w4]) (E' := E1) (I' := I1) (J' := J1) (S' := S1) am_e34 rfl rfl rfl rfl ?_
      exact w_ri am_e34 rfl rfl h
-- 36 obey
theorem g36_0_77 {p2 : Int32} {E : am_Ev} {I : Nat → Nat → Int32} {J : Nat → Nat → Int64} {S : Nat → Nat → Option Nat} {Q : am_Qt}  (h : am_cl 24 [.ref 77, .ref 12, .int ((I 77) 6)] E I J S (q_I fun v1 E1 I1 J1 S1 => (v1 = (-1) → (Q (.inl none) E1 I1 J1 S1)) ∧ (¬ v1 = (-1) → (vp_in v1 64 ∧ ((((I1 13) v1.toNatClampNeg) = (nI 15) → (am_cl 37 [.ref 77, .ref 12, .int v1] E1 I1 J1 S1 (q_V fun E3 I3 J3 S3 => Q (.inl none) E3 I3 J3 S3))) ∧ (¬ ((I1 13) v1.toNatClampNeg) = (nI 15) → ((((I1 13) v1.toNatClampNeg) = (nI 16) → (am_cl 37 [.ref 77, .ref 12, .int v1] E1 I1 J1 S1 (q_V fun E4 I4 J4 S4 => Q (.inl none) E4 I4 J4 S4))) ∧ (¬ ((I1 13) v1.toNatClampNeg) = (nI 16) → ((((I1 13) v1.toNatClampNeg) = (nI 17) → (am_cl 37 [.ref 77, .ref 12, .int v1] E1 I1 J1 S1 (q_V fun E7 I7 J7 S7 => Q (.inl none) E7 I7 J7 S7))) ∧ (¬ ((I1 13) v1.toNatClampNeg) = (nI 17) → (am_cl 38 [.ref 77, .ref 12, .int v1, .int p2] E1 I1 J1 S1 (q_V fun E5 I5 J5 S5 => vp_in ((I5 77) 6) 4 ∧ (Q (.inl none) E5 (u_I I5 80 (upd (I5 80) (((I5 77) 6).toNatClampNeg) (((I5 80) (((I5 77) 6).toNatClampNeg)) + (nI 1)))) J5 S5))))))))))))) : am_ww 36 0 [.ref 77, .ref 12, .int p2, am_U, am_U] [] E I J S Q := by
  refine w_st (i' := 1) (ls' := [.ref 77, .ref 12, .int p2, am_U, am_U]) (st' := [.ref 77]) (E' := E) (I' := I) (J' := J) (S' := S) am_e36 rfl rfl rfl rfl ?_
  refine w_st (i' := 2) (ls' := [.ref 77, .ref 12, .int p2, am_U, am_U]) (st' := [.ref 12, .ref 77]) (E' := E) (I' := I) (J' := J) (S' := S) am_e36 rfl rfl rfl rfl ?_
  refine w_st (i' := 3) (ls' := [.ref 77, .ref 12, .int p2, am_U, am_U]) (st' := [.ref 77, .ref 12, .ref 77]) (E' := E) (I' := I) (J' := J) (S' := S) am_e36 rfl rfl rfl rfl ?_
  refine w_st (i' := 4) (ls' := [.ref 77, .ref 12, .int p2, am_U, am_U]) (st' := [.int ((I 77) 6), .ref 12, .ref 77]) (E' := E) (I' := I) (J' := J) (S' := S) am_e36 rfl rfl rfl rfl ?_
  refine w_cI am_e36 rfl rfl (as := [.ref 77, .ref 12, .int ((I 77) 6)]) (rest := []) rfl rfl (am_ww.mono h ?_)
  rintro _ E1 I1 J1 S1 ⟨v1, rfl, h⟩
  refine q_mkI ?_
  refine w_st (i' := 6) (ls' := [.ref 77, .ref 12, .int p2, .int v1, am_U]) (st' := []) (E' := E1) (I' := I1) (J' := J1) (S' := S1) am_e36 rfl rfl rfl rfl ?_
  refine w_st (i' := 7) (ls' := [.ref 77, .ref 12, .int p2, .int v1, am_U]) (st' := [.int v1]) (E' := E1) (I' := I1) (J' := J1) (S' := S1) am_e36 rfl rfl rfl rfl ?_
  refine w_st (i' := 8) (ls' := [.ref 77, .ref 12, .int p2, .int v1, am_U]) (st' := [.int (-1), .int v1]) (E' := E1) (I' := I1) (J' := J1) (S' := S1) am_e36 rfl rfl rfl rfl ?_
  refine w_if2 am_e36 rfl rfl (fun c => ?_) (fun c => ?_)
  · replace h := h.2 (of_decide_eq_true c)
    refine w_st (i' := 11) (ls' := [.ref 77, .ref 12, .int p2, .int v1, am_U]) (st' := [.ref 12]) (E' := E1) (I' := I1) (J' := J1) (S' := S1) am_e36 rfl rfl rfl rfl ?_
    refine w_st (i' := 12) (ls' := [.ref 77, .ref 12, .int p2, .int v1, am_U]) (st' := [.ref 13]) (E' := E1) (I' := I1) (J' := J1) (S' := S1) am_e36 rfl rfl rfl rfl ?_
    refine w_st (i' := 13) (ls' := [.ref 77, .ref 12, .int p2, .int v1, am_U]) (st' := [.int v1, .ref 13]) (E' := E1) (I' := I1) (J' := J1) (S' := S1) am_e36 rfl rfl rfl rfl ?_
    have hf2 := h.1
    replace h := h.2
    refine w_ia (k := 13) (n := 64) (jn := v1.toNatClampNeg) am_e36 rfl rfl (by decide) hf2 rfl ?_
    refine w_st (i' := 15) (ls' := [.ref 77, .ref 12, .int p2, .int v1, .int ((I1 13) v1.toNatClampNeg)]) (st' := []) (E' := E1) (I' := I1) (J' := J1) (S' := S1) am_e36 rfl rfl rfl rfl ?_
    refine w_st (i' := 16) (ls' := [.ref 77, .ref 12, .int p2, .int v1, .int ((I1 13) v1.toNatClampNeg)]) (st' := [.int ((I1 13) v1.toNatClampNeg)]) (E' := E1) (I' := I1) (J' := J1) (S' := S1) am_e36 rfl rfl rfl rfl ?_
    refine w_st (i' := 17) (ls' := [.ref 77, .ref 12, .int p2, .int v1, .int ((I1 13) v1.toNatClampNeg)]) (st' := [.int (nI 15), .int ((I1 13) v1.toNatClampNeg)]) (E' := E1) (I' := I1) (J' := J1) (S' := S1) am_e36 rfl rfl rfl rfl ?_
    refine w_if2 am_e36 rfl rfl (fun c => ?_) (fun c => ?_)
    · replace h := h.1 (of_decide_eq_true c)
      refine w_st (i' := 25) (ls' := [.ref 77, .ref 12, .int p2, .int v1, .int ((I1 13) v1.toNatClampNeg)]) (st' := [.ref 77]) (E' := E1) (I' := I1) (J' := J1) (S' := S1) am_e36 rfl rfl rfl rfl ?_
      refine w_st (i' := 26) (ls' := [.ref 77, .ref 12, .int p2, .int v1, .int ((I1 13) v1.toNatClampNeg)]) (st' := [.ref 12, .ref 77]) (E' := E1) (I' := I1) (J' := J1) (S' := S1) am_e36 rfl rfl rfl rfl ?_
      refine w_st (i' := 27) (ls' := [.ref 77, .ref 12, .int p2, .int v1, .int ((I1 13) v1.toNatClampNeg)]) (st' := [.int v1, .ref 12, .ref 77]) (E' := E1) (I' := I1) (J' := J1) (S' := S1) am_e36 rfl rfl rfl rfl ?_
      refine w_cV am_e36 rfl rfl (as := [.ref 77, .ref 12, .int v1]) (rest := []) rfl rfl (am_ww.mono h ?_)
      rintro _ E3 I3 J3 S3 ⟨rfl, h⟩
      refine q_mkV ?_
      refine w_st (i' := 43) (ls' := [.ref 77, .ref 12, .int p2, .int v1, .int ((I1 13) v1.toNatClampNeg)]) (st' := []) (E' := E3) (I' := I3) (J' := J3) (S' := S3) am_e36 rfl rfl rfl rfl ?_
      exact w_end am_e36 rfl rfl rfl h
    · replace h := h.2 (of_decide_eq_false c)
      refine w_st (i' := 19) (ls' := [.ref 77, .ref 12, .int p2, .int v1, .int ((I1 13) v1.toNatClampNeg)]) (st' := [.int ((I1 13) v1.toNatClampNeg)]) (E' := E1) (I' := I1) (J' := J1) (S' := S1) am_e36 rfl rfl rfl rfl ?_
      refine w_st (i' := 20) (ls' := [.ref 77, .ref 12, .int p2, .int v1, .int ((I1 13) v1.toNatClampNeg)]) (st' := [.int (nI 16), .int ((I1 13) v1.toNatClampNeg)]) (E' := E1) (I' := I1) (J' := J1) (S' := S1) am_e36 rfl rfl rfl rfl ?_
      refine w_if2 am_e36 rfl rfl (fun c => ?_) (fun c => ?_)
      · replace h := h.1 (of_decide_eq_true c)
        refine w_st (i' := 25) (ls' := [.ref 77, .ref 12, .int p2, .int v1, .int ((I1 13) v1.toNatClampNeg)]) (st' := [.ref 77]) (E' := E1) (I' := I1) (J' := J1) (S' := S1) am_e36 rfl rfl rfl rfl ?_
        refine w_st (i' := 26) (ls' := [.ref 77, .ref 12, .int p2, .int v1, .int ((I1 13) v1.toNatClampNeg)]) (st' := [.ref 12, .ref 77]) (E' := E1) (I' := I1) (J' := J1) (S' := S1) am_e36 rfl rfl rfl rfl ?_
        refine w_st (i' := 27) (ls' := [.ref 77, .ref 12, .int p2, .int v1, .int ((I1 13) v1.toNatClampNeg)]) (st' := [.int v1, .ref 12, .ref 77]) (E' := E1) (I' := I1) (J' := J1) (S' := S1) am_e36 rfl rfl rfl rfl ?_
        refine w_cV am_e36 rfl rfl (as := [.ref 77, .ref 12, .int v1]) (rest := []) rfl rfl (am_ww.mono h ?_)
        rintro _ E4 I4 J4 S4 ⟨rfl, h⟩
        refine q_mkV ?_
        refine w_st (i' := 43) (ls' := [.ref 77, .ref 12, .int p2, .int v1, .int ((I1 13) v1.toNatClampNeg)]) (st' := []) (E' := E4) (I' := I4) (J' := J4) (S' := S4) am_e36 rfl rfl rfl rfl ?_
        exact w_end am_e36 rfl rfl rfl h
      · replace h := h.2 (of_decide_eq_false c)
        refine w_st (i' := 22) (ls' := [.ref 77, .ref 12, .int p2, .int v1, .int ((I1 13) v1.toNatClampNeg)]) (st' := [.int ((I1 13) v1.toNatClampNeg)]) (E' := E1) (I' := I1) (J' := J1) (S' := S1) am_e36 rfl rfl rfl rfl ?_
        refine w_st (i' := 23) (ls' := [.ref 77, .ref 12, .int p2, .int v1, .int ((I1 13) v1.toNatClampNeg)]) (st' := [.int (nI 17), .int ((I1 13) v1.toNatClampNeg)]) (E' := E1) (I' := I1) (J' := J1) (S' := S1) am_e36 rfl rfl rfl rfl ?_
        refine w_if2 am_e36 rfl rfl (fun c => ?_) (fun c => ?_)
        · replace h := h.2 (of_decide_eq_true c)
          refine w_st (i' := 30) (ls' := [.ref 77, .ref 12, .int p2, .int v1, .int ((I1 13) v1.toNatClampNeg)]) (st' := [.ref 77]) (E' := E1) (I' := I1) (J' := J1) (S' := S1) am_e36 rfl rfl rfl rfl ?_
          refine w_st (i' := 31) (ls' := [.ref 77, .ref 12, .int p2, .int v1, .int ((I1 13) v1.toNatClampNeg)]) (st' := [.ref 12, .ref 77]) (E' := E1) (I' := I1) (J' := J1) (S' := S1) am_e36 rfl rfl rfl rfl ?_
          refine w_st (i' := 32) (ls' := [.ref 77, .ref 12, .int p2, .int v1, .int ((I1 13) v1.toNatClampNeg)]) (st' := [.int v1, .ref 12, .ref 77]) (E' := E1) (I' := I1) (J' := J1) (S' := S1) am_e36 rfl rfl rfl rfl ?_
          refine w_st (i' := 33) (ls' := [.ref 77, .ref 12, .int p2, .int v1, .int ((I1 13) v1.toNatClampNeg)]) (st' := [.int p2, .int v1, .ref 12, .ref 77]) (E' := E1) (I' := I1) (J' := J1) (S' := S1) am_e36 rfl rfl rfl rfl ?_
          refine w_cV am_e36 rfl rfl (as := [.ref 77, .ref 12, .int v1, .int p2]) (rest := []) rfl rfl (am_ww.mono h ?_)
          rintro _ E5 I5 J5 S5 ⟨rfl, h⟩
          refine q_mkV ?_
          refine w_st (i' := 35) (ls' := [.ref 77, .ref 12, .int p2, .int v1, .int ((I1 13) v1.toNatClampNeg)]) (st' := [.ref 77]) (E' := E5) (I' := I5) (J' := J5) (S' := S5) am_e36 rfl rfl rfl rfl ?_
          refine w_st (i' := 36) (ls' := [.ref 77, .ref 12, .int p2, .int v1, .int ((I1 13) v1.toNatClampNeg)]) (st' := [.ref 80]) (E' := E5) (I' := I5) (J' := J5) (S' := S5) am_e36 rfl rfl rfl rfl ?_
          refine w_st (i' := 37) (ls' := [.ref 77, .ref 12, .int p2, .int v1, .int ((I1 13) v1.toNatClampNeg)]) (st' := [.ref 77, .ref 80]) (E' := E5) (I' := I5) (J' := J5) (S' := S5) am_e36 rfl rfl rfl rfl ?_
          refine w_st (i' := 38) (ls' := [.ref 77, .ref 12, .int p2, .int v1, .int ((I1 13) v1.toNatClampNeg)]) (st' := [.int ((I5 77) 6), .ref 80]) (E' := E5) (I' := I5) (J' := J5) (S' := S5) am_e36 rfl rfl rfl rfl ?_
          refine w_st (i' := 39) (ls' := [.ref 77, .ref 12, .int p2, .int v1, .int ((I1 13) v1.toNatClampNeg)]) (st' := [.int ((I5 77) 6), .ref 80, .int ((I5 77) 6), .ref 80]) (E' := E5) (I' := I5) (J' := J5) (S' := S5) am_e36 rfl rfl rfl rfl ?_
          have hf6 := h.1
          replace h := h.2
          refine w_ia (k := 80) (n := 4) (jn := ((I5 77) 6).toNatClampNeg) am_e36 rfl rfl (by decide) hf6 rfl ?_
          refine w_st (i' := 41) (ls' := [.ref 77, .ref 12, .int p2, .int v1, .int ((I1 13) v1.toNatClampNeg)]) (st' := [.int (nI 1), .int ((I5 80) (((I5 77) 6).toNatClampNeg)), .int ((I5 77) 6), .ref 80]) (E' := E5) (I' := I5) (J' := J5) (S' := S5) am_e36 rfl rfl rfl rfl ?_
          refine w_st (i' := 42) (ls' := [.ref 77, .ref 12, .int p2, .int v1, .int ((I1 13) v1.toNatClampNeg)]) (st' := [.int (((I5 80) (((I5 77) 6).toNatClampNeg)) + (nI 1)), .int ((I5 77) 6), .ref 80]) (E' := E5) (I' := I5) (J' := J5) (S' := S5) am_e36 rfl rfl rfl rfl ?_
          refine w_is (k := 80) (n := 4) (jn := ((I5 77) 6).toNatClampNeg) am_e36 rfl rfl (by decide) hf6 rfl ?_
          show am_ww 36 43 [.ref 77, .ref 12, .int p2, .int v1, .int ((I1 13) v1.toNatClampNeg)] [] E5 (u_I I5 80 (upd (I5 80) (((I5 77) 6).toNatClampNeg) (((I5 80) (((I5 77) 6).toNatClampNeg)) + (nI 1)))) J5 S5 _
          exact w_end am_e36 rfl rfl rfl h
        · replace h := h.1 (Decidable.not_not.mp (of_decide_eq_false c))
          refine w_st (i' := 25) (ls' := [.ref 77, .ref 12, .int p2, .int v1, .int ((I1 13) v1.toNatClampNeg)]) (st' := [.ref 77]) (E' := E1) (I' := I1) (J' := J1) (S' := S1) am_e36 rfl rfl rfl rfl ?_
          refine w_st (i' := 26) (ls' := [.ref 77, .ref 12, .int p2, .int v1, .int ((I1 13) v1.toNatClampNeg)]) (st' := [.ref 12, .ref 77]) (E' := E1) (I' := I1) (J' := J1) (S' := S1) am_e36 rfl rfl rfl rfl ?_
          refine w_st (i' := 27) (ls' := [.ref 77, .ref 12, .int p2, .int v1, .int ((I1 13) v1.toNatClampNeg)]) (st' := [.int v1, .ref 12, .ref 77]) (E' := E1) (I' := I1) (J' := J1) (S' := S1) am_e36 rfl rfl rfl rfl ?_
          refine w_cV am_e36 rfl rfl (as := [.ref 77, .ref 12, .int v1]) (rest := []) rfl rfl (am_ww.mono h ?_)
          rintro _ E7 I7 J7 S7 ⟨rfl, h⟩
          refine q_mkV ?_
          refine w_st (i' := 43) (ls' := [.ref 77, .ref 12, .int p2, .int v1, .int ((I1 13) v1.toNatClampNeg)]) (st' := []) (E' := E7) (I' := I7) (J' := J7) (S' := S7) am_e36 rfl rfl rfl rfl ?_
          exact w_end am_e36 rfl rfl rfl h
  · replace h := h.1 (Decidable.not_not.mp (of_decide_eq_false c))
    exact w_end am_e36 rfl rfl rfl h
-- 37 branch
theorem g37_0_77 {p2 : Int32} {E : am_Ev} {I : Nat → Nat → Int32} {J : Nat → Nat → Int64} {S : Nat → Nat → Option Nat} {Q : am_Qt}  (h : vp_in ((p2 * (nI 3)) + (nI 0)) 192 ∧ (∀ w2 : Int32, w2 = ((I 14) (((p2 * (nI 3)) + (nI 0)).toNatClampNeg)) → (vp_in ((p2 * (nI 3)) + (nI 1)) 192 ∧ (∀ w4 : Int32, w4 = ((I 14) (((p2 * (nI 3)) + (nI 1)).toNatClampNeg)) → (vp_in ((I 77) 6) 4 ∧ (∀ w6 : Int32, w6 = (((I 80) (((I 77) 6).toNatClampNeg)) + (nI 1)) → (vp_in p2 64 ∧ ((((I 13) p2.toNatClampNeg) = nI 15 → (am_ww 37 69 [.ref 77, .ref 12, .int p2, .int (((I 77) 6) * (nI 4)), .int w2, .int w4, .int w2, am_U] [] E I J S Q)) ∧ (((I 13) p2.toNatClampNeg) = nI 16 → (vp_in ((((I 77) 6) * (nI 4)) + w2) 16 ∧ (∀ w10 : Int32, w10 = (if ((I 79) (((((I 77) 6) * (nI 4)) + w2).toNatClampNeg)) = 0 then w4 else w6) → (am_ww 37 69 [.ref 77, .ref 12, .int p2, .int (((I 77) 6) * (nI 4)), .int w2, .int w4, .int w10, am_U] [] E I J S Q)))) ∧ (¬ ((I 13) p2.toNatClampNeg) = nI 15 → ¬ ((I 13) p2.toNatClampNeg) = nI 16 → (vp_in ((((I 77) 6) * (nI 4)) + w2) 16 ∧ (vp_in ((((I 77) 6) * (nI 4)) + w4) 16 ∧ (∀ w14 : Int32, w14 = (if ((I 79) (((((I 77) 6) * (nI 4)) + w4).toNatClampNeg)) ≤ ((I 79) (((((I 77) 6) * (nI 4)) + w2).toNatClampNeg)) then nI 0 else nI 1) → ((w14 = 0 → (am_ww 37 69 [.ref 77, .ref 12, .int p2, .int (((I 77) 6) * (nI 4)), .int w2, .int w4, .int w6, .int w14] [] E I J S Q)) ∧ (¬ w14 = 0 → (vp_in ((p2 * (nI 3)) + (nI 2)) 192 ∧ (∀ w16 : Int32, w16 = ((I 14) (((p2 * (nI 3)) + (nI 2)).toNatClampNeg)) → (am_ww 37 69 [.ref 77, .ref 12, .int p2, .int (((I 77) 6) * (nI 4)), .int w2, .int w4, .int w16, .int w14] [] E I J S Q))))))))))))))))) : am_ww 37 0 [.ref 77, .ref 12, .int p2, am_U, am_U, am_U, am_U, am_U] [] E I J S Q := by
  refine w_st (i' := 1) (ls' := [.ref 77, .ref 12, .int p2, am_U, am_U, am_U, am_U, am_U]) (st' := [.ref 77]) (E' := E) (I' := I) (J' := J) (S' := S) am_e37 rfl rfl rfl rfl ?_
  refine w_st (i' := 2) (ls' := [.ref 77, .ref 12, .int p2, am_U, am_U, am_U, am_U, am_U]) (st' := [.int ((I 77) 6)]) (E' := E) (I' := I) (J' := J) (S' := S) am_e37 rfl rfl rfl rfl ?_
  refine w_st (i' := 3) (ls' := [.ref 77, .ref 12, .int p2, am_U, am_U, am_U, am_U, am_U]) (st' := [.int (nI 4), .int ((I 77) 6)]) (E' := E) (I' := I) (J' := J) (S' := S) am_e37 rfl rfl rfl rfl ?_
  refine w_st (i' := 4) (ls' := [.ref 77, .ref 12, .int p2, am_U, am_U, am_U, am_U, am_U]) (st' := [.int (((I 77) 6) * (nI 4))]) (E' := E) (I' := I) (J' := J) (S' := S) am_e37 rfl rfl rfl rfl ?_
  refine w_st (i' := 5) (ls' := [.ref 77, .ref 12, .int p2, .int (((I 77) 6) * (nI 4)), am_U, am_U, am_U, am_U]) (st' := []) (E' := E) (I' := I) (J' := J) (S' := S) am_e37 rfl rfl rfl rfl ?_
  refine w_st (i' := 6) (ls' := [.ref 77, .ref 12, .int p2, .int (((I 77) 6) * (nI 4)), am_U, am_U, am_U, am_U]) (st' := [.ref 12]) (E' := E) (I' := I) (J' := J) (S' := S) am_e37 rfl rfl rfl rfl ?_
  refine w_st (i' := 7) (ls' := [.ref 77, .ref 12, .int p2, .int (((I 77) 6) * (nI 4)), am_U, am_U, am_U, am_U]) (st' := [.int p2, .ref 12]) (E' := E) (I' := I) (J' := J) (S' := S) am_e37 rfl rfl rfl rfl ?_
  refine w_st (i' := 8) (ls' := [.ref 77, .ref 12, .int p2, .int (((I 77) 6) * (nI 4)), am_U, am_U, am_U, am_U]) (st' := [.int (nI 0), .int p2, .ref 12]) (E' := E) (I' := I) (J' := J) (S' := S) am_e37 rfl rfl rfl rfl ?_
  refine w_cI am_e37 rfl rfl (as := [.ref 12, .int p2, .int (nI 0)]) (rest := []) rfl rfl ?_
  show am_ww 26 0 [.ref 12, .int p2, .int (nI 0)] [] E I J S _
  refine w_st (i' := 1) (ls' := [.ref 12, .int p2, .int (nI 0)]) (st' := [.ref 12]) (E' := E) (I' := I) (J' := J) (S' := S) am_e26 rfl rfl rfl rfl ?_
  refine w_st (i' := 2) (ls' := [.ref 12, .int p2, .int (nI 0)]) (st' := [.ref 14]) (E' := E) (I' := I) (J' := J) (S' := S) am_e26 rfl rfl rfl rfl ?_
  refine w_st (i' := 3) (ls' := [.ref 12, .int p2, .int (nI 0)]) (st' := [.int p2, .ref 14]) (E' := E) (I' := I) (J' := J) (S' := S) am_e26 rfl rfl rfl rfl ?_
  refine w_st (i' := 4) (ls' := [.ref 12, .int p2, .int (nI 0)]) (st' := [.int (nI 3), .int p2, .ref 14]) (E' := E) (I' := I) (J' := J) (S' := S) am_e26 rfl rfl rfl rfl ?_
  refine w_st (i' := 5) (ls' := [.ref 12, .int p2, .int (nI 0)]) (st' := [.int (p2 * (nI 3)), .ref 14]) (E' := E) (I' := I) (J' := J) (S' := S) am_e26 rfl rfl rfl rfl ?_
  refine w_st (i' := 6) (ls' := [.ref 12, .int p2, .int (nI 0)]) (st' := [.int (nI 0), .int (p2 * (nI 3)), .ref 14]) (E' := E) (I' := I) (J' := J) (S' := S) am_e26 rfl rfl rfl rfl ?_
  refine w_st (i' := 7) (ls' := [.ref 12, .int p2, .int (nI 0)]) (st' := [.int ((p2 * (nI 3)) + (nI 0)), .ref 14]) (E' := E) (I' := I) (J' := J) (S' := S) am_e26 rfl rfl rfl rfl ?_
  have hf1 := h.1
  replace h := h.2
  refine w_ia (k := 14) (n := 192) (jn := ((p2 * (nI 3)) + (nI 0)).toNatClampNeg) am_e26 rfl rfl (by decide) hf1 rfl ?_
  refine w_ri am_e26 rfl rfl (q_mkI ?_)
  show am_ww 37 9 [.ref 77, .ref 12, .int p2, .int (((I 77) 6) * (nI 4)), am_U, am_U, am_U, am_U] [.int ((I 14) (((p2 * (nI 3)) + (nI 0)).toNatClampNeg))] E I J S _
  refine w_var (fun w2 => am_ww 37 9 [.ref 77, .ref 12, .int p2, .int (((I 77) 6) * (nI 4)), am_U, am_U, am_U, am_U] [.int w2] E I J S _) ((I 14) (((p2 * (nI 3)) + (nI 0)).toNatClampNeg)) (fun w2 hw2 => ?_)
  replace h := h w2 hw2
  refine w_st (i' := 10) (ls' := [.ref 77, .ref 12, .int p2, .int (((I 77) 6) * (nI 4)), .int w2, am_U, am_U, am_U]) (st' := []) (E' := E) (I' := I) (J' := J) (S' := S) am_e37 rfl rfl rfl rfl ?_
  refine w_st (i' := 11) (ls' := [.ref 77, .ref 12, .int p2, .int (((I 77) 6) * (nI 4)), .int w2, am_U, am_U, am_U]) (st' := [.ref 12]) (E' := E) (I' := I) (J' := J) (S' := S) am_e37 rfl rfl rfl rfl ?_
  refine w_st (i' := 12) (ls' := [.ref 77, .ref 12, .int p2, .int (((I 77) 6) * (nI 4)), .int w2, am_U, am_U, am_U]) (st' := [.int p2, .ref 12]) (E' := E) (I' := I) (J' := J) (S' := S) am_e37 rfl rfl rfl rfl ?_
  refine w_st (i' := 13) (ls' := [.ref 77, .ref 12, .int p2, .int (((I 77) 6) * (nI 4)), .int w2, am_U, am_U, am_U]) (st' := [.int (nI 1), .int p2, .ref 12]) (E' := E) (I' := I) (J' := J) (S' := S) am_e37 rfl rfl rfl rfl ?_
  refine w_cI am_e37 rfl rfl (as := [.ref 12, .int p2, .int (nI 1)]) (rest := []) rfl rfl ?_
  show am_ww 26 0 [.ref 12, .int p2, .int (nI 1)] [] E I J S _
  refine w_st (i' := 1) (ls' := [.ref 12, .int p2, .int (nI 1)]) (st' := [.ref 12]) (E' := E) (I' := I) (J' := J) (S' := S) am_e26 rfl rfl rfl rfl ?_
  refine w_st (i' := 2) (ls' := [.ref 12, .int p2, .int (nI 1)]) (st' := [.ref 14]) (E' := E) (I' := I) (J' := J) (S' := S) am_e26 rfl rfl rfl rfl ?_
  refine w_st (i' := 3) (ls' := [.ref 12, .int p2, .int (nI 1)]) (st' := [.int p2, .ref 14]) (E' := E) (I' := I) (J' := J) (S' := S) am_e26 rfl rfl rfl rfl ?_
  refine w_st (i' := 4) (ls' := [.ref 12, .int p2, .int (nI 1)]) (st' := [.int (nI 3), .int p2, .ref 14]) (E' := E) (I' := I) (J' := J) (S' := S) am_e26 rfl rfl rfl rfl ?_
  refine w_st (i' := 5) (ls' := [.ref 12, .int p2, .int (nI 1)]) (st' := [.int (p2 * (nI 3)), .ref 14]) (E' := E) (I' := I) (J' := J) (S' := S) am_e26 rfl rfl rfl rfl ?_
  refine w_st (i' := 6) (ls' := [.ref 12, .int p2, .int (nI 1)]) (st' := [.int (nI 1), .int (p2 * (nI 3)), .ref 14]) (E' := E) (I' := I) (J' := J) (S' := S) am_e26 rfl rfl rfl rfl ?_
  refine w_st (i' := 7) (ls' := [.ref 12, .int p2, .int (nI 1)]) (st' := [.int ((p2 * (nI 3)) + (nI 1)), .ref 14]) (E' := E) (I' := I) (J' := J) (S' := S) am_e26 rfl rfl rfl rfl ?_
  have hf3 := h.1
  replace h := h.2
  refine w_ia (k := 14) (n := 192) (jn := ((p2 * (nI 3)) + (nI 1)).toNatClampNeg) am_e26 rfl rfl (by decide) hf3 rfl ?_
  refine w_ri am_e26 rfl rfl (q_mkI ?_)
  show am_ww 37 14 [.ref 77, .ref 12, .int p2, .int (((I 77) 6) * (nI 4)), .int w2, am_U, am_U, am_U] [.int ((I 14) (((p2 * (nI 3)) + (nI 1)).toNatClampNeg))] E I J S _
  refine w_var (fun w4 => am_ww 37 14 [.ref 77, .ref 12, .int p2, .int (((I 77) 6) * (nI 4)), .int w2, am_U, am_U, am_U] [.int w4] E I J S _) ((I 14) (((p2 * (nI 3)) + (nI 1)).toNatClampNeg)) (fun w4 hw4 => ?_)
  replace h := h w4 hw4
  refine w_st (i' := 15) (ls' := [.ref 77, .ref 12, .int p2, .int (((I 77) 6) * (nI 4)), .int w2, .int w4, am_U, am_U]) (st' := []) (E' := E) (I' := I) (J' := J) (S' := S) am_e37 rfl rfl rfl rfl ?_
  refine w_st (i' := 16) (ls' := [.ref 77, .ref 12, .int p2, .int (((I 77) 6) * (nI 4)), .int w2, .int w4, am_U, am_U]) (st' := [.ref 77]) (E' := E) (I' := I) (J' := J) (S' := S) am_e37 rfl rfl rfl rfl ?_
  refine w_st (i' := 17) (ls' := [.ref 77, .ref 12, .int p2, .int (((I 77) 6) * (nI 4)), .int w2, .int w4, am_U, am_U]) (st' := [.ref 80]) (E' := E) (I' := I) (J' := J) (S' := S) am_e37 rfl rfl rfl rfl ?_
  refine w_st (i' := 18) (ls' := [.ref 77, .ref 12, .int p2, .int (((I 77) 6) * (nI 4)), .int w2, .int w4, am_U, am_U]) (st' := [.ref 77, .ref 80]) (E' := E) (I' := I) (J' := J) (S' := S) am_e37 rfl rfl rfl rfl ?_
  refine w_st (i' := 19) (ls' := [.ref 77, .ref 12, .int p2, .int (((I 77) 6) * (nI 4)), .int w2, .int w4, am_U, am_U]) (st' := [.int ((I 77) 6), .ref 80]) (E' := E) (I' := I) (J' := J) (S' := S) am_e37 rfl rfl rfl rfl ?_
  have hf5 := h.1
  replace h := h.2
  refine w_ia (k := 80) (n := 4) (jn := ((I 77) 6).toNatClampNeg) am_e37 rfl rfl (by decide) hf5 rfl ?_
  refine w_st (i' := 21) (ls' := [.ref 77, .ref 12, .int p2, .int (((I 77) 6) * (nI 4)), .int w2, .int w4, am_U, am_U]) (st' := [.int (nI 1), .int ((I 80) (((I 77) 6).toNatClampNeg))]) (E' := E) (I' := I) (J' := J) (S' := S) am_e37 rfl rfl rfl rfl ?_
  refine w_st (i' := 22) (ls' := [.ref 77, .ref 12, .int p2, .int (((I 77) 6) * (nI 4)), .int w2, .int w4, am_U, am_U]) (st' := [.int (((I 80) (((I 77) 6).toNatClampNeg)) + (nI 1))]) (E' := E) (I' := I) (J' := J) (S' := S) am_e37 rfl rfl rfl rfl ?_
  refine w_st (i' := 23) (ls' := [.ref 77, .ref 12, .int p2, .int (((I 77) 6) * (nI 4)), .int w2, .int w4, .int (((I 80) (((I 77) 6).toNatClampNeg)) + (nI 1)), am_U]) (st' := []) (E' := E) (I' := I) (J' := J) (S' := S) am_e37 rfl rfl rfl rfl ?_
  refine w_var (fun w6 => am_ww 37 23 [.ref 77, .ref 12, .int p2, .int (((I 77) 6) * (nI 4)), .int w2, .int w4, .int w6, am_U] [] E I J S _) (((I 80) (((I 77) 6).toNatClampNeg)) + (nI 1)) (fun w6 hw6 => ?_)
  replace h := h w6 hw6
  refine w_st (i' := 24) (ls' := [.ref 77, .ref 12, .int p2, .int (((I 77) 6) * (nI 4)), .int w2, .int w4, .int w6, am_U]) (st' := [.ref 12]) (E' := E) (I' := I) (J' := J) (S' := S) am_e37 rfl rfl rfl rfl ?_
  refine w_st (i' := 25) (ls' := [.ref 77, .ref 12, .int p2, .int (((I 77) 6) * (nI 4)), .int w2, .int w4, .int w6, am_U]) (st' := [.ref 13]) (E' := E) (I' := I) (J' := J) (S' := S) am_e37 rfl rfl rfl rfl ?_
  refine w_st (i' := 26) (ls' := [.ref 77, .ref 12, .int p2, .int (((I 77) 6) * (nI 4)), .int w2, .int w4, .int w6, am_U]) (st' := [.int p2, .ref 13]) (E' := E) (I' := I) (J' := J) (S' := S) am_e37 rfl rfl rfl rfl ?_
  have hf7 := h.1
  replace h := h.2
  refine w_ia (k := 13) (n := 64) (jn := p2.toNatClampNeg) am_e37 rfl rfl (by decide) hf7 rfl ?_
  refine w_lk am_e37 rfl ?_
  by_cases c15 : ((I 13) p2.toNatClampNeg) = nI 15
  · replace h := h.1 c15
    refine w_to (i2 := 28) (by rw [c15]; first | done | rfl) ?_
    refine w_st (i' := 29) (ls' := [.ref 77, .ref 12, .int p2, .int (((I 77) 6) * (nI 4)), .int w2, .int w4, .int w6, am_U]) (st' := [.int w2]) (E' := E) (I' := I) (J' := J) (S' := S) am_e37 rfl rfl rfl rfl ?_
    refine w_st (i' := 30) (ls' := [.ref 77, .ref 12, .int p2, .int (((I 77) 6) * (nI 4)), .int w2, .int w4, .int w2, am_U]) (st' := []) (E' := E) (I' := I) (J' := J) (S' := S) am_e37 rfl rfl rfl rfl ?_
    refine w_st (i' := 69) (ls' := [.ref 77, .ref 12, .int p2, .int (((I 77) 6) * (nI 4)), .int w2, .int w4, .int w2, am_U]) (st' := []) (E' := E) (I' := I) (J' := J) (S' := S) am_e37 rfl rfl rfl rfl ?_
    exact h
  by_cases c16 : ((I 13) p2.toNatClampNeg) = nI 16
  · replace h := h.2.1 c16
    refine w_to (i2 := 31) (by rw [c16]; first | done | rfl) ?_
    refine w_st (i' := 32) (ls' := [.ref 77, .ref 12, .int p2, .int (((I 77) 6) * (nI 4)), .int w2, .int w4, .int w6, am_U]) (st' := [.ref 77]) (E' := E) (I' := I) (J' := J) (S' := S) am_e37 rfl rfl rfl rfl ?_
    refine w_st (i' := 33) (ls' := [.ref 77, .ref 12, .int p2, .int (((I 77) 6) * (nI 4)), .int w2, .int w4, .int w6, am_U]) (st' := [.ref 79]) (E' := E) (I' := I) (J' := J) (S' := S) am_e37 rfl rfl rfl rfl ?_
    refine w_st (i' := 34) (ls' := [.ref 77, .ref 12, .int p2, .int (((I 77) 6) * (nI 4)), .int w2, .int w4, .int w6, am_U]) (st' := [.int (((I 77) 6) * (nI 4)), .ref 79]) (E' := E) (I' := I) (J' := J) (S' := S) am_e37 rfl rfl rfl rfl ?_
    refine w_st (i' := 35) (ls' := [.ref 77, .ref 12, .int p2, .int (((I 77) 6) * (nI 4)), .int w2, .int w4, .int w6, am_U]) (st' := [.int w2, .int (((I 77) 6) * (nI 4)), .ref 79]) (E' := E) (I' := I) (J' := J) (S' := S) am_e37 rfl rfl rfl rfl ?_
    refine w_st (i' := 36) (ls' := [.ref 77, .ref 12, .int p2, .int (((I 77) 6) * (nI 4)), .int w2, .int w4, .int w6, am_U]) (st' := [.int ((((I 77) 6) * (nI 4)) + w2), .ref 79]) (E' := E) (I' := I) (J' := J) (S' := S) am_e37 rfl rfl rfl rfl ?_
    have hf8 := h.1
    replace h := h.2
    refine w_ia (k := 79) (n := 16) (jn := ((((I 77) 6) * (nI 4)) + w2).toNatClampNeg) am_e37 rfl rfl (by decide) hf8 rfl ?_
    refine w_mg (i := 41) (ls' := [.ref 77, .ref 12, .int p2, .int (((I 77) 6) * (nI 4)), .int w2, .int w4, .int w6, am_U]) (st' := [.int (if ((I 79) (((((I 77) 6) * (nI 4)) + w2).toNatClampNeg)) = 0 then w4 else w6)]) (fun hm => ?_) ?_
    · clear h
      refine w_if1 am_e37 rfl rfl (fun c => ?_) (fun c => ?_)
      · have m9 : ¬ (((I 79) (((((I 77) 6) * (nI 4)) + w2).toNatClampNeg)) = 0) := (of_decide_eq_true c)
        refine w_st (i' := 41) (ls' := [.ref 77, .ref 12, .int p2, .int (((I 77) 6) * (nI 4)), .int w2, .int w4, .int w6, am_U]) (st' := [.int w6]) (E' := E) (I' := I) (J' := J) (S' := S) am_e37 rfl rfl rfl rfl ?_
        first | exact hm | (simp only [if_neg m9] at hm; exact hm)
      · have m9 : ((I 79) (((((I 77) 6) * (nI 4)) + w2).toNatClampNeg)) = 0 := (Decidable.not_not.mp (of_decide_eq_false c))
        refine w_st (i' := 39) (ls' := [.ref 77, .ref 12, .int p2, .int (((I 77) 6) * (nI 4)), .int w2, .int w4, .int w6, am_U]) (st' := [.int w4]) (E' := E) (I' := I) (J' := J) (S' := S) am_e37 rfl rfl rfl rfl ?_
        refine w_st (i' := 41) (ls' := [.ref 77, .ref 12, .int p2, .int (((I 77) 6) * (nI 4)), .int w2, .int w4, .int w6, am_U]) (st' := [.int w4]) (E' := E) (I' := I) (J' := J) (S' := S) am_e37 rfl rfl rfl rfl ?_
        first | exact hm | (simp only [if_pos m9] at hm; exact hm)
    refine w_var (fun w10 => am_ww 37 41 [.ref 77, .ref 12, .int p2, .int (((I 77) 6) * (nI 4)), .int w2, .int w4, .int w6, am_U] [.int w10] E I J S _) (if ((I 79) (((((I 77) 6) * (nI 4)) + w2).toNatClampNeg)) = 0 then w4 else w6) (fun w10 hw10 => ?_)
    replace h := h w10 hw10
    refine w_st (i' := 42) (ls' := [.ref 77, .ref 12, .int p2, .int (((I 77) 6) * (nI 4)), .int w2, .int w4, .int w10, am_U]) (st' := []) (E' := E) (I' := I) (J' := J) (S' := S) am_e37 rfl rfl rfl rfl ?_
    refine w_st (i' := 69) (ls' := [.ref 77, .ref 12, .int p2, .int (((I 77) 6) * (nI 4)), .int w2, .int w4, .int w10, am_U]) (st' := []) (E' := E) (I' := I) (J' := J) (S' := S) am_e37 rfl rfl rfl rfl ?_
    exact h
  replace h := h.2.2 c15 c16
  refine w_to (i2 := 43) (am_lk_out (by intro q h1; have : q = 15 ∨ q = 16 := (by simpa using h1); rcases this with rfl | rfl <;> assumption)) ?_
  refine w_st (i' := 44) (ls' := [.ref 77, .ref 12, .int p2, .int (((I 77) 6) * (nI 4)), .int w2, .int w4, .int w6, am_U]) (st' := [.ref 77]) (E' := E) (I' := I) (J' := J) (S' := S) am_e37 rfl rfl rfl rfl ?_
  refine w_st (i' := 45) (ls' := [.ref 77, .ref 12, .int p2, .int (((I 77) 6) * (nI 4)), .int w2, .int w4, .int w6, am_U]) (st' := [.ref 79]) (E' := E) (I' := I) (J' := J) (S' := S) am_e37 rfl rfl rfl rfl ?_
  refine w_st (i' := 46) (ls' := [.ref 77, .ref 12, .int p2, .int (((I 77) 6) * (nI 4)), .int w2, .int w4, .int w6, am_U]) (st' := [.int (((I 77) 6) * (nI 4)), .ref 79]) (E' := E) (I' := I) (J' := J) (S' := S) am_e37 rfl rfl rfl rfl ?_
  refine w_st (i' := 47) (ls' := [.ref 77, .ref 12, .int p2, .int (((I 77) 6) * (nI 4)), .int w2, .int w4, .int w6, am_U]) (st' := [.int w2, .int (((I 77) 6) * (nI 4)), .ref 79]) (E' := E) (I' := I) (J' := J) (S' := S) am_e37 rfl rfl rfl rfl ?_
  refine w_st (i' := 48) (ls' := [.ref 77, .ref 12, .int p2, .int (((I 77) 6) * (nI 4)), .int w2, .int w4, .int w6, am_U]) (st' := [.int ((((I 77) 6) * (nI 4)) + w2), .ref 79]) (E' := E) (I' := I) (J' := J) (S' := S) am_e37 rfl rfl rfl rfl ?_
  have hf11 := h.1
  replace h := h.2
  refine w_ia (k := 79) (n := 16) (jn := ((((I 77) 6) * (nI 4)) + w2).toNatClampNeg) am_e37 rfl rfl (by decide) hf11 rfl ?_
  refine w_st (i' := 50) (ls' := [.ref 77, .ref 12, .int p2, .int (((I 77) 6) * (nI 4)), .int w2, .int w4, .int w6, am_U]) (st' := [.ref 77, .int ((I 79) (((((I 77) 6) * (nI 4)) + w2).toNatClampNeg))]) (E' := E) (I' := I) (J' := J) (S' := S) am_e37 rfl rfl rfl rfl ?_
  refine w_st (i' := 51) (ls' := [.ref 77, .ref 12, .int p2, .int (((I 77) 6) * (nI 4)), .int w2, .int w4, .int w6, am_U]) (st' := [.ref 79, .int ((I 79) (((((I 77) 6) * (nI 4)) + w2).toNatClampNeg))]) (E' := E) (I' := I) (J' := J) (S' := S) am_e37 rfl rfl rfl rfl ?_
  refine w_st (i' := 52) (ls' := [.ref 77, .ref 12, .int p2, .int (((I 77) 6) * (nI 4)), .int w2, .int w4, .int w6, am_U]) (st' := [.int (((I 77) 6) * (nI 4)), .ref 79, .int ((I 79) (((((I 77) 6) * (nI 4)) + w2).toNatClampNeg))]) (E' := E) (I' := I) (J' := J) (S' := S) am_e37 rfl rfl rfl rfl ?_
  refine w_st (i' := 53) (ls' := [.ref 77, .ref 12, .int p2, .int (((I 77) 6) * (nI 4)), .int w2, .int w4, .int w6, am_U]) (st' := [.int w4, .int (((I 77) 6) * (nI 4)), .ref 79, .int ((I 79) (((((I 77) 6) * (nI 4)) + w2).toNatClampNeg))]) (E' := E) (I' := I) (J' := J) (S' := S) am_e37 rfl rfl rfl rfl ?_
  refine w_st (i' := 54) (ls' := [.ref 77, .ref 12, .int p2, .int (((I 77) 6) * (nI 4)), .int w2, .int w4, .int w6, am_U]) (st' := [.int ((((I 77) 6) * (nI 4)) + w4), .ref 79, .int ((I 79) (((((I 77) 6) * (nI 4)) + w2).toNatClampNeg))]) (E' := E) (I' := I) (J' := J) (S' := S) am_e37 rfl rfl rfl rfl ?_
  have hf12 := h.1
  replace h := h.2
  refine w_ia (k := 79) (n := 16) (jn := ((((I 77) 6) * (nI 4)) + w4).toNatClampNeg) am_e37 rfl rfl (by decide) hf12 rfl ?_
  refine w_mg (i := 59) (ls' := [.ref 77, .ref 12, .int p2, .int (((I 77) 6) * (nI 4)), .int w2, .int w4, .int w6, am_U]) (st' := [.int (if ((I 79) (((((I 77) 6) * (nI 4)) + w4).toNatClampNeg)) ≤ ((I 79) (((((I 77) 6) * (nI 4)) + w2).toNatClampNeg)) then nI 0 else nI 1)]) (fun hm => ?_) ?_
  · clear h
    refine w_if2 am_e37 rfl rfl (fun c => ?_) (fun c => ?_)
    · have m13 : ((I 79) (((((I 77) 6) * (nI 4)) + w4).toNatClampNeg)) ≤ ((I 79) (((((I 77) 6) * (nI 4)) + w2).toNatClampNeg)) := (of_decide_eq_true c)
      refine w_st (i' := 59) (ls' := [.ref 77, .ref 12, .int p2, .int (((I 77) 6) * (nI 4)), .int w2, .int w4, .int w6, am_U]) (st' := [.int (nI 0)]) (E' := E) (I' := I) (J' := J) (S' := S) am_e37 rfl rfl rfl rfl ?_
      first | exact hm | (simp only [if_pos m13] at hm; exact hm)
    · have m13 : ¬ (((I 79) (((((I 77) 6) * (nI 4)) + w4).toNatClampNeg)) ≤ ((I 79) (((((I 77) 6) * (nI 4)) + w2).toNatClampNeg))) := (of_decide_eq_false c)
      refine w_st (i' := 57) (ls' := [.ref 77, .ref 12, .int p2, .int (((I 77) 6) * (nI 4)), .int w2, .int w4, .int w6, am_U]) (st' := [.int (nI 1)]) (E' := E) (I' := I) (J' := J) (S' := S) am_e37 rfl rfl rfl rfl ?_
      refine w_st (i' := 59) (ls' := [.ref 77, .ref 12, .int p2, .int (((I 77) 6) * (nI 4)), .int w2, .int w4, .int w6, am_U]) (st' := [.int (nI 1)]) (E' := E) (I' := I) (J' := J) (S' := S) am_e37 rfl rfl rfl rfl ?_
      first | exact hm | (simp only [if_neg m13] at hm; exact hm)
  refine w_var (fun w14 => am_ww 37 59 [.ref 77, .ref 12, .int p2, .int (((I 77) 6) * (nI 4)), .int w2, .int w4, .int w6, am_U] [.int w14] E I J S _) (if ((I 79) (((((I 77) 6) * (nI 4)) + w4).toNatClampNeg)) ≤ ((I 79) (((((I 77) 6) * (nI 4)) + w2).toNatClampNeg)) then nI 0 else nI 1) (fun w14 hw14 => ?_)
  replace h := h w14 hw14
  refine w_st (i' := 60) (ls' := [.ref 77, .ref 12, .int p2, .int (((I 77) 6) * (nI 4)), .int w2, .int w4, .int w6, .int w14]) (st' := []) (E' := E) (I' := I) (J' := J) (S' := S) am_e37 rfl rfl rfl rfl ?_
  refine w_st (i' := 61) (ls' := [.ref 77, .ref 12, .int p2, .int (((I 77) 6) * (nI 4)), .int w2, .int w4, .int w6, .int w14]) (st' := [.int w14]) (E' := E) (I' := I) (J' := J) (S' := S) am_e37 rfl rfl rfl rfl ?_
  refine w_if1 am_e37 rfl rfl (fun c => ?_) (fun c => ?_)
  · replace h := h.1 (of_decide_eq_true c)
    refine w_st (i' := 68) (ls' := [.ref 77, .ref 12, .int p2, .int (((I 77) 6) * (nI 4)), .int w2, .int w4, .int w6, .int w14]) (st' := [.int w6]) (E' := E) (I' := I) (J' := J) (S' := S) am_e37 rfl rfl rfl rfl ?_
    refine w_st (i' := 69) (ls' := [.ref 77, .ref 12, .int p2, .int (((I 77) 6) * (nI 4)), .int w2, .int w4, .int w6, .int w14]) (st' := []) (E' := E) (I' := I) (J' := J) (S' := S) am_e37 rfl rfl rfl rfl ?_
    exact h
  · replace h := h.2 (of_decide_eq_false c)
    refine w_st (i' := 63) (ls' := [.ref 77, .ref 12, .int p2, .int (((I 77) 6) * (nI 4)), .int w2, .int w4, .int w6, .int w14]) (st' := [.ref 12]) (E' := E) (I' := I) (J' := J) (S' := S) am_e37 rfl rfl rfl rfl ?_
    refine w_st (i' := 64) (ls' := [.ref 77, .ref 12, .int p2, .int (((I 77) 6) * (nI 4)), .int w2, .int w4, .int w6, .int w14]) (st' := [.int p2, .ref 12]) (E' := E) (I' := I) (J' := J) (S' := S) am_e37 rfl rfl rfl rfl ?_
    refine w_st (i' := 65) (ls' := [.ref 77, .ref 12, .int p2, .int (((I 77) 6) * (nI 4)), .int w2, .int w4, .int w6, .int w14]) (st' := [.int (nI 2), .int p2, .ref 12]) (E' := E) (I' := I) (J' := J) (S' := S) am_e37 rfl rfl rfl rfl ?_
    refine w_cI am_e37 rfl rfl (as := [.ref 12, .int p2, .int (nI 2)]) (rest := []) rfl rfl ?_
    show am_ww 26 0 [.ref 12, .int p2, .int (nI 2)] [] E I J S _
    refine w_st (i' := 1) (ls' := [.ref 12, .int p2, .int (nI 2)]) (st' := [.ref 12]) (E' := E) (I' := I) (J' := J) (S' := S) am_e26 rfl rfl rfl rfl ?_
    refine w_st (i' := 2) (ls' := [.ref 12, .int p2, .int (nI 2)]) (st' := [.ref 14]) (E' := E) (I' := I) (J' := J) (S' := S) am_e26 rfl rfl rfl rfl ?_
    refine w_st (i' := 3) (ls' := [.ref 12, .int p2, .int (nI 2)]) (st' := [.int p2, .ref 14]) (E' := E) (I' := I) (J' := J) (S' := S) am_e26 rfl rfl rfl rfl ?_
    refine w_st (i' := 4) (ls' := [.ref 12, .int p2, .int (nI 2)]) (st' := [.int (nI 3), .int p2, .ref 14]) (E' := E) (I' := I) (J' := J) (S' := S) am_e26 rfl rfl rfl rfl ?_
    refine w_st (i' := 5) (ls' := [.ref 12, .int p2, .int (nI 2)]) (st' := [.int (p2 * (nI 3)), .ref 14]) (E' := E) (I' := I) (J' := J) (S' := S) am_e26 rfl rfl rfl rfl ?_
    refine w_st (i' := 6) (ls' := [.ref 12, .int p2, .int (nI 2)]) (st' := [.int (nI 2), .int (p2 * (nI 3)), .ref 14]) (E' := E) (I' := I) (J' := J) (S' := S) am_e26 rfl rfl rfl rfl ?_
    refine w_st (i' := 7) (ls' := [.ref 12, .int p2, .int (nI 2)]) (st' := [.int ((p2 * (nI 3)) + (nI 2)), .ref 14]) (E' := E) (I' := I) (J' := J) (S' := S) am_e26 rfl rfl rfl rfl ?_
    have hf15 := h.1
    replace h := h.2
    refine w_ia (k := 14) (n := 192) (jn := ((p2 * (nI 3)) + (nI 2)).toNatClampNeg) am_e26 rfl rfl (by decide) hf15 rfl ?_
    refine w_ri am_e26 rfl rfl (q_mkI ?_)
    show am_ww 37 66 [.ref 77, .ref 12, .int p2, .int (((I 77) 6) * (nI 4)), .int w2, .int w4, .int w6, .int w14] [.int ((I 14) (((p2 * (nI 3)) + (nI 2)).toNatClampNeg))] E I J S _
    refine w_var (fun w16 => am_ww 37 66 [.ref 77, .ref 12, .int p2, .int (((I 77) 6) * (nI 4)), .int w2, .int w4, .int w6, .int w14] [.int w16] E I J S _) ((I 14) (((p2 * (nI 3)) + (nI 2)).toNatClampNeg)) (fun w16 hw16 => ?_)
    replace h := h w16 hw16
    refine w_st (i' := 68) (ls' := [.ref 77, .ref 12, .int p2, .int (((I 77) 6) * (nI 4)), .int w2, .int w4, .int w6, .int w14]) (st' := [.int w16]) (E' := E) (I' := I) (J' := J) (S' := S) am_e37 rfl rfl rfl rfl ?_
    refine w_st (i' := 69) (ls' := [.ref 77, .ref 12, .int p2, .int (((I 77) 6) * (nI 4)), .int w2, .int w4, .int w16, .int w14]) (st' := []) (E' := E) (I' := I) (J' := J) (S' := S) am_e37 rfl rfl rfl rfl ?_
    exact h
theorem g37_69_77 {d1 : Value} {d2 : Value} {d3 : Value} {d4 : Value} {d5 : Value} {x6 : Int32} {d7 : Value} {E : am_Ev} {I : Nat → Nat → Int32} {J : Nat → Nat → Int64} {S : Nat → Nat → Option Nat} {Q : am_Qt} (hd1 : am_isL d1 = false) (hd2 : am_isL d2 = false) (hd3 : am_isL d3 = false) (hd4 : am_isL d4 = false) (hd5 : am_isL d5 = false) (hd7 : am_isL d7 = false) (h : vp_in ((I 77) 6) 4 ∧ (Q (.inl none) E (u_I (u_I I 80 (upd (I 80) (((I 77) 6).toNatClampNeg) x6)) 81 (upd (I 81) (((I 77) 6).toNatClampNeg) (((I 81) (((I 77) 6).toNatClampNeg)) + (nI 1)))) J S)) : am_ww 37 69 [.ref 77, d1, d2, d3, d4, d5, .int x6, d7] [] E I J S Q := by
  refine w_st (i' := 70) (ls' := [.ref 77, d1, d2, d3, d4, d5, .int x6, d7]) (st' := [.ref 77]) (E' := E) (I' := I) (J' := J) (S' := S) am_e37 rfl rfl rfl rfl ?_
  refine w_st (i' := 71) (ls' := [.ref 77, d1, d2, d3, d4, d5, .int x6, d7]) (st' := [.ref 80]) (E' := E) (I' := I) (J' := J) (S' := S) am_e37 rfl rfl rfl rfl ?_
  refine w_st (i' := 72) (ls' := [.ref 77, d1, d2, d3, d4, d5, .int x6, d7]) (st' := [.ref 77, .ref 80]) (E' := E) (I' := I) (J' := J) (S' := S) am_e37 rfl rfl rfl rfl ?_
  refine w_st (i' := 73) (ls' := [.ref 77, d1, d2, d3, d4, d5, .int x6, d7]) (st' := [.int ((I 77) 6), .ref 80]) (E' := E) (I' := I) (J' := J) (S' := S) am_e37 rfl rfl rfl rfl ?_
  refine w_st (i' := 74) (ls' := [.ref 77, d1, d2, d3, d4, d5, .int x6, d7]) (st' := [.int x6, .int ((I 77) 6), .ref 80]) (E' := E) (I' := I) (J' := J) (S' := S) am_e37 rfl rfl rfl rfl ?_
  have hf1 := h.1
  replace h := h.2
  refine w_is (k := 80) (n := 4) (jn := ((I 77) 6).toNatClampNeg) am_e37 rfl rfl (by decide) hf1 rfl ?_
  show am_ww 37 75 [.ref 77, d1, d2, d3, d4, d5, .int x6, d7] [] E (u_I I 80 (upd (I 80) (((I 77) 6).toNatClampNeg) x6)) J S _
  refine w_st (i' := 76) (ls' := [.ref 77, d1, d2, d3, d4, d5, .int x6, d7]) (st' := [.ref 77]) (E' := E) (I' := (u_I I 80 (upd (I 80) (((I 77) 6).toNatClampNeg) x6))) (J' := J) (S' := S) am_e37 rfl rfl rfl rfl ?_
  refine w_st (i' := 77) (ls' := [.ref 77, d1, d2, d3, d4, d5, .int x6, d7]) (st' := [.ref 81]) (E' := E) (I' := (u_I I 80 (upd (I 80) (((I 77) 6).toNatClampNeg) x6))) (J' := J) (S' := S) am_e37 rfl rfl rfl rfl ?_
  refine w_st (i' := 78) (ls' := [.ref 77, d1, d2, d3, d4, d5, .int x6, d7]) (st' := [.ref 77, .ref 81]) (E' := E) (I' := (u_I I 80 (upd (I 80) (((I 77) 6).toNatClampNeg) x6))) (J' := J) (S' := S) am_e37 rfl rfl rfl rfl ?_
  refine w_st (i' := 79) (ls' := [.ref 77, d1, d2, d3, d4, d5, .int x6, d7]) (st' := [.int ((I 77) 6), .ref 81]) (E' := E) (I' := (u_I I 80 (upd (I 80) (((I 77) 6).toNatClampNeg) x6))) (J' := J) (S' := S) am_e37 rfl rfl rfl rfl ?_
  refine w_st (i' := 80) (ls' := [.ref 77, d1, d2, d3, d4, d5, .int x6, d7]) (st' := [.int ((I 77) 6), .ref 81, .int ((I 77) 6), .ref 81]) (E' := E) (I' := (u_I I 80 (upd (I 80) (((I 77) 6).toNatClampNeg) x6))) (J' := J) (S' := S) am_e37 rfl rfl rfl rfl ?_
  refine w_ia (k := 81) (n := 4) (jn := ((I 77) 6).toNatClampNeg) am_e37 rfl rfl (by decide) hf1 rfl ?_
  show am_ww 37 81 [.ref 77, d1, d2, d3, d4, d5, .int x6, d7] [.int ((I 81) (((I 77) 6).toNatClampNeg)), .int ((I 77) 6), .ref 81] E (u_I I 80 (upd (I 80) (((I 77) 6).toNatClampNeg) x6)) J S _
  refine w_st (i' := 82) (ls' := [.ref 77, d1, d2, d3, d4, d5, .int x6, d7]) (st' := [.int (nI 1), .int ((I 81) (((I 77) 6).toNatClampNeg)), .int ((I 77) 6), .ref 81]) (E' := E) (I' := (u_I I 80 (upd (I 80) (((I 77) 6).toNatClampNeg) x6))) (J' := J) (S' := S) am_e37 rfl rfl rfl rfl ?_
  refine w_st (i' := 83) (ls' := [.ref 77, d1, d2, d3, d4, d5, .int x6, d7]) (st' := [.int (((I 81) (((I 77) 6).toNatClampNeg)) + (nI 1)), .int ((I 77) 6), .ref 81]) (E' := E) (I' := (u_I I 80 (upd (I 80) (((I 77) 6).toNatClampNeg) x6))) (J' := J) (S' := S) am_e37 rfl rfl rfl rfl ?_
  refine w_is (k := 81) (n := 4) (jn := ((I 77) 6).toNatClampNeg) am_e37 rfl rfl (by decide) hf1 rfl ?_
  show am_ww 37 84 [.ref 77, d1, d2, d3, d4, d5, .int x6, d7] [] E (u_I (u_I I 80 (upd (I 80) (((I 77) 6).toNatClampNeg) x6)) 81 (upd (I 81) (((I 77) 6).toNatClampNeg) (((I 81) (((I 77) 6).toNatClampNeg)) + (nI 1)))) J S _
  exact w_end am_e37 rfl rfl rfl h
-- 38 work
theorem g38_0_77 {p2 : Int32} {p3 : Int32} {E : am_Ev} {I : Nat → Nat → Int32} {J : Nat → Nat → Int64} {S : Nat → Nat → Option Nat} {Q : am_Qt}  (h : vp_in ((p2 * (nI 3)) + (nI 0)) 192 ∧ (∀ w2 : Int32, w2 = ((I 14) (((p2 * (nI 3)) + (nI 0)).toNatClampNeg)) → (vp_in ((p2 * (nI 3)) + (nI 1)) 192 ∧ (∀ w4 : Int32, w4 = ((I 14) (((p2 * (nI 3)) + (nI 1)).toNatClampNeg)) → (vp_in p2 64 ∧ ((((I 13) p2.toNatClampNeg) = nI 6 → (vp_in ((((I 77) 6) * (nI 4)) + w2) 16 ∧ (Q (.inl none) E (u_I I 79 (upd (I 79) (((((I 77) 6) * (nI 4)) + w2).toNatClampNeg) w4)) J S))) ∧ (((I 13) p2.toNatClampNeg) = nI 7 → (vp_in w4 16 ∧ (vp_in ((((I 77) 6) * (nI 4)) + w2) 16 ∧ (Q (.inl none) E (u_I I 79 (upd (I 79) (((((I 77) 6) * (nI 4)) + w2).toNatClampNeg) ((I 78) w4.toNatClampNeg))) J S)))) ∧ (((I 13) p2.toNatClampNeg) = nI 8 → (vp_in ((((I 77) 6) * (nI 4)) + w4) 16 ∧ (vp_in w2 16 ∧ (Q (.inl none) E (u_I I 78 (upd (I 78) w2.toNatClampNeg ((I 79) (((((I 77) 6) * (nI 4)) + w4).toNatClampNeg)))) J S)))) ∧ (((I 13) p2.toNatClampNeg) = nI 9 → (vp_in ((((I 77) 6) * (nI 4)) + w2) 16 ∧ (vp_in ((((I 77) 6) * (nI 4)) + w4) 16 ∧ (Q (.inl none) E (u_I I 79 (upd (I 79) (((((I 77) 6) * (nI 4)) + w2).toNatClampNeg) (((I 79) (((((I 77) 6) * (nI 4)) + w2).toNatClampNeg)) + ((I 79) (((((I 77) 6) * (nI 4)) + w4).toNatClampNeg))))) J S)))) ∧ (((I 13) p2.toNatClampNeg) = nI 10 → (vp_in ((((I 77) 6) * (nI 4)) + w2) 16 ∧ (vp_in ((((I 77) 6) * (nI 4)) + w4) 16 ∧ (Q (.inl none) E (u_I I 79 (upd (I 79) (((((I 77) 6) * (nI 4)) + w2).toNatClampNeg) (((I 79) (((((I 77) 6) * (nI 4)) + w2).toNatClampNeg)) - ((I 79) (((((I 77) 6) * (nI 4)) + w4).toNatClampNeg))))) J S)))) ∧ (((I 13) p2.toNatClampNeg) = nI 11 → (vp_in ((((I 77) 6) * (nI 4)) + w2) 16 ∧ (vp_in ((((I 77) 6) * (nI 4)) + w4) 16 ∧ (Q (.inl none) E (u_I I 79 (upd (I 79) (((((I 77) 6) * (nI 4)) + w2).toNatClampNeg) (((I 79) (((((I 77) 6) * (nI 4)) + w2).toNatClampNeg)) * ((I 79) (((((I 77) 6) * (nI 4)) + w4).toNatClampNeg))))) J S)))) ∧ (((I 13) p2.toNatClampNeg) = nI 12 → (vp_in ((((I 77) 6) * (nI 4)) + w2) 16 ∧ (vp_in w4 3 ∧ (Q (.inl none) E (u_I (u_I I 79 (upd (I 79) (((((I 77) 6) * (nI 4)) + w2).toNatClampNeg) p3)) 83 (upd (I 83) w4.toNatClampNeg (((I 83) w4.toNatClampNeg) + (nI 1)))) J S)))) ∧ (((I 13) p2.toNatClampNeg) = nI 13 → (vp_in w2 4 ∧ (Q (.inl none) E (u_I I 82 (upd (I 82) w2.toNatClampNeg ((I 77) 6))) J S))) ∧ (((I 13) p2.toNatClampNeg) = nI 14 → (vp_in w2 4 ∧ (∀ w22 : Int32, w22 = (if ((I 82) w2.toNatClampNeg) = ((I 77) 6) then (-1) else ((I 82) w2.toNatClampNeg)) → (Q (.inl none) E (u_I I 82 (upd (I 82) w2.toNatClampNeg w22)) J S)))) ∧ (¬ ((I 13) p2.toNatClampNeg) = nI 6 → ¬ ((I 13) p2.toNatClampNeg) = nI 7 → ¬ ((I 13) p2.toNatClampNeg) = nI 8 → ¬ ((I 13) p2.toNatClampNeg) = nI 9 → ¬ ((I 13) p2.toNatClampNeg) = nI 10 → ¬ ((I 13) p2.toNatClampNeg) = nI 11 → ¬ ((I 13) p2.toNatClampNeg) = nI 12 → ¬ ((I 13) p2.toNatClampNeg) = nI 13 → ¬ ((I 13) p2.toNatClampNeg) = nI 14 → (Q (.inl none) E I J S)))))))) : am_ww 38 0 [.ref 77, .ref 12, .int p2, .int p3, am_U, am_U, am_U] [] E I J S Q := by
  refine w_st (i' := 1) (ls' := [.ref 77, .ref 12, .int p2, .int p3, am_U, am_U, am_U]) (st' := [.ref 77]) (E' := E) (I' := I) (J' := J) (S' := S) am_e38 rfl rfl rfl rfl ?_
  refine w_st (i' := 2) (ls' := [.ref 77, .ref 12, .int p2, .int p3, am_U, am_U, am_U]) (st' := [.int ((I 77) 6)]) (E' := E) (I' := I) (J' := J) (S' := S) am_e38 rfl rfl rfl rfl ?_
  refine w_st (i' := 3) (ls' := [.ref 77, .ref 12, .int p2, .int p3, am_U, am_U, am_U]) (st' := [.int (nI 4), .int ((I 77) 6)]) (E' := E) (I' := I) (J' := J) (S' := S) am_e38 rfl rfl rfl rfl ?_
  refine w_st (i' := 4) (ls' := [.ref 77, .ref 12, .int p2, .int p3, am_U, am_U, am_U]) (st' := [.int (((I 77) 6) * (nI 4))]) (E' := E) (I' := I) (J' := J) (S' := S) am_e38 rfl rfl rfl rfl ?_
  refine w_st (i' := 5) (ls' := [.ref 77, .ref 12, .int p2, .int p3, .int (((I 77) 6) * (nI 4)), am_U, am_U]) (st' := []) (E' := E) (I' := I) (J' := J) (S' := S) am_e38 rfl rfl rfl rfl ?_
  refine w_st (i' := 6) (ls' := [.ref 77, .ref 12, .int p2, .int p3, .int (((I 77) 6) * (nI 4)), am_U, am_U]) (st' := [.ref 12]) (E' := E) (I' := I) (J' := J) (S' := S) am_e38 rfl rfl rfl rfl ?_
  refine w_st (i' := 7) (ls' := [.ref 77, .ref 12, .int p2, .int p3, .int (((I 77) 6) * (nI 4)), am_U, am_U]) (st' := [.int p2, .ref 12]) (E' := E) (I' := I) (J' := J) (S' := S) am_e38 rfl rfl rfl rfl ?_
  refine w_st (i' := 8) (ls' := [.ref 77, .ref 12, .int p2, .int p3, .int (((I 77) 6) * (nI 4)), am_U, am_U]) (st' := [.int (nI 0), .int p2, .ref 12]) (E' := E) (I' := I) (J' := J) (S' := S) am_e38 rfl rfl rfl rfl ?_
  refine w_cI am_e38 rfl rfl (as := [.ref 12, .int p2, .int (nI 0)]) (rest := []) rfl rfl ?_
  show am_ww 26 0 [.ref 12, .int p2, .int (nI 0)] [] E I J S _
  refine w_st (i' := 1) (ls' := [.ref 12, .int p2, .int (nI 0)]) (st' := [.ref 12]) (E' := E) (I' := I) (J' := J) (S' := S) am_e26 rfl rfl rfl rfl ?_
  refine w_st (i' := 2) (ls' := [.ref 12, .int p2, .int (nI 0)]) (st' := [.ref 14]) (E' := E) (I' := I) (J' := J) (S' := S) am_e26 rfl rfl rfl rfl ?_
  refine w_st (i' := 3) (ls' := [.ref 12, .int p2, .int (nI 0)]) (st' := [.int p2, .ref 14]) (E' := E) (I' := I) (J' := J) (S' := S) am_e26 rfl rfl rfl rfl ?_
  refine w_st (i' := 4) (ls' := [.ref 12, .int p2, .int (nI 0)]) (st' := [.int (nI 3), .int p2, .ref 14]) (E' := E) (I' := I) (J' := J) (S' := S) am_e26 rfl rfl rfl rfl ?_
  refine w_st (i' := 5) (ls' := [.ref 12, .int p2, .int (nI 0)]) (st' := [.int (p2 * (nI 3)), .ref 14]) (E' := E) (I' := I) (J' := J) (S' := S) am_e26 rfl rfl rfl rfl ?_
  refine w_st (i' := 6) (ls' := [.ref 12, .int p2, .int (nI 0)]) (st' := [.int (nI 0), .int (p2 * (nI 3)), .ref 14]) (E' := E) (I' := I) (J' := J) (S' := S) am_e26 rfl rfl rfl rfl ?_
  refine w_st (i' := 7) (ls' := [.ref 12, .int p2, .int (nI 0)]) (st' := [.int ((p2 * (nI 3)) + (nI 0)), .ref 14]) (E' := E) (I' := I) (J' := J) (S' := S) am_e26 rfl rfl rfl rfl ?_
  have hf1 := h.1
  replace h := h.2
  refine w_ia (k := 14) (n := 192) (jn := ((p2 * (nI 3)) + (nI 0)).toNatClampNeg) am_e26 rfl rfl (by decide) hf1 rfl ?_
  refine w_ri am_e26 rfl rfl (q_mkI ?_)
  show am_ww 38 9 [.ref 77, .ref 12, .int p2, .int p3, .int (((I 77) 6) * (nI 4)), am_U, am_U] [.int ((I 14) (((p2 * (nI 3)) + (nI 0)).toNatClampNeg))] E I J S _
  refine w_var (fun w2 => am_ww 38 9 [.ref 77, .ref 12, .int p2, .int p3, .int (((I 77) 6) * (nI 4)), am_U, am_U] [.int w2] E I J S _) ((I 14) (((p2 * (nI 3)) + (nI 0)).toNatClampNeg)) (fun w2 hw2 => ?_)
  replace h := h w2 hw2
  refine w_st (i' := 10) (ls' := [.ref 77, .ref 12, .int p2, .int p3, .int (((I 77) 6) * (nI 4)), .int w2, am_U]) (st' := []) (E' := E) (I' := I) (J' := J) (S' := S) am_e38 rfl rfl rfl rfl ?_
  refine w_st (i' := 11) (ls' := [.ref 77, .ref 12, .int p2, .int p3, .int (((I 77) 6) * (nI 4)), .int w2, am_U]) (st' := [.ref 12]) (E' := E) (I' := I) (J' := J) (S' := S) am_e38 rfl rfl rfl rfl ?_
  refine w_st (i' := 12) (ls' := [.ref 77, .ref 12, .int p2, .int p3, .int (((I 77) 6) * (nI 4)), .int w2, am_U]) (st' := [.int p2, .ref 12]) (E' := E) (I' := I) (J' := J) (S' := S) am_e38 rfl rfl rfl rfl ?_
  refine w_st (i' := 13) (ls' := [.ref 77, .ref 12, .int p2, .int p3, .int (((I 77) 6) * (nI 4)), .int w2, am_U]) (st' := [.int (nI 1), .int p2, .ref 12]) (E' := E) (I' := I) (J' := J) (S' := S) am_e38 rfl rfl rfl rfl ?_
  refine w_cI am_e38 rfl rfl (as := [.ref 12, .int p2, .int (nI 1)]) (rest := []) rfl rfl ?_
  show am_ww 26 0 [.ref 12, .int p2, .int (nI 1)] [] E I J S _
  refine w_st (i' := 1) (ls' := [.ref 12, .int p2, .int (nI 1)]) (st' := [.ref 12]) (E' := E) (I' := I) (J' := J) (S' := S) am_e26 rfl rfl rfl rfl ?_
  refine w_st (i' := 2) (ls' := [.ref 12, .int p2, .int (nI 1)]) (st' := [.ref 14]) (E' := E) (I' := I) (J' := J) (S' := S) am_e26 rfl rfl rfl rfl ?_
  refine w_st (i' := 3) (ls' := [.ref 12, .int p2, .int (nI 1)]) (st' := [.int p2, .ref 14]) (E' := E) (I' := I) (J' := J) (S' := S) am_e26 rfl rfl rfl rfl ?_
  refine w_st (i' := 4) (ls' := [.ref 12, .int p2, .int (nI 1)]) (st' := [.int (nI 3), .int p2, .ref 14]) (E' := E) (I' := I) (J' := J) (S' := S) am_e26 rfl rfl rfl rfl ?_
  refine w_st (i' := 5) (ls' := [.ref 12, .int p2, .int (nI 1)]) (st' := [.int (p2 * (nI 3)), .ref 14]) (E' := E) (I' := I) (J' := J) (S' := S) am_e26 rfl rfl rfl rfl ?_
  refine w_st (i' := 6) (ls' := [.ref 12, .int p2, .int (nI 1)]) (st' := [.int (nI 1), .int (p2 * (nI 3)), .ref 14]) (E' := E) (I' := I) (J' := J) (S' := S) am_e26 rfl rfl rfl rfl ?_
  refine w_st (i' := 7) (ls' := [.ref 12, .int p2, .int (nI 1)]) (st' := [.int ((p2 * (nI 3)) + (nI 1)), .ref 14]) (E' := E) (I' := I) (J' := J) (S' := S) am_e26 rfl rfl rfl rfl ?_
  have hf3 := h.1
  replace h := h.2
  refine w_ia (k := 14) (n := 192) (jn := ((p2 * (nI 3)) + (nI 1)).toNatClampNeg) am_e26 rfl rfl (by decide) hf3 rfl ?_
  refine w_ri am_e26 rfl rfl (q_mkI ?_)
  show am_ww 38 14 [.ref 77, .ref 12, .int p2, .int p3, .int (((I 77) 6) * (nI 4)), .int w2, am_U] [.int ((I 14) (((p2 * (nI 3)) + (nI 1)).toNatClampNeg))] E I J S _
  refine w_var (fun w4 => am_ww 38 14 [.ref 77, .ref 12, .int p2, .int p3, .int (((I 77) 6) * (nI 4)), .int w2, am_U] [.int w4] E I J S _) ((I 14) (((p2 * (nI 3)) + (nI 1)).toNatClampNeg)) (fun w4 hw4 => ?_)
  replace h := h w4 hw4
  refine w_st (i' := 15) (ls' := [.ref 77, .ref 12, .int p2, .int p3, .int (((I 77) 6) * (nI 4)), .int w2, .int w4]) (st' := []) (E' := E) (I' := I) (J' := J) (S' := S) am_e38 rfl rfl rfl rfl ?_
  refine w_st (i' := 16) (ls' := [.ref 77, .ref 12, .int p2, .int p3, .int (((I 77) 6) * (nI 4)), .int w2, .int w4]) (st' := [.ref 12]) (E' := E) (I' := I) (J' := J) (S' := S) am_e38 rfl rfl rfl rfl ?_
  refine w_st (i' := 17) (ls' := [.ref 77, .ref 12, .int p2, .int p3, .int (((I 77) 6) * (nI 4)), .int w2, .int w4]) (st' := [.ref 13]) (E' := E) (I' := I) (J' := J) (S' := S) am_e38 rfl rfl rfl rfl ?_
  refine w_st (i' := 18) (ls' := [.ref 77, .ref 12, .int p2, .int p3, .int (((I 77) 6) * (nI 4)), .int w2, .int w4]) (st' := [.int p2, .ref 13]) (E' := E) (I' := I) (J' := J) (S' := S) am_e38 rfl rfl rfl rfl ?_
  have hf5 := h.1
  replace h := h.2
  refine w_ia (k := 13) (n := 64) (jn := p2.toNatClampNeg) am_e38 rfl rfl (by decide) hf5 rfl ?_
  refine w_tb am_e38 rfl ?_
  by_cases c6 : ((I 13) p2.toNatClampNeg) = nI 6
  · replace h := h.1 c6
    refine w_to (i2 := 20) (by rw [c6]; first | done | rfl) ?_
    refine w_st (i' := 21) (ls' := [.ref 77, .ref 12, .int p2, .int p3, .int (((I 77) 6) * (nI 4)), .int w2, .int w4]) (st' := [.ref 77]) (E' := E) (I' := I) (J' := J) (S' := S) am_e38 rfl rfl rfl rfl ?_
    refine w_st (i' := 22) (ls' := [.ref 77, .ref 12, .int p2, .int p3, .int (((I 77) 6) * (nI 4)), .int w2, .int w4]) (st' := [.ref 79]) (E' := E) (I' := I) (J' := J) (S' := S) am_e38 rfl rfl rfl rfl ?_
    refine w_st (i' := 23) (ls' := [.ref 77, .ref 12, .int p2, .int p3, .int (((I 77) 6) * (nI 4)), .int w2, .int w4]) (st' := [.int (((I 77) 6) * (nI 4)), .ref 79]) (E' := E) (I' := I) (J' := J) (S' := S) am_e38 rfl rfl rfl rfl ?_
    refine w_st (i' := 24) (ls' := [.ref 77, .ref 12, .int p2, .int p3, .int (((I 77) 6) * (nI 4)), .int w2, .int w4]) (st' := [.int w2, .int (((I 77) 6) * (nI 4)), .ref 79]) (E' := E) (I' := I) (J' := J) (S' := S) am_e38 rfl rfl rfl rfl ?_
    refine w_st (i' := 25) (ls' := [.ref 77, .ref 12, .int p2, .int p3, .int (((I 77) 6) * (nI 4)), .int w2, .int w4]) (st' := [.int ((((I 77) 6) * (nI 4)) + w2), .ref 79]) (E' := E) (I' := I) (J' := J) (S' := S) am_e38 rfl rfl rfl rfl ?_
    refine w_st (i' := 26) (ls' := [.ref 77, .ref 12, .int p2, .int p3, .int (((I 77) 6) * (nI 4)), .int w2, .int w4]) (st' := [.int w4, .int ((((I 77) 6) * (nI 4)) + w2), .ref 79]) (E' := E) (I' := I) (J' := J) (S' := S) am_e38 rfl rfl rfl rfl ?_
    have hf6 := h.1
    replace h := h.2
    refine w_is (k := 79) (n := 16) (jn := ((((I 77) 6) * (nI 4)) + w2).toNatClampNeg) am_e38 rfl rfl (by decide) hf6 rfl ?_
    show am_ww 38 27 [.ref 77, .ref 12, .int p2, .int p3, .int (((I 77) 6) * (nI 4)), .int w2, .int w4] [] E (u_I I 79 (upd (I 79) (((((I 77) 6) * (nI 4)) + w2).toNatClampNeg) w4)) J S _
    refine w_st (i' := 139) (ls' := [.ref 77, .ref 12, .int p2, .int p3, .int (((I 77) 6) * (nI 4)), .int w2, .int w4]) (st' := []) (E' := E) (I' := (u_I I 79 (upd (I 79) (((((I 77) 6) * (nI 4)) + w2).toNatClampNeg) w4))) (J' := J) (S' := S) am_e38 rfl rfl rfl rfl ?_
    exact w_end am_e38 rfl rfl rfl h
  by_cases c7 : ((I 13) p2.toNatClampNeg) = nI 7
  · replace h := h.2.1 c7
    refine w_to (i2 := 28) (by rw [c7]; first | done | rfl) ?_
    refine w_st (i' := 29) (ls' := [.ref 77, .ref 12, .int p2, .int p3, .int (((I 77) 6) * (nI 4)), .int w2, .int w4]) (st' := [.ref 77]) (E' := E) (I' := I) (J' := J) (S' := S) am_e38 rfl rfl rfl rfl ?_
    refine w_st (i' := 30) (ls' := [.ref 77, .ref 12, .int p2, .int p3, .int (((I 77) 6) * (nI 4)), .int w2, .int w4]) (st' := [.ref 79]) (E' := E) (I' := I) (J' := J) (S' := S) am_e38 rfl rfl rfl rfl ?_
    refine w_st (i' := 31) (ls' := [.ref 77, .ref 12, .int p2, .int p3, .int (((I 77) 6) * (nI 4)), .int w2, .int w4]) (st' := [.int (((I 77) 6) * (nI 4)), .ref 79]) (E' := E) (I' := I) (J' := J) (S' := S) am_e38 rfl rfl rfl rfl ?_
    refine w_st (i' := 32) (ls' := [.ref 77, .ref 12, .int p2, .int p3, .int (((I 77) 6) * (nI 4)), .int w2, .int w4]) (st' := [.int w2, .int (((I 77) 6) * (nI 4)), .ref 79]) (E' := E) (I' := I) (J' := J) (S' := S) am_e38 rfl rfl rfl rfl ?_
    refine w_st (i' := 33) (ls' := [.ref 77, .ref 12, .int p2, .int p3, .int (((I 77) 6) * (nI 4)), .int w2, .int w4]) (st' := [.int ((((I 77) 6) * (nI 4)) + w2), .ref 79]) (E' := E) (I' := I) (J' := J) (S' := S) am_e38 rfl rfl rfl rfl ?_
    refine w_st (i' := 34) (ls' := [.ref 77, .ref 12, .int p2, .int p3, .int (((I 77) 6) * (nI 4)), .int w2, .int w4]) (st' := [.ref 77, .int ((((I 77) 6) * (nI 4)) + w2), .ref 79]) (E' := E) (I' := I) (J' := J) (S' := S) am_e38 rfl rfl rfl rfl ?_
    refine w_st (i' := 35) (ls' := [.ref 77, .ref 12, .int p2, .int p3, .int (((I 77) 6) * (nI 4)), .int w2, .int w4]) (st' := [.ref 78, .int ((((I 77) 6) * (nI 4)) + w2), .ref 79]) (E' := E) (I' := I) (J' := J) (S' := S) am_e38 rfl rfl rfl rfl ?_
    refine w_st (i' := 36) (ls' := [.ref 77, .ref 12, .int p2, .int p3, .int (((I 77) 6) * (nI 4)), .int w2, .int w4]) (st' := [.int w4, .ref 78, .int ((((I 77) 6) * (nI 4)) + w2), .ref 79]) (E' := E) (I' := I) (J' := J) (S' := S) am_e38 rfl rfl rfl rfl ?_
    have hf7 := h.1
    replace h := h.2
    refine w_ia (k := 78) (n := 16) (jn := w4.toNatClampNeg) am_e38 rfl rfl (by decide) hf7 rfl ?_
    have hf8 := h.1
    replace h := h.2
    refine w_is (k := 79) (n := 16) (jn := ((((I 77) 6) * (nI 4)) + w2).toNatClampNeg) am_e38 rfl rfl (by decide) hf8 rfl ?_
    show am_ww 38 38 [.ref 77, .ref 12, .int p2, .int p3, .int (((I 77) 6) * (nI 4)), .int w2, .int w4] [] E (u_I I 79 (upd (I 79) (((((I 77) 6) * (nI 4)) + w2).toNatClampNeg) ((I 78) w4.toNatClampNeg))) J S _
    refine w_st (i' := 139) (ls' := [.ref 77, .ref 12, .int p2, .int p3, .int (((I 77) 6) * (nI 4)), .int w2, .int w4]) (st' := []) (E' := E) (I' := (u_I I 79 (upd (I 79) (((((I 77) 6) * (nI 4)) + w2).toNatClampNeg) ((I 78) w4.toNatClampNeg)))) (J' := J) (S' := S) am_e38 rfl rfl rfl rfl ?_
    exact w_end am_e38 rfl rfl rfl h
  by_cases c8 : ((I 13) p2.toNatClampNeg) = nI 8
  · replace h := h.2.2.1 c8
    refine w_to (i2 := 39) (by rw [c8]; first | done | rfl) ?_
    refine w_st (i' := 40) (ls' := [.ref 77, .ref 12, .int p2, .int p3, .int (((I 77) 6) * (nI 4)), .int w2, .int w4]) (st' := [.ref 77]) (E' := E) (I' := I) (J' := J) (S' := S) am_e38 rfl rfl rfl rfl ?_
    refine w_st (i' := 41) (ls' := [.ref 77, .ref 12, .int p2, .int p3, .int (((I 77) 6) * (nI 4)), .int w2, .int w4]) (st' := [.ref 78]) (E' := E) (I' := I) (J' := J) (S' := S) am_e38 rfl rfl rfl rfl ?_
    refine w_st (i' := 42) (ls' := [.ref 77, .ref 12, .int p2, .int p3, .int (((I 77) 6) * (nI 4)), .int w2, .int w4]) (st' := [.int w2, .ref 78]) (E' := E) (I' := I) (J' := J) (S' := S) am_e38 rfl rfl rfl rfl ?_
    refine w_st (i' := 43) (ls' := [.ref 77, .ref 12, .int p2, .int p3, .int (((I 77) 6) * (nI 4)), .int w2, .int w4]) (st' := [.ref 77, .int w2, .ref 78]) (E' := E) (I' := I) (J' := J) (S' := S) am_e38 rfl rfl rfl rfl ?_
    refine w_st (i' := 44) (ls' := [.ref 77, .ref 12, .int p2, .int p3, .int (((I 77) 6) * (nI 4)), .int w2, .int w4]) (st' := [.ref 79, .int w2, .ref 78]) (E' := E) (I' := I) (J' := J) (S' := S) am_e38 rfl rfl rfl rfl ?_
    refine w_st (i' := 45) (ls' := [.ref 77, .ref 12, .int p2, .int p3, .int (((I 77) 6) * (nI 4)), .int w2, .int w4]) (st' := [.int (((I 77) 6) * (nI 4)), .ref 79, .int w2, .ref 78]) (E' := E) (I' := I) (J' := J) (S' := S) am_e38 rfl rfl rfl rfl ?_
    refine w_st (i' := 46) (ls' := [.ref 77, .ref 12, .int p2, .int p3, .int (((I 77) 6) * (nI 4)), .int w2, .int w4]) (st' := [.int w4, .int (((I 77) 6) * (nI 4)), .ref 79, .int w2, .ref 78]) (E' := E) (I' := I) (J' := J) (S' := S) am_e38 rfl rfl rfl rfl ?_
    refine w_st (i' := 47) (ls' := [.ref 77, .ref 12, .int p2, .int p3, .int (((I 77) 6) * (nI 4)), .int w2, .int w4]) (st' := [.int ((((I 77) 6) * (nI 4)) + w4), .ref 79, .int w2, .ref 78]) (E' := E) (I' := I) (J' := J) (S' := S) am_e38 rfl rfl rfl rfl ?_
    have hf9 := h.1
    replace h := h.2
    refine w_ia (k := 79) (n := 16) (jn := ((((I 77) 6) * (nI 4)) + w4).toNatClampNeg) am_e38 rfl rfl (by decide) hf9 rfl ?_
    have hf10 := h.1
    replace h := h.2
    refine w_is (k := 78) (n := 16) (jn := w2.toNatClampNeg) am_e38 rfl rfl (by decide) hf10 rfl ?_
    show am_ww 38 49 [.ref 77, .ref 12, .int p2, .int p3, .int (((I 77) 6) * (nI 4)), .int w2, .int w4] [] E (u_I I 78 (upd (I 78) w2.toNatClampNeg ((I 79) (((((I 77) 6) * (nI 4)) + w4).toNatClampNeg)))) J S _
    refine w_st (i' := 139) (ls' := [.ref 77, .ref 12, .int p2, .int p3, .int (((I 77) 6) * (nI 4)), .int w2, .int w4]) (st' := []) (E' := E) (I' := (u_I I 78 (upd (I 78) w2.toNatClampNeg ((I 79) (((((I 77) 6) * (nI 4)) + w4).toNatClampNeg))))) (J' := J) (S' := S) am_e38 rfl rfl rfl rfl ?_
    exact w_end am_e38 rfl rfl rfl h
  by_cases c9 : ((I 13) p2.toNatClampNeg) = nI 9
  · replace h := h.2.2.2.1 c9
    refine w_to (i2 := 50) (by rw [c9]; first | done | rfl) ?_
    refine w_st (i' := 51) (ls' := [.ref 77, .ref 12, .int p2, .int p3, .int (((I 77) 6) * (nI 4)), .int w2, .int w4]) (st' := [.ref 77]) (E' := E) (I' := I) (J' := J) (S' := S) am_e38 rfl rfl rfl rfl ?_
    refine w_st (i' := 52) (ls' := [.ref 77, .ref 12, .int p2, .int p3, .int (((I 77) 6) * (nI 4)), .int w2, .int w4]) (st' := [.ref 79]) (E' := E) (I' := I) (J' := J) (S' := S) am_e38 rfl rfl rfl rfl ?_
    refine w_st (i' := 53) (ls' := [.ref 77, .ref 12, .int p2, .int p3, .int (((I 77) 6) * (nI 4)), .int w2, .int w4]) (st' := [.int (((I 77) 6) * (nI 4)), .ref 79]) (E' := E) (I' := I) (J' := J) (S' := S) am_e38 rfl rfl rfl rfl ?_
    refine w_st (i' := 54) (ls' := [.ref 77, .ref 12, .int p2, .int p3, .int (((I 77) 6) * (nI 4)), .int w2, .int w4]) (st' := [.int w2, .int (((I 77) 6) * (nI 4)), .ref 79]) (E' := E) (I' := I) (J' := J) (S' := S) am_e38 rfl rfl rfl rfl ?_
    refine w_st (i' := 55) (ls' := [.ref 77, .ref 12, .int p2, .int p3, .int (((I 77) 6) * (nI 4)), .int w2, .int w4]) (st' := [.int ((((I 77) 6) * (nI 4)) + w2), .ref 79]) (E' := E) (I' := I) (J' := J) (S' := S) am_e38 rfl rfl rfl rfl ?_
    refine w_st (i' := 56) (ls' := [.ref 77, .ref 12, .int p2, .int p3, .int (((I 77) 6) * (nI 4)), .int w2, .int w4]) (st' := [.int ((((I 77) 6) * (nI 4)) + w2), .ref 79, .int ((((I 77) 6) * (nI 4)) + w2), .ref 79]) (E' := E) (I' := I) (J' := J) (S' := S) am_e38 rfl rfl rfl rfl ?_
    have hf11 := h.1
    replace h := h.2
    refine w_ia (k := 79) (n := 16) (jn := ((((I 77) 6) * (nI 4)) + w2).toNatClampNeg) am_e38 rfl rfl (by decide) hf11 rfl ?_
    refine w_st (i' := 58) (ls' := [.ref 77, .ref 12, .int p2, .int p3, .int (((I 77) 6) * (nI 4)), .int w2, .int w4]) (st' := [.ref 77, .int ((I 79) (((((I 77) 6) * (nI 4)) + w2).toNatClampNeg)), .int ((((I 77) 6) * (nI 4)) + w2), .ref 79]) (E' := E) (I' := I) (J' := J) (S' := S) am_e38 rfl rfl rfl rfl ?_
    refine w_st (i' := 59) (ls' := [.ref 77, .ref 12, .int p2, .int p3, .int (((I 77) 6) * (nI 4)), .int w2, .int w4]) (st' := [.ref 79, .int ((I 79) (((((I 77) 6) * (nI 4)) + w2).toNatClampNeg)), .int ((((I 77) 6) * (nI 4)) + w2), .ref 79]) (E' := E) (I' := I) (J' := J) (S' := S) am_e38 rfl rfl rfl rfl ?_
    refine w_st (i' := 60) (ls' := [.ref 77, .ref 12, .int p2, .int p3, .int (((I 77) 6) * (nI 4)), .int w2, .int w4]) (st' := [.int (((I 77) 6) * (nI 4)), .ref 79, .int ((I 79) (((((I 77) 6) * (nI 4)) + w2).toNatClampNeg)), .int ((((I 77) 6) * (nI 4)) + w2), .ref 79]) (E' := E) (I' := I) (J' := J) (S' := S) am_e38 rfl rfl rfl rfl ?_
    refine w_st (i' := 61) (ls' := [.ref 77, .ref 12, .int p2, .int p3, .int (((I 77) 6) * (nI 4)), .int w2, .int w4]) (st' := [.int w4, .int (((I 77) 6) * (nI 4)), .ref 79, .int ((I 79) (((((I 77) 6) * (nI 4)) + w2).toNatClampNeg)), .int ((((I 77) 6) * (nI 4)) + w2), .ref 79]) (E' := E) (I' := I) (J' := J) (S' := S) am_e38 rfl rfl rfl rfl ?_
    refine w_st (i' := 62) (ls' := [.ref 77, .ref 12, .int p2, .int p3, .int (((I 77) 6) * (nI 4)), .int w2, .int w4]) (st' := [.int ((((I 77) 6) * (nI 4)) + w4), .ref 79, .int ((I 79) (((((I 77) 6) * (nI 4)) + w2).toNatClampNeg)), .int ((((I 77) 6) * (nI 4)) + w2), .ref 79]) (E' := E) (I' := I) (J' := J) (S' := S) am_e38 rfl rfl rfl rfl ?_
    have hf12 := h.1
    replace h := h.2
    refine w_ia (k := 79) (n := 16) (jn := ((((I 77) 6) * (nI 4)) + w4).toNatClampNeg) am_e38 rfl rfl (by decide) hf12 rfl ?_
    refine w_st (i' := 64) (ls' := [.ref 77, .ref 12, .int p2, .int p3, .int (((I 77) 6) * (nI 4)), .int w2, .int w4]) (st' := [.int (((I 79) (((((I 77) 6) * (nI 4)) + w2).toNatClampNeg)) + ((I 79) (((((I 77) 6) * (nI 4)) + w4).toNatClampNeg))), .int ((((I 77) 6) * (nI 4)) + w2), .ref 79]) (E' := E) (I' := I) (J' := J) (S' := S) am_e38 rfl rfl rfl rfl ?_
    refine w_is (k := 79) (n := 16) (jn := ((((I 77) 6) * (nI 4)) + w2).toNatClampNeg) am_e38 rfl rfl (by decide) hf11 rfl ?_
    show am_ww 38 65 [.ref 77, .ref 12, .int p2, .int p3, .int (((I 77) 6) * (nI 4)), .int w2, .int w4] [] E (u_I I 79 (upd (I 79) (((((I 77) 6) * (nI 4)) + w2).toNatClampNeg) (((I 79) (((((I 77) 6) * (nI 4)) + w2).toNatClampNeg)) + ((I 79) (((((I 77) 6) * (nI 4)) + w4).toNatClampNeg))))) J S _
    refine w_st (i' := 139) (ls' := [.ref 77, .ref 12, .int p2, .int p3, .int (((I 77) 6) * (nI 4)), .int w2, .int w4]) (st' := []) (E' := E) (I' := (u_I I 79 (upd (I 79) (((((I 77) 6) * (nI 4)) + w2).toNatClampNeg) (((I 79) (((((I 77) 6) * (nI 4)) + w2).toNatClampNeg)) + ((I 79) (((((I 77) 6) * (nI 4)) + w4).toNatClampNeg)))))) (J' := J) (S' := S) am_e38 rfl rfl rfl rfl ?_
    exact w_end am_e38 rfl rfl rfl h
  by_cases c10 : ((I 13) p2.toNatClampNeg) = nI 10
  · replace h := h.2.2.2.2.1 c10
    refine w_to (i2 := 66) (by rw [c10]; first | done | rfl) ?_
    refine w_st (i' := 67) (ls' := [.ref 77, .ref 12, .int p2, .int p3, .int (((I 77) 6) * (nI 4)), .int w2, .int w4]) (st' := [.ref 77]) (E' := E) (I' := I) (J' := J) (S' := S) am_e38 rfl rfl rfl rfl ?_
    refine w_st (i' := 68) (ls' := [.ref 77, .ref 12, .int p2, .int p3, .int (((I 77) 6) * (nI 4)), .int w2, .int w4]) (st' := [.ref 79]) (E' := E) (I' := I) (J' := J) (S' := S) am_e38 rfl rfl rfl rfl ?_
    refine w_st (i' := 69) (ls' := [.ref 77, .ref 12, .int p2, .int p3, .int (((I 77) 6) * (nI 4)), .int w2, .int w4]) (st' := [.int (((I 77) 6) * (nI 4)), .ref 79]) (E' := E) (I' := I) (J' := J) (S' := S) am_e38 rfl rfl rfl rfl ?_
    refine w_st (i' := 70) (ls' := [.ref 77, .ref 12, .int p2, .int p3, .int (((I 77) 6) * (nI 4)), .int w2, .int w4]) (st' := [.int w2, .int (((I 77) 6) * (nI 4)), .ref 79]) (E' := E) (I' := I) (J' := J) (S' := S) am_e38 rfl rfl rfl rfl ?_
    refine w_st (i' := 71) (ls' := [.ref 77, .ref 12, .int p2, .int p3, .int (((I 77) 6) * (nI 4)), .int w2, .int w4]) (st' := [.int ((((I 77) 6) * (nI 4)) + w2), .ref 79]) (E' := E) (I' := I) (J' := J) (S' := S) am_e38 rfl rfl rfl rfl ?_
    refine w_st (i' := 72) (ls' := [.ref 77, .ref 12, .int p2, .int p3, .int (((I 77) 6) * (nI 4)), .int w2, .int w4]) (st' := [.int ((((I 77) 6) * (nI 4)) + w2), .ref 79, .int ((((I 77) 6) * (nI 4)) + w2), .ref 79]) (E' := E) (I' := I) (J' := J) (S' := S) am_e38 rfl rfl rfl rfl ?_
    have hf13 := h.1
    replace h := h.2
    refine w_ia (k := 79) (n := 16) (jn := ((((I 77) 6) * (nI 4)) + w2).toNatClampNeg) am_e38 rfl rfl (by decide) hf13 rfl ?_
    refine w_st (i' := 74) (ls' := [.ref 77, .ref 12, .int p2, .int p3, .int (((I 77) 6) * (nI 4)), .int w2, .int w4]) (st' := [.ref 77, .int ((I 79) (((((I 77) 6) * (nI 4)) + w2).toNatClampNeg)), .int ((((I 77) 6) * (nI 4)) + w2), .ref 79]) (E' := E) (I' := I) (J' := J) (S' := S) am_e38 rfl rfl rfl rfl ?_
    refine w_st (i' := 75) (ls' := [.ref 77, .ref 12, .int p2, .int p3, .int (((I 77) 6) * (nI 4)), .int w2, .int w4]) (st' := [.ref 79, .int ((I 79) (((((I 77) 6) * (nI 4)) + w2).toNatClampNeg)), .int ((((I 77) 6) * (nI 4)) + w2), .ref 79]) (E' := E) (I' := I) (J' := J) (S' := S) am_e38 rfl rfl rfl rfl ?_
    refine w_st (i' := 76) (ls' := [.ref 77, .ref 12, .int p2, .int p3, .int (((I 77) 6) * (nI 4)), .int w2, .int w4]) (st' := [.int (((I 77) 6) * (nI 4)), .ref 79, .int ((I 79) (((((I 77) 6) * (nI 4)) + w2).toNatClampNeg)), .int ((((I 77) 6) * (nI 4)) + w2), .ref 79]) (E' := E) (I' := I) (J' := J) (S' := S) am_e38 rfl rfl rfl rfl ?_
    refine w_st (i' := 77) (ls' := [.ref 77, .ref 12, .int p2, .int p3, .int (((I 77) 6) * (nI 4)), .int w2, .int w4]) (st' := [.int w4, .int (((I 77) 6) * (nI 4)), .ref 79, .int ((I 79) (((((I 77) 6) * (nI 4)) + w2).toNatClampNeg)), .int ((((I 77) 6) * (nI 4)) + w2), .ref 79]) (E' := E) (I' := I) (J' := J) (S' := S) am_e38 rfl rfl rfl rfl ?_
    refine w_st (i' := 78) (ls' := [.ref 77, .ref 12, .int p2, .int p3, .int (((I 77) 6) * (nI 4)), .int w2, .int w4]) (st' := [.int ((((I 77) 6) * (nI 4)) + w4), .ref 79, .int ((I 79) (((((I 77) 6) * (nI 4)) + w2).toNatClampNeg)), .int ((((I 77) 6) * (nI 4)) + w2), .ref 79]) (E' := E) (I' := I) (J' := J) (S' := S) am_e38 rfl rfl rfl rfl ?_
    have hf14 := h.1
    replace h := h.2
    refine w_ia (k := 79) (n := 16) (jn := ((((I 77) 6) * (nI 4)) + w4).toNatClampNeg) am_e38 rfl rfl (by decide) hf14 rfl ?_
    refine w_st (i' := 80) (ls' := [.ref 77, .ref 12, .int p2, .int p3, .int (((I 77) 6) * (nI 4)), .int w2, .int w4]) (st' := [.int (((I 79) (((((I 77) 6) * (nI 4)) + w2).toNatClampNeg)) - ((I 79) (((((I 77) 6) * (nI 4)) + w4).toNatClampNeg))), .int ((((I 77) 6) * (nI 4)) + w2), .ref 79]) (E' := E) (I' := I) (J' := J) (S' := S) am_e38 rfl rfl rfl rfl ?_
    refine w_is (k := 79) (n := 16) (jn := ((((I 77) 6) * (nI 4)) + w2).toNatClampNeg) am_e38 rfl rfl (by decide) hf13 rfl ?_
    show am_ww 38 81 [.ref 77, .ref 12, .int p2, .int p3, .int (((I 77) 6) * (nI 4)), .int w2, .int w4] [] E (u_I I 79 (upd (I 79) (((((I 77) 6) * (nI 4)) + w2).toNatClampNeg) (((I 79) (((((I 77) 6) * (nI 4)) + w2).toNatClampNeg)) - ((I 79) (((((I 77) 6) * (nI 4)) + w4).toNatClampNeg))))) J S _
    refine w_st (i' := 139) (ls' := [.ref 77, .ref 12, .int p2, .int p3, .int (((I 77) 6) * (nI 4)), .int w2, .int w4]) (st' := []) (E' := E) (I' := (u_I I 79 (upd (I 79) (((((I 77) 6) * (nI 4)) + w2).toNatClampNeg) (((I 79) (((((I 77) 6) * (nI 4)) + w2).toNatClampNeg)) - ((I 79) (((((I 77) 6) * (nI 4)) + w4).toNatClampNeg)))))) (J' := J) (S' := S) am_e38 rfl rfl rfl rfl ?_
    exact w_end am_e38 rfl rfl rfl h
  by_cases c11 : ((I 13) p2.toNatClampNeg) = nI 11
  · replace h := h.2.2.2.2.2.1 c11
    refine w_to (i2 := 82) (by rw [c11]; first | done | rfl) ?_
    refine w_st (i' := 83) (ls' := [.ref 77, .ref 12, .int p2, .int p3, .int (((I 77) 6) * (nI 4)), .int w2, .int w4]) (st' := [.ref 77]) (E' := E) (I' := I) (J' := J) (S' := S) am_e38 rfl rfl rfl rfl ?_
    refine w_st (i' := 84) (ls' := [.ref 77, .ref 12, .int p2, .int p3, .int (((I 77) 6) * (nI 4)), .int w2, .int w4]) (st' := [.ref 79]) (E' := E) (I' := I) (J' := J) (S' := S) am_e38 rfl rfl rfl rfl ?_
    refine w_st (i' := 85) (ls' := [.ref 77, .ref 12, .int p2, .int p3, .int (((I 77) 6) * (nI 4)), .int w2, .int w4]) (st' := [.int (((I 77) 6) * (nI 4)), .ref 79]) (E' := E) (I' := I) (J' := J) (S' := S) am_e38 rfl rfl rfl rfl ?_
    refine w_st (i' := 86) (ls' := [.ref 77, .ref 12, .int p2, .int p3, .int (((I 77) 6) * (nI 4)), .int w2, .int w4]) (st' := [.int w2, .int (((I 77) 6) * (nI 4)), .ref 79]) (E' := E) (I' := I) (J' := J) (S' := S) am_e38 rfl rfl rfl rfl ?_
    refine w_st (i' := 87) (ls' := [.ref 77, .ref 12, .int p2, .int p3, .int (((I 77) 6) * (nI 4)), .int w2, .int w4]) (st' := [.int ((((I 77) 6) * (nI 4)) + w2), .ref 79]) (E' := E) (I' := I) (J' := J) (S' := S) am_e38 rfl rfl rfl rfl ?_
    refine w_st (i' := 88) (ls' := [.ref 77, .ref 12, .int p2, .int p3, .int (((I 77) 6) * (nI 4)), .int w2, .int w4]) (st' := [.int ((((I 77) 6) * (nI 4)) + w2), .ref 79, .int ((((I 77) 6) * (nI 4)) + w2), .ref 79]) (E' := E) (I' := I) (J' := J) (S' := S) am_e38 rfl rfl rfl rfl ?_
    have hf15 := h.1
    replace h := h.2
    refine w_ia (k := 79) (n := 16) (jn := ((((I 77) 6) * (nI 4)) + w2).toNatClampNeg) am_e38 rfl rfl (by decide) hf15 rfl ?_
    refine w_st (i' := 90) (ls' := [.ref 77, .ref 12, .int p2, .int p3, .int (((I 77) 6) * (nI 4)), .int w2, .int w4]) (st' := [.ref 77, .int ((I 79) (((((I 77) 6) * (nI 4)) + w2).toNatClampNeg)), .int ((((I 77) 6) * (nI 4)) + w2), .ref 79]) (E' := E) (I' := I) (J' := J) (S' := S) am_e38 rfl rfl rfl rfl ?_
    refine w_st (i' := 91) (ls' := [.ref 77, .ref 12, .int p2, .int p3, .int (((I 77) 6) * (nI 4)), .int w2, .int w4]) (st' := [.ref 79, .int ((I 79) (((((I 77) 6) * (nI 4)) + w2).toNatClampNeg)), .int ((((I 77) 6) * (nI 4)) + w2), .ref 79]) (E' := E) (I' := I) (J' := J) (S' := S) am_e38 rfl rfl rfl rfl ?_
    refine w_st (i' := 92) (ls' := [.ref 77, .ref 12, .int p2, .int p3, .int (((I 77) 6) * (nI 4)), .int w2, .int w4]) (st' := [.int (((I 77) 6) * (nI 4)), .ref 79, .int ((I 79) (((((I 77) 6) * (nI 4)) + w2).toNatClampNeg)), .int ((((I 77) 6) * (nI 4)) + w2), .ref 79]) (E' := E) (I' := I) (J' := J) (S' := S) am_e38 rfl rfl rfl rfl ?_
    refine w_st (i' := 93) (ls' := [.ref 77, .ref 12, .int p2, .int p3, .int (((I 77) 6) * (nI 4)), .int w2, .int w4]) (st' := [.int w4, .int (((I 77) 6) * (nI 4)), .ref 79, .int ((I 79) (((((I 77) 6) * (nI 4)) + w2).toNatClampNeg)), .int ((((I 77) 6) * (nI 4)) + w2), .ref 79]) (E' := E) (I' := I) (J' := J) (S' := S) am_e38 rfl rfl rfl rfl ?_
    refine w_st (i' := 94) (ls' := [.ref 77, .ref 12, .int p2, .int p3, .int (((I 77) 6) * (nI 4)), .int w2, .int w4]) (st' := [.int ((((I 77) 6) * (nI 4)) + w4), .ref 79, .int ((I 79) (((((I 77) 6) * (nI 4)) + w2).toNatClampNeg)), .int ((((I 77) 6) * (nI 4)) + w2), .ref 79]) (E' := E) (I' := I) (J' := J) (S' := S) am_e38 rfl rfl rfl rfl ?_
    have hf16 := h.1
    replace h := h.2
    refine w_ia (k := 79) (n := 16) (jn := ((((I 77) 6) * (nI 4)) + w4).toNatClampNeg) am_e38 rfl rfl (by decide) hf16 rfl ?_
    refine w_st (i' := 96) (ls' := [.ref 77, .ref 12, .int p2, .int p3, .int (((I 77) 6) * (nI 4)), .int w2, .int w4]) (st' := [.int (((I 79) (((((I 77) 6) * (nI 4)) + w2).toNatClampNeg)) * ((I 79) (((((I 77) 6) * (nI 4)) + w4).toNatClampNeg))), .int ((((I 77) 6) * (nI 4)) + w2), .ref 79]) (E' := E) (I' := I) (J' := J) (S' := S) am_e38 rfl rfl rfl rfl ?_
    refine w_is (k := 79) (n := 16) (jn := ((((I 77) 6) * (nI 4)) + w2).toNatClampNeg) am_e38 rfl rfl (by decide) hf15 rfl ?_
    show am_ww 38 97 [.ref 77, .ref 12, .int p2, .int p3, .int (((I 77) 6) * (nI 4)), .int w2, .int w4] [] E (u_I I 79 (upd (I 79) (((((I 77) 6) * (nI 4)) + w2).toNatClampNeg) (((I 79) (((((I 77) 6) * (nI 4)) + w2).toNatClampNeg)) * ((I 79) (((((I 77) 6) * (nI 4)) + w4).toNatClampNeg))))) J S _
    refine w_st (i' := 139) (ls' := [.ref 77, .ref 12, .int p2, .int p3, .int (((I 77) 6) * (nI 4)), .int w2, .int w4]) (st' := []) (E' := E) (I' := (u_I I 79 (upd (I 79) (((((I 77) 6) * (nI 4)) + w2).toNatClampNeg) (((I 79) (((((I 77) 6) * (nI 4)) + w2).toNatClampNeg)) * ((I 79) (((((I 77) 6) * (nI 4)) + w4).toNatClampNeg)))))) (J' := J) (S' := S) am_e38 rfl rfl rfl rfl ?_
    exact w_end am_e38 rfl rfl rfl h
  by_cases c12 : ((I 13) p2.toNatClampNeg) = nI 12
  · replace h := h.2.2.2.2.2.2.1 c12
    refine w_to (i2 := 98) (by rw [c12]; first | done | rfl) ?_
    refine w_st (i' := 99) (ls' := [.ref 77, .ref 12, .int p2, .int p3, .int (((I 77) 6) * (nI 4)), .int w2, .int w4]) (st' := [.ref 77]) (E' := E) (I' := I) (J' := J) (S' := S) am_e38 rfl rfl rfl rfl ?_
    refine w_st (i' := 100) (ls' := [.ref 77, .ref 12, .int p2, .int p3, .int (((I 77) 6) * (nI 4)), .int w2, .int w4]) (st' := [.ref 79]) (E' := E) (I' := I) (J' := J) (S' := S) am_e38 rfl rfl rfl rfl ?_
    refine w_st (i' := 101) (ls' := [.ref 77, .ref 12, .int p2, .int p3, .int (((I 77) 6) * (nI 4)), .int w2, .int w4]) (st' := [.int (((I 77) 6) * (nI 4)), .ref 79]) (E' := E) (I' := I) (J' := J) (S' := S) am_e38 rfl rfl rfl rfl ?_
    refine w_st (i' := 102) (ls' := [.ref 77, .ref 12, .int p2, .int p3, .int (((I 77) 6) * (nI 4)), .int w2, .int w4]) (st' := [.int w2, .int (((I 77) 6) * (nI 4)), .ref 79]) (E' := E) (I' := I) (J' := J) (S' := S) am_e38 rfl rfl rfl rfl ?_
    refine w_st (i' := 103) (ls' := [.ref 77, .ref 12, .int p2, .int p3, .int (((I 77) 6) * (nI 4)), .int w2, .int w4]) (st' := [.int ((((I 77) 6) * (nI 4)) + w2), .ref 79]) (E' := E) (I' := I) (J' := J) (S' := S) am_e38 rfl rfl rfl rfl ?_
    refine w_st (i' := 104) (ls' := [.ref 77, .ref 12, .int p2, .int p3, .int (((I 77) 6) * (nI 4)), .int w2, .int w4]) (st' := [.int p3, .int ((((I 77) 6) * (nI 4)) + w2), .ref 79]) (E' := E) (I' := I) (J' := J) (S' := S) am_e38 rfl rfl rfl rfl ?_
    have hf17 := h.1
    replace h := h.2
    refine w_is (k := 79) (n := 16) (jn := ((((I 77) 6) * (nI 4)) + w2).toNatClampNeg) am_e38 rfl rfl (by decide) hf17 rfl ?_
    show am_ww 38 105 [.ref 77, .ref 12, .int p2, .int p3, .int (((I 77) 6) * (nI 4)), .int w2, .int w4] [] E (u_I I 79 (upd (I 79) (((((I 77) 6) * (nI 4)) + w2).toNatClampNeg) p3)) J S _
    refine w_st (i' := 106) (ls' := [.ref 77, .ref 12, .int p2, .int p3, .int (((I 77) 6) * (nI 4)), .int w2, .int w4]) (st' := [.ref 77]) (E' := E) (I' := (u_I I 79 (upd (I 79) (((((I 77) 6) * (nI 4)) + w2).toNatClampNeg) p3))) (J' := J) (S' := S) am_e38 rfl rfl rfl rfl ?_
    refine w_st (i' := 107) (ls' := [.ref 77, .ref 12, .int p2, .int p3, .int (((I 77) 6) * (nI 4)), .int w2, .int w4]) (st' := [.ref 83]) (E' := E) (I' := (u_I I 79 (upd (I 79) (((((I 77) 6) * (nI 4)) + w2).toNatClampNeg) p3))) (J' := J) (S' := S) am_e38 rfl rfl rfl rfl ?_
    refine w_st (i' := 108) (ls' := [.ref 77, .ref 12, .int p2, .int p3, .int (((I 77) 6) * (nI 4)), .int w2, .int w4]) (st' := [.int w4, .ref 83]) (E' := E) (I' := (u_I I 79 (upd (I 79) (((((I 77) 6) * (nI 4)) + w2).toNatClampNeg) p3))) (J' := J) (S' := S) am_e38 rfl rfl rfl rfl ?_
    refine w_st (i' := 109) (ls' := [.ref 77, .ref 12, .int p2, .int p3, .int (((I 77) 6) * (nI 4)), .int w2, .int w4]) (st' := [.int w4, .ref 83, .int w4, .ref 83]) (E' := E) (I' := (u_I I 79 (upd (I 79) (((((I 77) 6) * (nI 4)) + w2).toNatClampNeg) p3))) (J' := J) (S' := S) am_e38 rfl rfl rfl rfl ?_
    have hf18 := h.1
    replace h := h.2
    refine w_ia (k := 83) (n := 3) (jn := w4.toNatClampNeg) am_e38 rfl rfl (by decide) hf18 rfl ?_
    show am_ww 38 110 [.ref 77, .ref 12, .int p2, .int p3, .int (((I 77) 6) * (nI 4)), .int w2, .int w4] [.int ((I 83) w4.toNatClampNeg), .int w4, .ref 83] E (u_I I 79 (upd (I 79) (((((I 77) 6) * (nI 4)) + w2).toNatClampNeg) p3)) J S _
    refine w_st (i' := 111) (ls' := [.ref 77, .ref 12, .int p2, .int p3, .int (((I 77) 6) * (nI 4)), .int w2, .int w4]) (st' := [.int (nI 1), .int ((I 83) w4.toNatClampNeg), .int w4, .ref 83]) (E' := E) (I' := (u_I I 79 (upd (I 79) (((((I 77) 6) * (nI 4)) + w2).toNatClampNeg) p3))) (J' := J) (S' := S) am_e38 rfl rfl rfl rfl ?_
    refine w_st (i' := 112) (ls' := [.ref 77, .ref 12, .int p2, .int p3, .int (((I 77) 6) * (nI 4)), .int w2, .int w4]) (st' := [.int (((I 83) w4.toNatClampNeg) + (nI 1)), .int w4, .ref 83]) (E' := E) (I' := (u_I I 79 (upd (I 79) (((((I 77) 6) * (nI 4)) + w2).toNatClampNeg) p3))) (J' := J) (S' := S) am_e38 rfl rfl rfl rfl ?_
    refine w_is (k := 83) (n := 3) (jn := w4.toNatClampNeg) am_e38 rfl rfl (by decide) hf18 rfl ?_
    show am_ww 38 113 [.ref 77, .ref 12, .int p2, .int p3, .int (((I 77) 6) * (nI 4)), .int w2, .int w4] [] E (u_I (u_I I 79 (upd (I 79) (((((I 77) 6) * (nI 4)) + w2).toNatClampNeg) p3)) 83 (upd (I 83) w4.toNatClampNeg (((I 83) w4.toNatClampNeg) + (nI 1)))) J S _
    refine w_st (i' := 139) (ls' := [.ref 77, .ref 12, .int p2, .int p3, .int (((I 77) 6) * (nI 4)), .int w2, .int w4]) (st' := []) (E' := E) (I' := (u_I (u_I I 79 (upd (I 79) (((((I 77) 6) * (nI 4)) + w2).toNatClampNeg) p3)) 83 (upd (I 83) w4.toNatClampNeg (((I 83) w4.toNatClampNeg) + (nI 1))))) (J' := J) (S' := S) am_e38 rfl rfl rfl rfl ?_
    exact w_end am_e38 rfl rfl rfl h
  by_cases c13 : ((I 13) p2.toNatClampNeg) = nI 13
  · replace h := h.2.2.2.2.2.2.2.1 c13
    refine w_to (i2 := 114) (by rw [c13]; first | done | rfl) ?_
    refine w_st (i' := 115) (ls' := [.ref 77, .ref 12, .int p2, .int p3, .int (((I 77) 6) * (nI 4)), .int w2, .int w4]) (st' := [.ref 77]) (E' := E) (I' := I) (J' := J) (S' := S) am_e38 rfl rfl rfl rfl ?_
    refine w_st (i' := 116) (ls' := [.ref 77, .ref 12, .int p2, .int p3, .int (((I 77) 6) * (nI 4)), .int w2, .int w4]) (st' := [.ref 82]) (E' := E) (I' := I) (J' := J) (S' := S) am_e38 rfl rfl rfl rfl ?_
    refine w_st (i' := 117) (ls' := [.ref 77, .ref 12, .int p2, .int p3, .int (((I 77) 6) * (nI 4)), .int w2, .int w4]) (st' := [.int w2, .ref 82]) (E' := E) (I' := I) (J' := J) (S' := S) am_e38 rfl rfl rfl rfl ?_
    refine w_st (i' := 118) (ls' := [.ref 77, .ref 12, .int p2, .int p3, .int (((I 77) 6) * (nI 4)), .int w2, .int w4]) (st' := [.ref 77, .int w2, .ref 82]) (E' := E) (I' := I) (J' := J) (S' := S) am_e38 rfl rfl rfl rfl ?_
    refine w_st (i' := 119) (ls' := [.ref 77, .ref 12, .int p2, .int p3, .int (((I 77) 6) * (nI 4)), .int w2, .int w4]) (st' := [.int ((I 77) 6), .int w2, .ref 82]) (E' := E) (I' := I) (J' := J) (S' := S) am_e38 rfl rfl rfl rfl ?_
    have hf19 := h.1
    replace h := h.2
    refine w_is (k := 82) (n := 4) (jn := w2.toNatClampNeg) am_e38 rfl rfl (by decide) hf19 rfl ?_
    show am_ww 38 120 [.ref 77, .ref 12, .int p2, .int p3, .int (((I 77) 6) * (nI 4)), .int w2, .int w4] [] E (u_I I 82 (upd (I 82) w2.toNatClampNeg ((I 77) 6))) J S _
    refine w_st (i' := 139) (ls' := [.ref 77, .ref 12, .int p2, .int p3, .int (((I 77) 6) * (nI 4)), .int w2, .int w4]) (st' := []) (E' := E) (I' := (u_I I 82 (upd (I 82) w2.toNatClampNeg ((I 77) 6)))) (J' := J) (S' := S) am_e38 rfl rfl rfl rfl ?_
    exact w_end am_e38 rfl rfl rfl h
  by_cases c14 : ((I 13) p2.toNatClampNeg) = nI 14
  · replace h := h.2.2.2.2.2.2.2.2.1 c14
    refine w_to (i2 := 121) (by rw [c14]; first | done | rfl) ?_
    refine w_st (i' := 122) (ls' := [.ref 77, .ref 12, .int p2, .int p3, .int (((I 77) 6) * (nI 4)), .int w2, .int w4]) (st' := [.ref 77]) (E' := E) (I' := I) (J' := J) (S' := S) am_e38 rfl rfl rfl rfl ?_
    refine w_st (i' := 123) (ls' := [.ref 77, .ref 12, .int p2, .int p3, .int (((I 77) 6) * (nI 4)), .int w2, .int w4]) (st' := [.ref 82]) (E' := E) (I' := I) (J' := J) (S' := S) am_e38 rfl rfl rfl rfl ?_
    refine w_st (i' := 124) (ls' := [.ref 77, .ref 12, .int p2, .int p3, .int (((I 77) 6) * (nI 4)), .int w2, .int w4]) (st' := [.int w2, .ref 82]) (E' := E) (I' := I) (J' := J) (S' := S) am_e38 rfl rfl rfl rfl ?_
    refine w_st (i' := 125) (ls' := [.ref 77, .ref 12, .int p2, .int p3, .int (((I 77) 6) * (nI 4)), .int w2, .int w4]) (st' := [.ref 77, .int w2, .ref 82]) (E' := E) (I' := I) (J' := J) (S' := S) am_e38 rfl rfl rfl rfl ?_
    refine w_st (i' := 126) (ls' := [.ref 77, .ref 12, .int p2, .int p3, .int (((I 77) 6) * (nI 4)), .int w2, .int w4]) (st' := [.ref 82, .int w2, .ref 82]) (E' := E) (I' := I) (J' := J) (S' := S) am_e38 rfl rfl rfl rfl ?_
    refine w_st (i' := 127) (ls' := [.ref 77, .ref 12, .int p2, .int p3, .int (((I 77) 6) * (nI 4)), .int w2, .int w4]) (st' := [.int w2, .ref 82, .int w2, .ref 82]) (E' := E) (I' := I) (J' := J) (S' := S) am_e38 rfl rfl rfl rfl ?_
    have hf20 := h.1
    replace h := h.2
    refine w_ia (k := 82) (n := 4) (jn := w2.toNatClampNeg) am_e38 rfl rfl (by decide) hf20 rfl ?_
    refine w_st (i' := 129) (ls' := [.ref 77, .ref 12, .int p2, .int p3, .int (((I 77) 6) * (nI 4)), .int w2, .int w4]) (st' := [.ref 77, .int ((I 82) w2.toNatClampNeg), .int w2, .ref 82]) (E' := E) (I' := I) (J' := J) (S' := S) am_e38 rfl rfl rfl rfl ?_
    refine w_st (i' := 130) (ls' := [.ref 77, .ref 12, .int p2, .int p3, .int (((I 77) 6) * (nI 4)), .int w2, .int w4]) (st' := [.int ((I 77) 6), .int ((I 82) w2.toNatClampNeg), .int w2, .ref 82]) (E' := E) (I' := I) (J' := J) (S' := S) am_e38 rfl rfl rfl rfl ?_
    refine w_mg (i := 137) (ls' := [.ref 77, .ref 12, .int p2, .int p3, .int (((I 77) 6) * (nI 4)), .int w2, .int w4]) (st' := [.int (if ((I 82) w2.toNatClampNeg) = ((I 77) 6) then (-1) else ((I 82) w2.toNatClampNeg)), .int w2, .ref 82]) (fun hm => ?_) ?_
    · clear h
      refine w_if2 am_e38 rfl rfl (fun c => ?_) (fun c => ?_)
      · have m21 : ¬ (((I 82) w2.toNatClampNeg) = ((I 77) 6)) := (of_decide_eq_true c)
        refine w_st (i' := 134) (ls' := [.ref 77, .ref 12, .int p2, .int p3, .int (((I 77) 6) * (nI 4)), .int w2, .int w4]) (st' := [.ref 77, .int w2, .ref 82]) (E' := E) (I' := I) (J' := J) (S' := S) am_e38 rfl rfl rfl rfl ?_
        refine w_st (i' := 135) (ls' := [.ref 77, .ref 12, .int p2, .int p3, .int (((I 77) 6) * (nI 4)), .int w2, .int w4]) (st' := [.ref 82, .int w2, .ref 82]) (E' := E) (I' := I) (J' := J) (S' := S) am_e38 rfl rfl rfl rfl ?_
        refine w_st (i' := 136) (ls' := [.ref 77, .ref 12, .int p2, .int p3, .int (((I 77) 6) * (nI 4)), .int w2, .int w4]) (st' := [.int w2, .ref 82, .int w2, .ref 82]) (E' := E) (I' := I) (J' := J) (S' := S) am_e38 rfl rfl rfl rfl ?_
        refine w_ia (k := 82) (n := 4) (jn := w2.toNatClampNeg) am_e38 rfl rfl (by decide) hf20 rfl ?_
        show am_ww 38 137 [.ref 77, .ref 12, .int p2, .int p3, .int (((I 77) 6) * (nI 4)), .int w2, .int w4] [.int ((I 82) w2.toNatClampNeg), .int w2, .ref 82] E I J S _
        first | exact hm | (simp only [if_neg m21] at hm; exact hm)
      · have m21 : ((I 82) w2.toNatClampNeg) = ((I 77) 6) := (Decidable.not_not.mp (of_decide_eq_false c))
        refine w_st (i' := 132) (ls' := [.ref 77, .ref 12, .int p2, .int p3, .int (((I 77) 6) * (nI 4)), .int w2, .int w4]) (st' := [.int (-1), .int w2, .ref 82]) (E' := E) (I' := I) (J' := J) (S' := S) am_e38 rfl rfl rfl rfl ?_
        refine w_st (i' := 137) (ls' := [.ref 77, .ref 12, .int p2, .int p3, .int (((I 77) 6) * (nI 4)), .int w2, .int w4]) (st' := [.int (-1), .int w2, .ref 82]) (E' := E) (I' := I) (J' := J) (S' := S) am_e38 rfl rfl rfl rfl ?_
        first | exact hm | (simp only [if_pos m21] at hm; exact hm)
    refine w_var (fun w22 => am_ww 38 137 [.ref 77, .ref 12, .int p2, .int p3, .int (((I 77) 6) * (nI 4)), .int w2, .int w4] [.int w22, .int w2, .ref 82] E I J S _) (if ((I 82) w2.toNatClampNeg) = ((I 77) 6) then (-1) else ((I 82) w2.toNatClampNeg)) (fun w22 hw22 => ?_)
    replace h := h w22 hw22
    refine w_is (k := 82) (n := 4) (jn := w2.toNatClampNeg) am_e38 rfl rfl (by decide) hf20 rfl ?_
    show am_ww 38 138 [.ref 77, .ref 12, .int p2, .int p3, .int (((I 77) 6) * (nI 4)), .int w2, .int w4] [] E (u_I I 82 (upd (I 82) w2.toNatClampNeg w22)) J S _
    refine w_st (i' := 139) (ls' := [.ref 77, .ref 12, .int p2, .int p3, .int (((I 77) 6) * (nI 4)), .int w2, .int w4]) (st' := []) (E' := E) (I' := (u_I I 82 (upd (I 82) w2.toNatClampNeg w22))) (J' := J) (S' := S) am_e38 rfl rfl rfl rfl ?_
    exact w_end am_e38 rfl rfl rfl h
  replace h := h.2.2.2.2.2.2.2.2.2 c6 c7 c8 c9 c10 c11 c12 c13 c14
  refine w_to (i2 := 139) (am_tb_out (lo := 6) (up := 14) (by intro q h1 h2; have : q = 6 ∨ q = 7 ∨ q = 8 ∨ q = 9 ∨ q = 10 ∨ q = 11 ∨ q = 12 ∨ q = 13 ∨ q = 14 := (by omega); rcases this with rfl | rfl | rfl | rfl | rfl | rfl | rfl | rfl | rfl <;> assumption)) ?_
  exact w_end am_e38 rfl rfl rfl h
-- 22 countAble
theorem g22_0_20  {E : am_Ev} {I : Nat → Nat → Int32} {J : Nat → Nat → Int64} {S : Nat → Nat → Option Nat} {Q : am_Qt}  (h : am_ww 22 4 [.ref 20, .ref 12, .ref 28, .int (nI 0), .int (nI 0)] [] E I J S Q) : am_ww 22 0 [.ref 20, .ref 12, .ref 28, am_U, am_U] [] E I J S Q := by
  refine w_st (i' := 1) (ls' := [.ref 20, .ref 12, .ref 28, am_U, am_U]) (st' := [.int (nI 0)]) (E' := E) (I' := I) (J' := J) (S' := S) am_e22 rfl rfl rfl rfl ?_
  refine w_st (i' := 2) (ls' := [.ref 20, .ref 12, .ref 28, .int (nI 0), am_U]) (st' := []) (E' := E) (I' := I) (J' := J) (S' := S) am_e22 rfl rfl rfl rfl ?_
  refine w_st (i' := 3) (ls' := [.ref 20, .ref 12, .ref 28, .int (nI 0), am_U]) (st' := [.int (nI 0)]) (E' := E) (I' := I) (J' := J) (S' := S) am_e22 rfl rfl rfl rfl ?_
  refine w_st (i' := 4) (ls' := [.ref 20, .ref 12, .ref 28, .int (nI 0), .int (nI 0)]) (st' := []) (E' := E) (I' := I) (J' := J) (S' := S) am_e22 rfl rfl rfl rfl ?_
  exact h
theorem g22_4_20 {x3 : Int32} {x4 : Int32} {E : am_Ev} {I : Nat → Nat → Int32} {J : Nat → Nat → Int64} {S : Nat → Nat → Option Nat} {Q : am_Qt}  (h : (((I 12) 5) ≤ x4 → (Q (.inl (some (.int x3))) E I J S)) ∧ (¬ ((I 12) 5) ≤ x4 → (am_cl 23 [.ref 20, .ref 12, .int x4, .ref 28] E I J S (q_I fun v1 E1 I1 J1 S1 => (v1 = 0 → (am_ww 22 4 [.ref 20, .ref 12, .ref 28, .int x3, .int (x4 + nI 1)] [] E1 I1 J1 S1 Q)) ∧ (¬ v1 = 0 → (am_ww 22 4 [.ref 20, .ref 12, .ref 28, .int (x3 + nI 1), .int (x4 + nI 1)] [] E1 I1 J1 S1 Q)))))) : am_ww 22 4 [.ref 20, .ref 12, .ref 28, .int x3, .int x4] [] E I J S Q := by
  refine w_st (i' := 5) (ls' := [.ref 20, .ref 12, .ref 28, .int x3, .int x4]) (st' := [.int x4]) (E' := E) (I' := I) (J' := J) (S' := S) am_e22 rfl rfl rfl rfl ?_
  refine w_st (i' := 6) (ls' := [.ref 20, .ref 12, .ref 28, .int x3, .int x4]) (st' := [.ref 12, .int x4]) (E' := E) (I' := I) (J' := J) (S' := S) am_e22 rfl rfl rfl rfl ?_
  refine w_st (i' := 7) (ls' := [.ref 20, .ref 12, .ref 28, .int x3, .int x4]) (st' := [.int ((I 12) 5), .int x4]) (E' := E) (I' := I) (J' := J) (S' := S) am_e22 rfl rfl rfl rfl ?_
  refine w_if2 am_e22 rfl rfl (fun c => ?_) (fun c => ?_)
  · replace h := h.1 (of_decide_eq_true c)
    refine w_st (i' := 18) (ls' := [.ref 20, .ref 12, .ref 28, .int x3, .int x4]) (st' := [.int x3]) (E' := E) (I' := I) (J' := J) (S' := S) am_e22 rfl rfl rfl rfl ?_
    exact w_ri am_e22 rfl rfl h
  · replace h := h.2 (of_decide_eq_false c)
    refine w_st (i' := 9) (ls' := [.ref 20, .ref 12, .ref 28, .int x3, .int x4]) (st' := [.ref 20]) (E' := E) (I' := I) (J' := J) (S' := S) am_e22 rfl rfl rfl rfl ?_
    refine w_st (i' := 10) (ls' := [.ref 20, .ref 12, .ref 28, .int x3, .int x4]) (st' := [.ref 12, .ref 20]) (E' := E) (I' := I) (J' := J) (S' := S) am_e22 rfl rfl rfl rfl ?_
    refine w_st (i' := 11) (ls' := [.ref 20, .ref 12, .ref 28, .int x3, .int x4]) (st' := [.int x4, .ref 12, .ref 20]) (E' := E) (I' := I) (J' := J) (S' := S) am_e22 rfl rfl rfl rfl ?_
    refine w_st (i' := 12) (ls' := [.ref 20, .ref 12, .ref 28, .int x3, .int x4]) (st' := [.ref 28, .int x4, .ref 12, .ref 20]) (E' := E) (I' := I) (J' := J) (S' := S) am_e22 rfl rfl rfl rfl ?_
    refine w_cI am_e22 rfl rfl (as := [.ref 20, .ref 12, .int x4, .ref 28]) (rest := []) rfl rfl (am_ww.mono h ?_)
    rintro _ E1 I1 J1 S1 ⟨v1, rfl, h⟩
    refine q_mkI ?_
    refine w_if1 am_e22 rfl rfl (fun c => ?_) (fun c => ?_)
    · replace h := h.1 (of_decide_eq_true c)
      refine w_st (i' := 16) (ls' := [.ref 20, .ref 12, .ref 28, .int x3, .int (x4 + nI 1)]) (st' := []) (E' := E1) (I' := I1) (J' := J1) (S' := S1) am_e22 rfl rfl rfl rfl ?_
      refine w_st (i' := 4) (ls' := [.ref 20, .ref 12, .ref 28, .int x3, .int (x4 + nI 1)]) (st' := []) (E' := E1) (I' := I1) (J' := J1) (S' := S1) am_e22 rfl rfl rfl rfl ?_
      exact h
    · replace h := h.2 (of_decide_eq_false c)
      refine w_st (i' := 15) (ls' := [.ref 20, .ref 12, .ref 28, .int (x3 + nI 1), .int x4]) (st' := []) (E' := E1) (I' := I1) (J' := J1) (S' := S1) am_e22 rfl rfl rfl rfl ?_
      refine w_st (i' := 16) (ls' := [.ref 20, .ref 12, .ref 28, .int (x3 + nI 1), .int (x4 + nI 1)]) (st' := []) (E' := E1) (I' := I1) (J' := J1) (S' := S1) am_e22 rfl rfl rfl rfl ?_
      refine w_st (i' := 4) (ls' := [.ref 20, .ref 12, .ref 28, .int (x3 + nI 1), .int (x4 + nI 1)]) (st' := []) (E' := E1) (I' := I1) (J' := J1) (S' := S1) am_e22 rfl rfl rfl rfl ?_
      exact h
-- 22 countAble
theorem g22_0_77  {E : am_Ev} {I : Nat → Nat → Int32} {J : Nat → Nat → Int64} {S : Nat → Nat → Option Nat} {Q : am_Qt}  (h : am_ww 22 4 [.ref 77, .ref 12, .ref 28, .int (nI 0), .int (nI 0)] [] E I J S Q) : am_ww 22 0 [.ref 77, .ref 12, .ref 28, am_U, am_U] [] E I J S Q := by
  refine w_st (i' := 1) (ls' := [.ref 77, .ref 12, .ref 28, am_U, am_U]) (st' := [.int (nI 0)]) (E' := E) (I' := I) (J' := J) (S' := S) am_e22 rfl rfl rfl rfl ?_
  refine w_st (i' := 2) (ls' := [.ref 77, .ref 12, .ref 28, .int (nI 0), am_U]) (st' := []) (E' := E) (I' := I) (J' := J) (S' := S) am_e22 rfl rfl rfl rfl ?_
  refine w_st (i' := 3) (ls' := [.ref 77, .ref 12, .ref 28, .int (nI 0), am_U]) (st' := [.int (nI 0)]) (E' := E) (I' := I) (J' := J) (S' := S) am_e22 rfl rfl rfl rfl ?_
  refine w_st (i' := 4) (ls' := [.ref 77, .ref 12, .ref 28, .int (nI 0), .int (nI 0)]) (st' := []) (E' := E) (I' := I) (J' := J) (S' := S) am_e22 rfl rfl rfl rfl ?_
  exact h
theorem g22_4_77 {x3 : Int32} {x4 : Int32} {E : am_Ev} {I : Nat → Nat → Int32} {J : Nat → Nat → Int64} {S : Nat → Nat → Option Nat} {Q : am_Qt}  (h : (((I 12) 5) ≤ x4 → (Q (.inl (some (.int x3))) E I J S)) ∧ (¬ ((I 12) 5) ≤ x4 → (am_cl 23 [.ref 77, .ref 12, .int x4, .ref 28] E I J S (q_I fun v1 E1 I1 J1 S1 => (v1 = 0 → (am_ww 22 4 [.ref 77, .ref 12, .ref 28, .int x3, .int (x4 + nI 1)] [] E1 I1 J1 S1 Q)) ∧ (¬ v1 = 0 → (am_ww 22 4 [.ref 77, .ref 12, .ref 28, .int (x3 + nI 1), .int (x4 + nI 1)] [] E1 I1 J1 S1 Q)))))) : am_ww 22 4 [.ref 77, .ref 12, .ref 28, .int x3, .int x4] [] E I J S Q := by
  refine w_st (i' := 5) (ls' := [.ref 77, .ref 12, .ref 28, .int x3, .int x4]) (st' := [.int x4]) (E' := E) (I' := I) (J' := J) (S' := S) am_e22 rfl rfl rfl rfl ?_
  refine w_st (i' := 6) (ls' := [.ref 77, .ref 12, .ref 28, .int x3, .int x4]) (st' := [.ref 12, .int x4]) (E' := E) (I' := I) (J' := J) (S' := S) am_e22 rfl rfl rfl rfl ?_
  refine w_st (i' := 7) (ls' := [.ref 77, .ref 12, .ref 28, .int x3, .int x4]) (st' := [.int ((I 12) 5), .int x4]) (E' := E) (I' := I) (J' := J) (S' := S) am_e22 rfl rfl rfl rfl ?_
  refine w_if2 am_e22 rfl rfl (fun c => ?_) (fun c => ?_)
  · replace h := h.1 (of_decide_eq_true c)
    refine w_st (i' := 18) (ls' := [.ref 77, .ref 12, .ref 28, .int x3, .int x4]) (st' := [.int x3]) (E' := E) (I' := I) (J' := J) (S' := S) am_e22 rfl rfl rfl rfl ?_
    exact w_ri am_e22 rfl rfl h
  · replace h := h.2 (of_decide_eq_false c)
    refine w_st (i' := 9) (ls' := [.ref 77, .ref 12, .ref 28, .int x3, .int x4]) (st' := [.ref 77]) (E' := E) (I' := I) (J' := J) (S' := S) am_e22 rfl rfl rfl rfl ?_
    refine w_st (i' := 10) (ls' := [.ref 77, .ref 12, .ref 28, .int x3, .int x4]) (st' := [.ref 12, .ref 77]) (E' := E) (I' := I) (J' := J) (S' := S) am_e22 rfl rfl rfl rfl ?_
    refine w_st (i' := 11) (ls' := [.ref 77, .ref 12, .ref 28, .int x3, .int x4]) (st' := [.int x4, .ref 12, .ref 77]) (E' := E) (I' := I) (J' := J) (S' := S) am_e22 rfl rfl rfl rfl ?_
    refine w_st (i' := 12) (ls' := [.ref 77, .ref 12, .ref 28, .int x3, .int x4]) (st' := [.ref 28, .int x4, .ref 12, .ref 77]) (E' := E) (I' := I) (J' := J) (S' := S) am_e22 rfl rfl rfl rfl ?_
    refine w_cI am_e22 rfl rfl (as := [.ref 77, .ref 12, .int x4, .ref 28]) (rest := []) rfl rfl (am_ww.mono h ?_)
    rintro _ E1 I1 J1 S1 ⟨v1, rfl, h⟩
    refine q_mkI ?_
    refine w_if1 am_e22 rfl rfl (fun c => ?_) (fun c => ?_)
    · replace h := h.1 (of_decide_eq_true c)
      refine w_st (i' := 16) (ls' := [.ref 77, .ref 12, .ref 28, .int x3, .int (x4 + nI 1)]) (st' := []) (E' := E1) (I' := I1) (J' := J1) (S' := S1) am_e22 rfl rfl rfl rfl ?_
      refine w_st (i' := 4) (ls' := [.ref 77, .ref 12, .ref 28, .int x3, .int (x4 + nI 1)]) (st' := []) (E' := E1) (I' := I1) (J' := J1) (S' := S1) am_e22 rfl rfl rfl rfl ?_
      exact h
    · replace h := h.2 (of_decide_eq_false c)
      refine w_st (i' := 15) (ls' := [.ref 77, .ref 12, .ref 28, .int (x3 + nI 1), .int x4]) (st' := []) (E' := E1) (I' := I1) (J' := J1) (S' := S1) am_e22 rfl rfl rfl rfl ?_
      refine w_st (i' := 16) (ls' := [.ref 77, .ref 12, .ref 28, .int (x3 + nI 1), .int (x4 + nI 1)]) (st' := []) (E' := E1) (I' := I1) (J' := J1) (S' := S1) am_e22 rfl rfl rfl rfl ?_
      refine w_st (i' := 4) (ls' := [.ref 77, .ref 12, .ref 28, .int (x3 + nI 1), .int (x4 + nI 1)]) (st' := []) (E' := E1) (I' := I1) (J' := J1) (S' := S1) am_e22 rfl rfl rfl rfl ?_
      exact h
-- 100 countEnded
theorem g100_0_20  {E : am_Ev} {I : Nat → Nat → Int32} {J : Nat → Nat → Int64} {S : Nat → Nat → Option Nat} {Q : am_Qt}  (h : am_ww 100 4 [.ref 20, .ref 12, .int (nI 0), .int (nI 0)] [] E I J S Q) : am_ww 100 0 [.ref 20, .ref 12, am_U, am_U] [] E I J S Q := by
  refine w_st (i' := 1) (ls' := [.ref 20, .ref 12, am_U, am_U]) (st' := [.int (nI 0)]) (E' := E) (I' := I) (J' := J) (S' := S) am_e100 rfl rfl rfl rfl ?_
  refine w_st (i' := 2) (ls' := [.ref 20, .ref 12, .int (nI 0), am_U]) (st' := []) (E' := E) (I' := I) (J' := J) (S' := S) am_e100 rfl rfl rfl rfl ?_
  refine w_st (i' := 3) (ls' := [.ref 20, .ref 12, .int (nI 0), am_U]) (st' := [.int (nI 0)]) (E' := E) (I' := I) (J' := J) (S' := S) am_e100 rfl rfl rfl rfl ?_
  refine w_st (i' := 4) (ls' := [.ref 20, .ref 12, .int (nI 0), .int (nI 0)]) (st' := []) (E' := E) (I' := I) (J' := J) (S' := S) am_e100 rfl rfl rfl rfl ?_
  exact h
theorem g100_4_20 {x2 : Int32} {x3 : Int32} {E : am_Ev} {I : Nat → Nat → Int32} {J : Nat → Nat → Int64} {S : Nat → Nat → Option Nat} {Q : am_Qt}  (h : (((I 12) 5) ≤ x3 → (Q (.inl (some (.int x2))) E I J S)) ∧ (¬ ((I 12) 5) ≤ x3 → (vp_in x3 4 ∧ ((((I 23) x3.toNatClampNeg) < ((I 15) x3.toNatClampNeg) → (am_ww 100 4 [.ref 20, .ref 12, .int x2, .int (x3 + nI 1)] [] E I J S Q)) ∧ (¬ ((I 23) x3.toNatClampNeg) < ((I 15) x3.toNatClampNeg) → (am_ww 100 4 [.ref 20, .ref 12, .int (x2 + nI 1), .int (x3 + nI 1)] [] E I J S Q)))))) : am_ww 100 4 [.ref 20, .ref 12, .int x2, .int x3] [] E I J S Q := by
  refine w_st (i' := 5) (ls' := [.ref 20, .ref 12, .int x2, .int x3]) (st' := [.int x3]) (E' := E) (I' := I) (J' := J) (S' := S) am_e100 rfl rfl rfl rfl ?_
  refine w_st (i' := 6) (ls' := [.ref 20, .ref 12, .int x2, .int x3]) (st' := [.ref 12, .int x3]) (E' := E) (I' := I) (J' := J) (S' := S) am_e100 rfl rfl rfl rfl ?_
  refine w_st (i' := 7) (ls' := [.ref 20, .ref 12, .int x2, .int x3]) (st' := [.int ((I 12) 5), .int x3]) (E' := E) (I' := I) (J' := J) (S' := S) am_e100 rfl rfl rfl rfl ?_
  refine w_if2 am_e100 rfl rfl (fun c => ?_) (fun c => ?_)
  · replace h := h.1 (of_decide_eq_true c)
    refine w_st (i' := 17) (ls' := [.ref 20, .ref 12, .int x2, .int x3]) (st' := [.int x2]) (E' := E) (I' := I) (J' := J) (S' := S) am_e100 rfl rfl rfl rfl ?_
    exact w_ri am_e100 rfl rfl h
  · replace h := h.2 (of_decide_eq_false c)
    refine w_st (i' := 9) (ls' := [.ref 20, .ref 12, .int x2, .int x3]) (st' := [.ref 20]) (E' := E) (I' := I) (J' := J) (S' := S) am_e100 rfl rfl rfl rfl ?_
    refine w_st (i' := 10) (ls' := [.ref 20, .ref 12, .int x2, .int x3]) (st' := [.ref 12, .ref 20]) (E' := E) (I' := I) (J' := J) (S' := S) am_e100 rfl rfl rfl rfl ?_
    refine w_st (i' := 11) (ls' := [.ref 20, .ref 12, .int x2, .int x3]) (st' := [.int x3, .ref 12, .ref 20]) (E' := E) (I' := I) (J' := J) (S' := S) am_e100 rfl rfl rfl rfl ?_
    refine w_cI am_e100 rfl rfl (as := [.ref 20, .ref 12, .int x3]) (rest := []) rfl rfl ?_
    show am_ww 25 0 [.ref 20, .ref 12, .int x3] [] E I J S _
    refine w_st (i' := 1) (ls' := [.ref 20, .ref 12, .int x3]) (st' := [.ref 20]) (E' := E) (I' := I) (J' := J) (S' := S) am_e25 rfl rfl rfl rfl ?_
    refine w_st (i' := 2) (ls' := [.ref 20, .ref 12, .int x3]) (st' := [.ref 23]) (E' := E) (I' := I) (J' := J) (S' := S) am_e25 rfl rfl rfl rfl ?_
    refine w_st (i' := 3) (ls' := [.ref 20, .ref 12, .int x3]) (st' := [.int x3, .ref 23]) (E' := E) (I' := I) (J' := J) (S' := S) am_e25 rfl rfl rfl rfl ?_
    have hf1 := h.1
    replace h := h.2
    refine w_ia (k := 23) (n := 4) (jn := x3.toNatClampNeg) am_e25 rfl rfl (by decide) hf1 rfl ?_
    refine w_st (i' := 5) (ls' := [.ref 20, .ref 12, .int x3]) (st' := [.ref 12, .int ((I 23) x3.toNatClampNeg)]) (E' := E) (I' := I) (J' := J) (S' := S) am_e25 rfl rfl rfl rfl ?_
    refine w_st (i' := 6) (ls' := [.ref 20, .ref 12, .int x3]) (st' := [.ref 15, .int ((I 23) x3.toNatClampNeg)]) (E' := E) (I' := I) (J' := J) (S' := S) am_e25 rfl rfl rfl rfl ?_
    refine w_st (i' := 7) (ls' := [.ref 20, .ref 12, .int x3]) (st' := [.int x3, .ref 15, .int ((I 23) x3.toNatClampNeg)]) (E' := E) (I' := I) (J' := J) (S' := S) am_e25 rfl rfl rfl rfl ?_
    refine w_ia (k := 15) (n := 4) (jn := x3.toNatClampNeg) am_e25 rfl rfl (by decide) hf1 rfl ?_
    refine w_if2 am_e25 rfl rfl (fun c => ?_) (fun c => ?_)
    · replace h := h.1 (of_decide_eq_true c)
      refine w_st (i' := 12) (ls' := [.ref 20, .ref 12, .int x3]) (st' := [.int (nI 0)]) (E' := E) (I' := I) (J' := J) (S' := S) am_e25 rfl rfl rfl rfl ?_
      refine w_end (E' := E) (I' := I) (J' := J) (S' := S) am_e25 rfl rfl rfl (q_mkI ?_)
      show am_ww 100 12 [.ref 20, .ref 12, .int x2, .int x3] [.int (nI 0)] E I J S _
      refine w_st (i' := 14) (ls' := [.ref 20, .ref 12, .int x2, .int x3]) (st' := []) (E' := E) (I' := I) (J' := J) (S' := S) am_e100 rfl rfl rfl rfl ?_
      refine w_st (i' := 15) (ls' := [.ref 20, .ref 12, .int x2, .int (x3 + nI 1)]) (st' := []) (E' := E) (I' := I) (J' := J) (S' := S) am_e100 rfl rfl rfl rfl ?_
      refine w_st (i' := 4) (ls' := [.ref 20, .ref 12, .int x2, .int (x3 + nI 1)]) (st' := []) (E' := E) (I' := I) (J' := J) (S' := S) am_e100 rfl rfl rfl rfl ?_
      exact h
    · replace h := h.2 (of_decide_eq_false c)
      refine w_st (i' := 10) (ls' := [.ref 20, .ref 12, .int x3]) (st' := [.int (nI 1)]) (E' := E) (I' := I) (J' := J) (S' := S) am_e25 rfl rfl rfl rfl ?_
      refine w_st (i' := 12) (ls' := [.ref 20, .ref 12, .int x3]) (st' := [.int (nI 1)]) (E' := E) (I' := I) (J' := J) (S' := S) am_e25 rfl rfl rfl rfl ?_
      refine w_end (E' := E) (I' := I) (J' := J) (S' := S) am_e25 rfl rfl rfl (q_mkI ?_)
      show am_ww 100 12 [.ref 20, .ref 12, .int x2, .int x3] [.int (nI 1)] E I J S _
      refine w_st (i' := 13) (ls' := [.ref 20, .ref 12, .int x2, .int x3]) (st' := []) (E' := E) (I' := I) (J' := J) (S' := S) am_e100 rfl rfl rfl rfl ?_
      refine w_st (i' := 14) (ls' := [.ref 20, .ref 12, .int (x2 + nI 1), .int x3]) (st' := []) (E' := E) (I' := I) (J' := J) (S' := S) am_e100 rfl rfl rfl rfl ?_
      refine w_st (i' := 15) (ls' := [.ref 20, .ref 12, .int (x2 + nI 1), .int (x3 + nI 1)]) (st' := []) (E' := E) (I' := I) (J' := J) (S' := S) am_e100 rfl rfl rfl rfl ?_
      refine w_st (i' := 4) (ls' := [.ref 20, .ref 12, .int (x2 + nI 1), .int (x3 + nI 1)]) (st' := []) (E' := E) (I' := I) (J' := J) (S' := S) am_e100 rfl rfl rfl rfl ?_
      exact h
-- 107 ring
theorem g107_0_20  {E : am_Ev} {I : Nat → Nat → Int32} {J : Nat → Nat → Int64} {S : Nat → Nat → Option Nat} {Q : am_Qt}  (h : am_ww 107 4 [.ref 20, .ref 12, .int (nI 0), .int (nI 0), am_U, am_U] [] E I J S Q) : am_ww 107 0 [.ref 20, .ref 12, am_U, am_U, am_U, am_U] [] E I J S Q := by
  refine w_st (i' := 1) (ls' := [.ref 20, .ref 12, am_U, am_U, am_U, am_U]) (st' := [.int (nI 0)]) (E' := E) (I' := I) (J' := J) (S' := S) am_e107 rfl rfl rfl rfl ?_
  refine w_st (i' := 2) (ls' := [.ref 20, .ref 12, .int (nI 0), am_U, am_U, am_U]) (st' := []) (E' := E) (I' := I) (J' := J) (S' := S) am_e107 rfl rfl rfl rfl ?_
  refine w_st (i' := 3) (ls' := [.ref 20, .ref 12, .int (nI 0), am_U, am_U, am_U]) (st' := [.int (nI 0)]) (E' := E) (I' := I) (J' := J) (S' := S) am_e107 rfl rfl rfl rfl ?_
  refine w_st (i' := 4) (ls' := [.ref 20, .ref 12, .int (nI 0), .int (nI 0), am_U, am_U]) (st' := []) (E' := E) (I' := I) (J' := J) (S' := S) am_e107 rfl rfl rfl rfl ?_
  exact h
theorem g107_4_20 {x2 : Int32} {x3 : Int32} {d4 : Value} {d5 : Value} {E : am_Ev} {I : Nat → Nat → Int32} {J : Nat → Nat → Int64} {S : Nat → Nat → Option Nat} {Q : am_Qt} (hd4 : am_isL d4 = false) (hd5 : am_isL d5 = false) (h : (((I 12) 5) ≤ x3 → (Q (.inl (some (.int x2))) E I J S)) ∧ (¬ ((I 12) 5) ≤ x3 → (am_ww 107 12 [.ref 20, .ref 12, .int x2, .int x3, .int x3, .int (nI 0)] [] E I J S Q))) : am_ww 107 4 [.ref 20, .ref 12, .int x2, .int x3, d4, d5] [] E I J S Q := by
  refine w_st (i' := 5) (ls' := [.ref 20, .ref 12, .int x2, .int x3, d4, d5]) (st' := [.int x3]) (E' := E) (I' := I) (J' := J) (S' := S) am_e107 rfl rfl rfl rfl ?_
  refine w_st (i' := 6) (ls' := [.ref 20, .ref 12, .int x2, .int x3, d4, d5]) (st' := [.ref 12, .int x3]) (E' := E) (I' := I) (J' := J) (S' := S) am_e107 rfl rfl rfl rfl ?_
  refine w_st (i' := 7) (ls' := [.ref 20, .ref 12, .int x2, .int x3, d4, d5]) (st' := [.int ((I 12) 5), .int x3]) (E' := E) (I' := I) (J' := J) (S' := S) am_e107 rfl rfl rfl rfl ?_
  refine w_if2 am_e107 rfl rfl (fun c => ?_) (fun c => ?_)
  · replace h := h.1 (of_decide_eq_true c)
    refine w_st (i' := 38) (ls' := [.ref 20, .ref 12, .int x2, .int x3, d4, d5]) (st' := [.int x2]) (E' := E) (I' := I) (J' := J) (S' := S) am_e107 rfl rfl rfl rfl ?_
    exact w_ri am_e107 rfl rfl h
  · replace h := h.2 (of_decide_eq_false c)
    refine w_st (i' := 9) (ls' := [.ref 20, .ref 12, .int x2, .int x3, d4, d5]) (st' := [.int x3]) (E' := E) (I' := I) (J' := J) (S' := S) am_e107 rfl rfl rfl rfl ?_
    refine w_st (i' := 10) (ls' := [.ref 20, .ref 12, .int x2, .int x3, .int x3, d5]) (st' := []) (E' := E) (I' := I) (J' := J) (S' := S) am_e107 rfl rfl rfl rfl ?_
    refine w_st (i' := 11) (ls' := [.ref 20, .ref 12, .int x2, .int x3, .int x3, d5]) (st' := [.int (nI 0)]) (E' := E) (I' := I) (J' := J) (S' := S) am_e107 rfl rfl rfl rfl ?_
    refine w_st (i' := 12) (ls' := [.ref 20, .ref 12, .int x2, .int x3, .int x3, .int (nI 0)]) (st' := []) (E' := E) (I' := I) (J' := J) (S' := S) am_e107 rfl rfl rfl rfl ?_
    exact h
theorem g107_12_20 {x2 : Int32} {x3 : Int32} {x4 : Int32} {x5 : Int32} {E : am_Ev} {I : Nat → Nat → Int32} {J : Nat → Nat → Int64} {S : Nat → Nat → Option Nat} {Q : am_Qt}  (h : (((I 12) 5) ≤ x5 → (am_ww 107 4 [.ref 20, .ref 12, .int x2, .int (x3 + nI 1), .int x4, .int x5] [] E I J S Q)) ∧ (¬ ((I 12) 5) ≤ x5 → ((x4 = (-1) → (am_ww 107 4 [.ref 20, .ref 12, .int x2, .int (x3 + nI 1), .int x4, .int x5] [] E I J S Q)) ∧ (¬ x4 = (-1) → (am_cl 108 [.ref 20, .ref 12, .int x4] E I J S (q_I fun v1 E1 I1 J1 S1 => ∀ w3 : Int32, w3 = (if v1 = x3 then (x2 ||| ((nI 1) <<< (x3 &&& 31))) else x2) → (am_ww 107 12 [.ref 20, .ref 12, .int w3, .int x3, .int v1, .int (x5 + nI 1)] [] E1 I1 J1 S1 Q))))))) : am_ww 107 12 [.ref 20, .ref 12, .int x2, .int x3, .int x4, .int x5] [] E I J S Q := by
  refine w_st (i' := 13) (ls' := [.ref 20, .ref 12, .int x2, .int x3, .int x4, .int x5]) (st' := [.int x5]) (E' := E) (I' := I) (J' := J) (S' := S) am_e107 rfl rfl rfl rfl ?_
  refine w_st (i' := 14) (ls' := [.ref 20, .ref 12, .int x2, .int x3, .int x4, .int x5]) (st' := [.ref 12, .int x5]) (E' := E) (I' := I) (J' := J) (S' := S) am_e107 rfl rfl rfl rfl ?_
  refine w_st (i' := 15) (ls' := [.ref 20, .ref 12, .int x2, .int x3, .int x4, .int x5]) (st' := [.int ((I 12) 5), .int x5]) (E' := E) (I' := I) (J' := J) (S' := S) am_e107 rfl rfl rfl rfl ?_
  refine w_if2 am_e107 rfl rfl (fun c => ?_) (fun c => ?_)
  · replace h := h.1 (of_decide_eq_true c)
    refine w_st (i' := 36) (ls' := [.ref 20, .ref 12, .int x2, .int (x3 + nI 1), .int x4, .int x5]) (st' := []) (E' := E) (I' := I) (J' := J) (S' := S) am_e107 rfl rfl rfl rfl ?_
    refine w_st (i' := 4) (ls' := [.ref 20, .ref 12, .int x2, .int (x3 + nI 1), .int x4, .int x5]) (st' := []) (E' := E) (I' := I) (J' := J) (S' := S) am_e107 rfl rfl rfl rfl ?_
    exact h
  · replace h := h.2 (of_decide_eq_false c)
    refine w_st (i' := 17) (ls' := [.ref 20, .ref 12, .int x2, .int x3, .int x4, .int x5]) (st' := [.int x4]) (E' := E) (I' := I) (J' := J) (S' := S) am_e107 rfl rfl rfl rfl ?_
    refine w_st (i' := 18) (ls' := [.ref 20, .ref 12, .int x2, .int x3, .int x4, .int x5]) (st' := [.int (-1), .int x4]) (E' := E) (I' := I) (J' := J) (S' := S) am_e107 rfl rfl rfl rfl ?_
    refine w_if2 am_e107 rfl rfl (fun c => ?_) (fun c => ?_)
    · replace h := h.1 (of_decide_eq_true c)
      refine w_st (i' := 36) (ls' := [.ref 20, .ref 12, .int x2, .int (x3 + nI 1), .int x4, .int x5]) (st' := []) (E' := E) (I' := I) (J' := J) (S' := S) am_e107 rfl rfl rfl rfl ?_
      refine w_st (i' := 4) (ls' := [.ref 20, .ref 12, .int x2, .int (x3 + nI 1), .int x4, .int x5]) (st' := []) (E' := E) (I' := I) (J' := J) (S' := S) am_e107 rfl rfl rfl rfl ?_
      exact h
    · replace h := h.2 (of_decide_eq_false c)
      refine w_st (i' := 20) (ls' := [.ref 20, .ref 12, .int x2, .int x3, .int x4, .int x5]) (st' := [.ref 20]) (E' := E) (I' := I) (J' := J) (S' := S) am_e107 rfl rfl rfl rfl ?_
      refine w_st (i' := 21) (ls' := [.ref 20, .ref 12, .int x2, .int x3, .int x4, .int x5]) (st' := [.ref 12, .ref 20]) (E' := E) (I' := I) (J' := J) (S' := S) am_e107 rfl rfl rfl rfl ?_
      refine w_st (i' := 22) (ls' := [.ref 20, .ref 12, .int x2, .int x3, .int x4, .int x5]) (st' := [.int x4, .ref 12, .ref 20]) (E' := E) (I' := I) (J' := J) (S' := S) am_e107 rfl rfl rfl rfl ?_
      refine w_cI am_e107 rfl rfl (as := [.ref 20, .ref 12, .int x4]) (rest := []) rfl rfl (am_ww.mono h ?_)
      rintro _ E1 I1 J1 S1 ⟨v1, rfl, h⟩
      refine q_mkI ?_
      refine w_st (i' := 24) (ls' := [.ref 20, .ref 12, .int x2, .int x3, .int v1, .int x5]) (st' := []) (E' := E1) (I' := I1) (J' := J1) (S' := S1) am_e107 rfl rfl rfl rfl ?_
      refine w_st (i' := 25) (ls' := [.ref 20, .ref 12, .int x2, .int x3, .int v1, .int x5]) (st' := [.int v1]) (E' := E1) (I' := I1) (J' := J1) (S' := S1) am_e107 rfl rfl rfl rfl ?_
      refine w_st (i' := 26) (ls' := [.ref 20, .ref 12, .int x2, .int x3, .int v1, .int x5]) (st' := [.int x3, .int v1]) (E' := E1) (I' := I1) (J' := J1) (S' := S1) am_e107 rfl rfl rfl rfl ?_
      refine w_mg (i := 33) (ls' := [.ref 20, .ref 12, .int (if v1 = x3 then (x2 ||| ((nI 1) <<< (x3 &&& 31))) else x2), .int x3, .int v1, .int x5]) (st' := []) (fun hm => ?_) ?_
      · clear h
        refine w_if2 am_e107 rfl rfl (fun c => ?_) (fun c => ?_)
        · have m2 : ¬ (v1 = x3) := (of_decide_eq_true c)
          first | exact hm | (simp only [if_neg m2] at hm; exact hm)
        · have m2 : v1 = x3 := (Decidable.not_not.mp (of_decide_eq_false c))
          refine w_st (i' := 28) (ls' := [.ref 20, .ref 12, .int x2, .int x3, .int v1, .int x5]) (st' := [.int x2]) (E' := E1) (I' := I1) (J' := J1) (S' := S1) am_e107 rfl rfl rfl rfl ?_
          refine w_st (i' := 29) (ls' := [.ref 20, .ref 12, .int x2, .int x3, .int v1, .int x5]) (st' := [.int (nI 1), .int x2]) (E' := E1) (I' := I1) (J' := J1) (S' := S1) am_e107 rfl rfl rfl rfl ?_
          refine w_st (i' := 30) (ls' := [.ref 20, .ref 12, .int x2, .int x3, .int v1, .int x5]) (st' := [.int x3, .int (nI 1), .int x2]) (E' := E1) (I' := I1) (J' := J1) (S' := S1) am_e107 rfl rfl rfl rfl ?_
          refine w_st (i' := 31) (ls' := [.ref 20, .ref 12, .int x2, .int x3, .int v1, .int x5]) (st' := [.int ((nI 1) <<< (x3 &&& 31)), .int x2]) (E' := E1) (I' := I1) (J' := J1) (S' := S1) am_e107 rfl rfl rfl rfl ?_
          refine w_st (i' := 32) (ls' := [.ref 20, .ref 12, .int x2, .int x3, .int v1, .int x5]) (st' := [.int (x2 ||| ((nI 1) <<< (x3 &&& 31)))]) (E' := E1) (I' := I1) (J' := J1) (S' := S1) am_e107 rfl rfl rfl rfl ?_
          refine w_st (i' := 33) (ls' := [.ref 20, .ref 12, .int (x2 ||| ((nI 1) <<< (x3 &&& 31))), .int x3, .int v1, .int x5]) (st' := []) (E' := E1) (I' := I1) (J' := J1) (S' := S1) am_e107 rfl rfl rfl rfl ?_
          first | exact hm | (simp only [if_pos m2] at hm; exact hm)
      refine w_var (fun w3 => am_ww 107 33 [.ref 20, .ref 12, .int w3, .int x3, .int v1, .int x5] [] E1 I1 J1 S1 _) (if v1 = x3 then (x2 ||| ((nI 1) <<< (x3 &&& 31))) else x2) (fun w3 hw3 => ?_)
      replace h := h w3 hw3
      refine w_st (i' := 34) (ls' := [.ref 20, .ref 12, .int w3, .int x3, .int v1, .int (x5 + nI 1)]) (st' := []) (E' := E1) (I' := I1) (J' := J1) (S' := S1) am_e107 rfl rfl rfl rfl ?_
      refine w_st (i' := 12) (ls' := [.ref 20, .ref 12, .int w3, .int x3, .int v1, .int (x5 + nI 1)]) (st' := []) (E' := E1) (I' := I1) (J' := J1) (S' := S1) am_e107 rfl rfl rfl rfl ?_
      exact h
-- 108 waitsFor
theorem g108_0_20 {p2 : Int32} {E : am_Ev} {I : Nat → Nat → Int32} {J : Nat → Nat → Int64} {S : Nat → Nat → Option Nat} {Q : am_Qt}  (h : am_cl 24 [.ref 20, .ref 12, .int p2] E I J S (q_I fun v1 E1 I1 J1 S1 => (v1 = (-1) → (Q (.inl (some (.int (-1)))) E1 I1 J1 S1)) ∧ (¬ v1 = (-1) → (vp_in v1 64 ∧ ((((I1 13) v1.toNatClampNeg) = (nI 13) → (vp_in ((v1 * (nI 3)) + (nI 0)) 192 ∧ (∀ w4 : Int32, w4 = ((I1 14) (((v1 * (nI 3)) + (nI 0)).toNatClampNeg)) → (vp_in w4 4 ∧ (Q (.inl (some (.int ((I1 25) w4.toNatClampNeg)))) E1 I1 J1 S1))))) ∧ (¬ ((I1 13) v1.toNatClampNeg) = (nI 13) → (Q (.inl (some (.int (-1)))) E1 I1 J1 S1))))))) : am_ww 108 0 [.ref 20, .ref 12, .int p2, am_U] [] E I J S Q := by
  refine w_st (i' := 1) (ls' := [.ref 20, .ref 12, .int p2, am_U]) (st' := [.ref 20]) (E' := E) (I' := I) (J' := J) (S' := S) am_e108 rfl rfl rfl rfl ?_
  refine w_st (i' := 2) (ls' := [.ref 20, .ref 12, .int p2, am_U]) (st' := [.ref 12, .ref 20]) (E' := E) (I' := I) (J' := J) (S' := S) am_e108 rfl rfl rfl rfl ?_
  refine w_st (i' := 3) (ls' := [.ref 20, .ref 12, .int p2, am_U]) (st' := [.int p2, .ref 12, .ref 20]) (E' := E) (I' := I) (J' := J) (S' := S) am_e108 rfl rfl rfl rfl ?_
  refine w_cI am_e108 rfl rfl (as := [.ref 20, .ref 12, .int p2]) (rest := []) rfl rfl (am_ww.mono h ?_)
  rintro _ E1 I1 J1 S1 ⟨v1, rfl, h⟩
  refine q_mkI ?_
  refine w_st (i' := 5) (ls' := [.ref 20, .ref 12, .int p2, .int v1]) (st' := []) (E' := E1) (I' := I1) (J' := J1) (S' := S1) am_e108 rfl rfl rfl rfl ?_
  refine w_st (i' := 6) (ls' := [.ref 20, .ref 12, .int p2, .int v1]) (st' := [.int v1]) (E' := E1) (I' := I1) (J' := J1) (S' := S1) am_e108 rfl rfl rfl rfl ?_
  refine w_st (i' := 7) (ls' := [.ref 20, .ref 12, .int p2, .int v1]) (st' := [.int (-1), .int v1]) (E' := E1) (I' := I1) (J' := J1) (S' := S1) am_e108 rfl rfl rfl rfl ?_
  refine w_if2 am_e108 rfl rfl (fun c => ?_) (fun c => ?_)
  · replace h := h.1 (of_decide_eq_true c)
    refine w_st (i' := 15) (ls' := [.ref 20, .ref 12, .int p2, .int v1]) (st' := [.int (-1)]) (E' := E1) (I' := I1) (J' := J1) (S' := S1) am_e108 rfl rfl rfl rfl ?_
    exact w_end am_e108 rfl rfl rfl h
  · replace h := h.2 (of_decide_eq_false c)
    refine w_st (i' := 9) (ls' := [.ref 20, .ref 12, .int p2, .int v1]) (st' := [.ref 12]) (E' := E1) (I' := I1) (J' := J1) (S' := S1) am_e108 rfl rfl rfl rfl ?_
    refine w_st (i' := 10) (ls' := [.ref 20, .ref 12, .int p2, .int v1]) (st' := [.ref 13]) (E' := E1) (I' := I1) (J' := J1) (S' := S1) am_e108 rfl rfl rfl rfl ?_
    refine w_st (i' := 11) (ls' := [.ref 20, .ref 12, .int p2, .int v1]) (st' := [.int v1, .ref 13]) (E' := E1) (I' := I1) (J' := J1) (S' := S1) am_e108 rfl rfl rfl rfl ?_
    have hf2 := h.1
    replace h := h.2
    refine w_ia (k := 13) (n := 64) (jn := v1.toNatClampNeg) am_e108 rfl rfl (by decide) hf2 rfl ?_
    refine w_st (i' := 13) (ls' := [.ref 20, .ref 12, .int p2, .int v1]) (st' := [.int (nI 13), .int ((I1 13) v1.toNatClampNeg)]) (E' := E1) (I' := I1) (J' := J1) (S' := S1) am_e108 rfl rfl rfl rfl ?_
    refine w_if2 am_e108 rfl rfl (fun c => ?_) (fun c => ?_)
    · replace h := h.1 (of_decide_eq_true c)
      refine w_st (i' := 17) (ls' := [.ref 20, .ref 12, .int p2, .int v1]) (st' := [.ref 20]) (E' := E1) (I' := I1) (J' := J1) (S' := S1) am_e108 rfl rfl rfl rfl ?_
      refine w_st (i' := 18) (ls' := [.ref 20, .ref 12, .int p2, .int v1]) (st' := [.ref 25]) (E' := E1) (I' := I1) (J' := J1) (S' := S1) am_e108 rfl rfl rfl rfl ?_
      refine w_st (i' := 19) (ls' := [.ref 20, .ref 12, .int p2, .int v1]) (st' := [.ref 12, .ref 25]) (E' := E1) (I' := I1) (J' := J1) (S' := S1) am_e108 rfl rfl rfl rfl ?_
      refine w_st (i' := 20) (ls' := [.ref 20, .ref 12, .int p2, .int v1]) (st' := [.int v1, .ref 12, .ref 25]) (E' := E1) (I' := I1) (J' := J1) (S' := S1) am_e108 rfl rfl rfl rfl ?_
      refine w_st (i' := 21) (ls' := [.ref 20, .ref 12, .int p2, .int v1]) (st' := [.int (nI 0), .int v1, .ref 12, .ref 25]) (E' := E1) (I' := I1) (J' := J1) (S' := S1) am_e108 rfl rfl rfl rfl ?_
      refine w_cI am_e108 rfl rfl (as := [.ref 12, .int v1, .int (nI 0)]) (rest := [.ref 25]) rfl rfl ?_
      show am_ww 26 0 [.ref 12, .int v1, .int (nI 0)] [] E1 I1 J1 S1 _
      refine w_st (i' := 1) (ls' := [.ref 12, .int v1, .int (nI 0)]) (st' := [.ref 12]) (E' := E1) (I' := I1) (J' := J1) (S' := S1) am_e26 rfl rfl rfl rfl ?_
      refine w_st (i' := 2) (ls' := [.ref 12, .int v1, .int (nI 0)]) (st' := [.ref 14]) (E' := E1) (I' := I1) (J' := J1) (S' := S1) am_e26 rfl rfl rfl rfl ?_
      refine w_st (i' := 3) (ls' := [.ref 12, .int v1, .int (nI 0)]) (st' := [.int v1, .ref 14]) (E' := E1) (I' := I1) (J' := J1) (S' := S1) am_e26 rfl rfl rfl rfl ?_
      refine w_st (i' := 4) (ls' := [.ref 12, .int v1, .int (nI 0)]) (st' := [.int (nI 3), .int v1, .ref 14]) (E' := E1) (I' := I1) (J' := J1) (S' := S1) am_e26 rfl rfl rfl rfl ?_
      refine w_st (i' := 5) (ls' := [.ref 12, .int v1, .int (nI 0)]) (st' := [.int (v1 * (nI 3)), .ref 14]) (E' := E1) (I' := I1) (J' := J1) (S' := S1) am_e26 rfl rfl rfl rfl ?_
      refine w_st (i' := 6) (ls' := [.ref 12, .int v1, .int (nI 0)]) (st' := [.int (nI 0), .int (v1 * (nI 3)), .ref 14]) (E' := E1) (I' := I1) (J' := J1) (S' := S1) am_e26 rfl rfl rfl rfl ?_
      refine w_st (i' := 7) (ls' := [.ref 12, .int v1, .int (nI 0)]) (st' := [.int ((v1 * (nI 3)) + (nI 0)), .ref 14]) (E' := E1) (I' := I1) (J' := J1) (S' := S1) am_e26 rfl rfl rfl rfl ?_
      have hf3 := h.1
      replace h := h.2
      refine w_ia (k := 14) (n := 192) (jn := ((v1 * (nI 3)) + (nI 0)).toNatClampNeg) am_e26 rfl rfl (by decide) hf3 rfl ?_
      refine w_ri am_e26 rfl rfl (q_mkI ?_)
      show am_ww 108 22 [.ref 20, .ref 12, .int p2, .int v1] [.int ((I1 14) (((v1 * (nI 3)) + (nI 0)).toNatClampNeg)), .ref 25] E1 I1 J1 S1 _
      refine w_var (fun w4 => am_ww 108 22 [.ref 20, .ref 12, .int p2, .int v1] [.int w4, .ref 25] E1 I1 J1 S1 _) ((I1 14) (((v1 * (nI 3)) + (nI 0)).toNatClampNeg)) (fun w4 hw4 => ?_)
      replace h := h w4 hw4
      have hf5 := h.1
      replace h := h.2
      refine w_ia (k := 25) (n := 4) (jn := w4.toNatClampNeg) am_e108 rfl rfl (by decide) hf5 rfl ?_
      exact w_ri am_e108 rfl rfl h
    · replace h := h.2 (of_decide_eq_false c)
      refine w_st (i' := 15) (ls' := [.ref 20, .ref 12, .int p2, .int v1]) (st' := [.int (-1)]) (E' := E1) (I' := I1) (J' := J1) (S' := S1) am_e108 rfl rfl rfl rfl ?_
      exact w_end am_e108 rfl rfl rfl h
-- 40 digestOf
theorem g40_0_20  {E : am_Ev} {I : Nat → Nat → Int32} {J : Nat → Nat → Int64} {S : Nat → Nat → Option Nat} {Q : am_Qt}  (h : am_ww 40 10 [.ref 20, .ref 12, .int (nI 7), .ref 21, .int (nI 16), .int (nI 0), am_U] [] E I J S Q) : am_ww 40 0 [.ref 20, .ref 12, am_U, am_U, am_U, am_U, am_U] [] E I J S Q := by
  refine w_st (i' := 1) (ls' := [.ref 20, .ref 12, am_U, am_U, am_U, am_U, am_U]) (st' := [.int (nI 7)]) (E' := E) (I' := I) (J' := J) (S' := S) am_e40 rfl rfl rfl rfl ?_
  refine w_st (i' := 2) (ls' := [.ref 20, .ref 12, .int (nI 7), am_U, am_U, am_U, am_U]) (st' := []) (E' := E) (I' := I) (J' := J) (S' := S) am_e40 rfl rfl rfl rfl ?_
  refine w_st (i' := 3) (ls' := [.ref 20, .ref 12, .int (nI 7), am_U, am_U, am_U, am_U]) (st' := [.ref 20]) (E' := E) (I' := I) (J' := J) (S' := S) am_e40 rfl rfl rfl rfl ?_
  refine w_st (i' := 4) (ls' := [.ref 20, .ref 12, .int (nI 7), am_U, am_U, am_U, am_U]) (st' := [.ref 21]) (E' := E) (I' := I) (J' := J) (S' := S) am_e40 rfl rfl rfl rfl ?_
  refine w_st (i' := 5) (ls' := [.ref 20, .ref 12, .int (nI 7), .ref 21, am_U, am_U, am_U]) (st' := []) (E' := E) (I' := I) (J' := J) (S' := S) am_e40 rfl rfl rfl rfl ?_
  refine w_st (i' := 6) (ls' := [.ref 20, .ref 12, .int (nI 7), .ref 21, am_U, am_U, am_U]) (st' := [.ref 21]) (E' := E) (I' := I) (J' := J) (S' := S) am_e40 rfl rfl rfl rfl ?_
  refine w_st (i' := 7) (ls' := [.ref 20, .ref 12, .int (nI 7), .ref 21, am_U, am_U, am_U]) (st' := [.int (nI 16)]) (E' := E) (I' := I) (J' := J) (S' := S) am_e40 rfl rfl rfl rfl ?_
  refine w_st (i' := 8) (ls' := [.ref 20, .ref 12, .int (nI 7), .ref 21, .int (nI 16), am_U, am_U]) (st' := []) (E' := E) (I' := I) (J' := J) (S' := S) am_e40 rfl rfl rfl rfl ?_
  refine w_st (i' := 9) (ls' := [.ref 20, .ref 12, .int (nI 7), .ref 21, .int (nI 16), am_U, am_U]) (st' := [.int (nI 0)]) (E' := E) (I' := I) (J' := J) (S' := S) am_e40 rfl rfl rfl rfl ?_
  refine w_st (i' := 10) (ls' := [.ref 20, .ref 12, .int (nI 7), .ref 21, .int (nI 16), .int (nI 0), am_U]) (st' := []) (E' := E) (I' := I) (J' := J) (S' := S) am_e40 rfl rfl rfl rfl ?_
  exact h
theorem g40_10_20 {x2 : Int32} {x4 : Int32} {x5 : Int32} {d6 : Value} {E : am_Ev} {I : Nat → Nat → Int32} {J : Nat → Nat → Int64} {S : Nat → Nat → Option Nat} {Q : am_Qt} (hd6 : am_isL d6 = false) (h : (x4 ≤ x5 → (am_ww 40 27 [.ref 20, .ref 12, .int x2, .int (nI 0), .int x4, .int x5, d6] [] E I J S Q)) ∧ (¬ x4 ≤ x5 → (vp_in x5 16 ∧ (∀ w2 : Int32, w2 = ((x2 * (nI 31)) + ((I 21) x5.toNatClampNeg)) → (am_ww 40 10 [.ref 20, .ref 12, .int w2, .ref 21, .int x4, .int (x5 + nI 1), .int ((I 21) x5.toNatClampNeg)] [] E I J S Q))))) : am_ww 40 10 [.ref 20, .ref 12, .int x2, .ref 21, .int x4, .int x5, d6] [] E I J S Q := by
  refine w_st (i' := 11) (ls' := [.ref 20, .ref 12, .int x2, .ref 21, .int x4, .int x5, d6]) (st' := [.int x5]) (E' := E) (I' := I) (J' := J) (S' := S) am_e40 rfl rfl rfl rfl ?_
  refine w_st (i' := 12) (ls' := [.ref 20, .ref 12, .int x2, .ref 21, .int x4, .int x5, d6]) (st' := [.int x4, .int x5]) (E' := E) (I' := I) (J' := J) (S' := S) am_e40 rfl rfl rfl rfl ?_
  refine w_if2 am_e40 rfl rfl (fun c => ?_) (fun c => ?_)
  · replace h := h.1 (of_decide_eq_true c)
    refine w_st (i' := 26) (ls' := [.ref 20, .ref 12, .int x2, .ref 21, .int x4, .int x5, d6]) (st' := [.int (nI 0)]) (E' := E) (I' := I) (J' := J) (S' := S) am_e40 rfl rfl rfl rfl ?_
    refine w_st (i' := 27) (ls' := [.ref 20, .ref 12, .int x2, .int (nI 0), .int x4, .int x5, d6]) (st' := []) (E' := E) (I' := I) (J' := J) (S' := S) am_e40 rfl rfl rfl rfl ?_
    exact h
  · replace h := h.2 (of_decide_eq_false c)
    refine w_st (i' := 14) (ls' := [.ref 20, .ref 12, .int x2, .ref 21, .int x4, .int x5, d6]) (st' := [.ref 21]) (E' := E) (I' := I) (J' := J) (S' := S) am_e40 rfl rfl rfl rfl ?_
    refine w_st (i' := 15) (ls' := [.ref 20, .ref 12, .int x2, .ref 21, .int x4, .int x5, d6]) (st' := [.int x5, .ref 21]) (E' := E) (I' := I) (J' := J) (S' := S) am_e40 rfl rfl rfl rfl ?_
    have hf1 := h.1
    replace h := h.2
    refine w_ia (k := 21) (n := 16) (jn := x5.toNatClampNeg) am_e40 rfl rfl (by decide) hf1 rfl ?_
    refine w_st (i' := 17) (ls' := [.ref 20, .ref 12, .int x2, .ref 21, .int x4, .int x5, .int ((I 21) x5.toNatClampNeg)]) (st' := []) (E' := E) (I' := I) (J' := J) (S' := S) am_e40 rfl rfl rfl rfl ?_
    refine w_st (i' := 18) (ls' := [.ref 20, .ref 12, .int x2, .ref 21, .int x4, .int x5, .int ((I 21) x5.toNatClampNeg)]) (st' := [.int x2]) (E' := E) (I' := I) (J' := J) (S' := S) am_e40 rfl rfl rfl rfl ?_
    refine w_st (i' := 19) (ls' := [.ref 20, .ref 12, .int x2, .ref 21, .int x4, .int x5, .int ((I 21) x5.toNatClampNeg)]) (st' := [.int (nI 31), .int x2]) (E' := E) (I' := I) (J' := J) (S' := S) am_e40 rfl rfl rfl rfl ?_
    refine w_st (i' := 20) (ls' := [.ref 20, .ref 12, .int x2, .ref 21, .int x4, .int x5, .int ((I 21) x5.toNatClampNeg)]) (st' := [.int (x2 * (nI 31))]) (E' := E) (I' := I) (J' := J) (S' := S) am_e40 rfl rfl rfl rfl ?_
    refine w_st (i' := 21) (ls' := [.ref 20, .ref 12, .int x2, .ref 21, .int x4, .int x5, .int ((I 21) x5.toNatClampNeg)]) (st' := [.int ((I 21) x5.toNatClampNeg), .int (x2 * (nI 31))]) (E' := E) (I' := I) (J' := J) (S' := S) am_e40 rfl rfl rfl rfl ?_
    refine w_st (i' := 22) (ls' := [.ref 20, .ref 12, .int x2, .ref 21, .int x4, .int x5, .int ((I 21) x5.toNatClampNeg)]) (st' := [.int ((x2 * (nI 31)) + ((I 21) x5.toNatClampNeg))]) (E' := E) (I' := I) (J' := J) (S' := S) am_e40 rfl rfl rfl rfl ?_
    refine w_st (i' := 23) (ls' := [.ref 20, .ref 12, .int ((x2 * (nI 31)) + ((I 21) x5.toNatClampNeg)), .ref 21, .int x4, .int x5, .int ((I 21) x5.toNatClampNeg)]) (st' := []) (E' := E) (I' := I) (J' := J) (S' := S) am_e40 rfl rfl rfl rfl ?_
    refine w_var (fun w2 => am_ww 40 23 [.ref 20, .ref 12, .int w2, .ref 21, .int x4, .int x5, .int ((I 21) x5.toNatClampNeg)] [] E I J S _) ((x2 * (nI 31)) + ((I 21) x5.toNatClampNeg)) (fun w2 hw2 => ?_)
    replace h := h w2 hw2
    refine w_st (i' := 24) (ls' := [.ref 20, .ref 12, .int w2, .ref 21, .int x4, .int (x5 + nI 1), .int ((I 21) x5.toNatClampNeg)]) (st' := []) (E' := E) (I' := I) (J' := J) (S' := S) am_e40 rfl rfl rfl rfl ?_
    refine w_st (i' := 10) (ls' := [.ref 20, .ref 12, .int w2, .ref 21, .int x4, .int (x5 + nI 1), .int ((I 21) x5.toNatClampNeg)]) (st' := []) (E' := E) (I' := I) (J' := J) (S' := S) am_e40 rfl rfl rfl rfl ?_
    exact h
theorem g40_27_20 {x2 : Int32} {x3 : Int32} {d4 : Value} {d5 : Value} {d6 : Value} {E : am_Ev} {I : Nat → Nat → Int32} {J : Nat → Nat → Int64} {S : Nat → Nat → Option Nat} {Q : am_Qt} (hd4 : am_isL d4 = false) (hd5 : am_isL d5 = false) (hd6 : am_isL d6 = false) (h : (((I 12) 5) ≤ x3 → (am_ww 40 79 [.ref 20, .ref 12, .int x2, .ref 25, .int (nI 4), .int (nI 0), d6] [] E I J S Q)) ∧ (¬ ((I 12) 5) ≤ x3 → (am_ww 40 33 [.ref 20, .ref 12, .int x2, .int x3, .int (nI 0), d5, d6] [] E I J S Q))) : am_ww 40 27 [.ref 20, .ref 12, .int x2, .int x3, d4, d5, d6] [] E I J S Q := by
  refine w_st (i' := 28) (ls' := [.ref 20, .ref 12, .int x2, .int x3, d4, d5, d6]) (st' := [.int x3]) (E' := E) (I' := I) (J' := J) (S' := S) am_e40 rfl rfl rfl rfl ?_
  refine w_st (i' := 29) (ls' := [.ref 20, .ref 12, .int x2, .int x3, d4, d5, d6]) (st' := [.ref 12, .int x3]) (E' := E) (I' := I) (J' := J) (S' := S) am_e40 rfl rfl rfl rfl ?_
  refine w_st (i' := 30) (ls' := [.ref 20, .ref 12, .int x2, .int x3, d4, d5, d6]) (st' := [.int ((I 12) 5), .int x3]) (E' := E) (I' := I) (J' := J) (S' := S) am_e40 rfl rfl rfl rfl ?_
  refine w_if2 am_e40 rfl rfl (fun c => ?_) (fun c => ?_)
  · replace h := h.1 (of_decide_eq_true c)
    refine w_st (i' := 72) (ls' := [.ref 20, .ref 12, .int x2, .int x3, d4, d5, d6]) (st' := [.ref 20]) (E' := E) (I' := I) (J' := J) (S' := S) am_e40 rfl rfl rfl rfl ?_
    refine w_st (i' := 73) (ls' := [.ref 20, .ref 12, .int x2, .int x3, d4, d5, d6]) (st' := [.ref 25]) (E' := E) (I' := I) (J' := J) (S' := S) am_e40 rfl rfl rfl rfl ?_
    refine w_st (i' := 74) (ls' := [.ref 20, .ref 12, .int x2, .ref 25, d4, d5, d6]) (st' := []) (E' := E) (I' := I) (J' := J) (S' := S) am_e40 rfl rfl rfl rfl ?_
    refine w_st (i' := 75) (ls' := [.ref 20, .ref 12, .int x2, .ref 25, d4, d5, d6]) (st' := [.ref 25]) (E' := E) (I' := I) (J' := J) (S' := S) am_e40 rfl rfl rfl rfl ?_
    refine w_st (i' := 76) (ls' := [.ref 20, .ref 12, .int x2, .ref 25, d4, d5, d6]) (st' := [.int (nI 4)]) (E' := E) (I' := I) (J' := J) (S' := S) am_e40 rfl rfl rfl rfl ?_
    refine w_st (i' := 77) (ls' := [.ref 20, .ref 12, .int x2, .ref 25, .int (nI 4), d5, d6]) (st' := []) (E' := E) (I' := I) (J' := J) (S' := S) am_e40 rfl rfl rfl rfl ?_
    refine w_st (i' := 78) (ls' := [.ref 20, .ref 12, .int x2, .ref 25, .int (nI 4), d5, d6]) (st' := [.int (nI 0)]) (E' := E) (I' := I) (J' := J) (S' := S) am_e40 rfl rfl rfl rfl ?_
    refine w_st (i' := 79) (ls' := [.ref 20, .ref 12, .int x2, .ref 25, .int (nI 4), .int (nI 0), d6]) (st' := []) (E' := E) (I' := I) (J' := J) (S' := S) am_e40 rfl rfl rfl rfl ?_
    exact h
  · replace h := h.2 (of_decide_eq_false c)
    refine w_st (i' := 32) (ls' := [.ref 20, .ref 12, .int x2, .int x3, d4, d5, d6]) (st' := [.int (nI 0)]) (E' := E) (I' := I) (J' := J) (S' := S) am_e40 rfl rfl rfl rfl ?_
    refine w_st (i' := 33) (ls' := [.ref 20, .ref 12, .int x2, .int x3, .int (nI 0), d5, d6]) (st' := []) (E' := E) (I' := I) (J' := J) (S' := S) am_e40 rfl rfl rfl rfl ?_
    exact h
theorem g40_79_20 {d1 : Value} {x2 : Int32} {x4 : Int32} {x5 : Int32} {d6 : Value} {E : am_Ev} {I : Nat → Nat → Int32} {J : Nat → Nat → Int64} {S : Nat → Nat → Option Nat} {Q : am_Qt} (hd1 : am_isL d1 = false) (hd6 : am_isL d6 = false) (h : (x4 ≤ x5 → (Q (.inl (some (.int ((x2 * (nI 31)) + ((I 20) 6))))) E I J S)) ∧ (¬ x4 ≤ x5 → (vp_in x5 4 ∧ (∀ w2 : Int32, w2 = ((x2 * (nI 31)) + ((I 25) x5.toNatClampNeg)) → (am_ww 40 79 [.ref 20, d1, .int w2, .ref 25, .int x4, .int (x5 + nI 1), .int ((I 25) x5.toNatClampNeg)] [] E I J S Q))))) : am_ww 40 79 [.ref 20, d1, .int x2, .ref 25, .int x4, .int x5, d6] [] E I J S Q := by
  refine w_st (i' := 80) (ls' := [.ref 20, d1, .int x2, .ref 25, .int x4, .int x5, d6]) (st' := [.int x5]) (E' := E) (I' := I) (J' := J) (S' := S) am_e40 rfl rfl rfl rfl ?_
  refine w_st (i' := 81) (ls' := [.ref 20, d1, .int x2, .ref 25, .int x4, .int x5, d6]) (st' := [.int x4, .int x5]) (E' := E) (I' := I) (J' := J) (S' := S) am_e40 rfl rfl rfl rfl ?_
  refine w_if2 am_e40 rfl rfl (fun c => ?_) (fun c => ?_)
  · replace h := h.1 (of_decide_eq_true c)
    refine w_st (i' := 95) (ls' := [.ref 20, d1, .int x2, .ref 25, .int x4, .int x5, d6]) (st' := [.int x2]) (E' := E) (I' := I) (J' := J) (S' := S) am_e40 rfl rfl rfl rfl ?_
    refine w_st (i' := 96) (ls' := [.ref 20, d1, .int x2, .ref 25, .int x4, .int x5, d6]) (st' := [.int (nI 31), .int x2]) (E' := E) (I' := I) (J' := J) (S' := S) am_e40 rfl rfl rfl rfl ?_
    refine w_st (i' := 97) (ls' := [.ref 20, d1, .int x2, .ref 25, .int x4, .int x5, d6]) (st' := [.int (x2 * (nI 31))]) (E' := E) (I' := I) (J' := J) (S' := S) am_e40 rfl rfl rfl rfl ?_
    refine w_st (i' := 98) (ls' := [.ref 20, d1, .int x2, .ref 25, .int x4, .int x5, d6]) (st' := [.ref 20, .int (x2 * (nI 31))]) (E' := E) (I' := I) (J' := J) (S' := S) am_e40 rfl rfl rfl rfl ?_
    refine w_st (i' := 99) (ls' := [.ref 20, d1, .int x2, .ref 25, .int x4, .int x5, d6]) (st' := [.int ((I 20) 6), .int (x2 * (nI 31))]) (E' := E) (I' := I) (J' := J) (S' := S) am_e40 rfl rfl rfl rfl ?_
    refine w_st (i' := 100) (ls' := [.ref 20, d1, .int x2, .ref 25, .int x4, .int x5, d6]) (st' := [.int ((x2 * (nI 31)) + ((I 20) 6))]) (E' := E) (I' := I) (J' := J) (S' := S) am_e40 rfl rfl rfl rfl ?_
    exact w_ri am_e40 rfl rfl h
  · replace h := h.2 (of_decide_eq_false c)
    refine w_st (i' := 83) (ls' := [.ref 20, d1, .int x2, .ref 25, .int x4, .int x5, d6]) (st' := [.ref 25]) (E' := E) (I' := I) (J' := J) (S' := S) am_e40 rfl rfl rfl rfl ?_
    refine w_st (i' := 84) (ls' := [.ref 20, d1, .int x2, .ref 25, .int x4, .int x5, d6]) (st' := [.int x5, .ref 25]) (E' := E) (I' := I) (J' := J) (S' := S) am_e40 rfl rfl rfl rfl ?_
    have hf1 := h.1
    replace h := h.2
    refine w_ia (k := 25) (n := 4) (jn := x5.toNatClampNeg) am_e40 rfl rfl (by decide) hf1 rfl ?_
    refine w_st (i' := 86) (ls' := [.ref 20, d1, .int x2, .ref 25, .int x4, .int x5, .int ((I 25) x5.toNatClampNeg)]) (st' := []) (E' := E) (I' := I) (J' := J) (S' := S) am_e40 rfl rfl rfl rfl ?_
    refine w_st (i' := 87) (ls' := [.ref 20, d1, .int x2, .ref 25, .int x4, .int x5, .int ((I 25) x5.toNatClampNeg)]) (st' := [.int x2]) (E' := E) (I' := I) (J' := J) (S' := S) am_e40 rfl rfl rfl rfl ?_
    refine w_st (i' := 88) (ls' := [.ref 20, d1, .int x2, .ref 25, .int x4, .int x5, .int ((I 25) x5.toNatClampNeg)]) (st' := [.int (nI 31), .int x2]) (E' := E) (I' := I) (J' := J) (S' := S) am_e40 rfl rfl rfl rfl ?_
    refine w_st (i' := 89) (ls' := [.ref 20, d1, .int x2, .ref 25, .int x4, .int x5, .int ((I 25) x5.toNatClampNeg)]) (st' := [.int (x2 * (nI 31))]) (E' := E) (I' := I) (J' := J) (S' := S) am_e40 rfl rfl rfl rfl ?_
    refine w_st (i' := 90) (ls' := [.ref 20, d1, .int x2, .ref 25, .int x4, .int x5, .int ((I 25) x5.toNatClampNeg)]) (st' := [.int ((I 25) x5.toNatClampNeg), .int (x2 * (nI 31))]) (E' := E) (I' := I) (J' := J) (S' := S) am_e40 rfl rfl rfl rfl ?_
    refine w_st (i' := 91) (ls' := [.ref 20, d1, .int x2, .ref 25, .int x4, .int x5, .int ((I 25) x5.toNatClampNeg)]) (st' := [.int ((x2 * (nI 31)) + ((I 25) x5.toNatClampNeg))]) (E' := E) (I' := I) (J' := J) (S' := S) am_e40 rfl rfl rfl rfl ?_
    refine w_st (i' := 92) (ls' := [.ref 20, d1, .int ((x2 * (nI 31)) + ((I 25) x5.toNatClampNeg)), .ref 25, .int x4, .int x5, .int ((I 25) x5.toNatClampNeg)]) (st' := []) (E' := E) (I' := I) (J' := J) (S' := S) am_e40 rfl rfl rfl (by simp [am_step, am_sto, hd1]) ?_
    refine w_var (fun w2 => am_ww 40 92 [.ref 20, d1, .int w2, .ref 25, .int x4, .int x5, .int ((I 25) x5.toNatClampNeg)] [] E I J S _) ((x2 * (nI 31)) + ((I 25) x5.toNatClampNeg)) (fun w2 hw2 => ?_)
    replace h := h w2 hw2
    refine w_st (i' := 93) (ls' := [.ref 20, d1, .int w2, .ref 25, .int x4, .int (x5 + nI 1), .int ((I 25) x5.toNatClampNeg)]) (st' := []) (E' := E) (I' := I) (J' := J) (S' := S) am_e40 rfl rfl rfl rfl ?_
    refine w_st (i' := 79) (ls' := [.ref 20, d1, .int w2, .ref 25, .int x4, .int (x5 + nI 1), .int ((I 25) x5.toNatClampNeg)]) (st' := []) (E' := E) (I' := I) (J' := J) (S' := S) am_e40 rfl rfl rfl rfl ?_
    exact h
theorem g40_33_20 {x2 : Int32} {x3 : Int32} {x4 : Int32} {d5 : Value} {d6 : Value} {E : am_Ev} {I : Nat → Nat → Int32} {J : Nat → Nat → Int64} {S : Nat → Nat → Option Nat} {Q : am_Qt} (hd5 : am_isL d5 = false) (hd6 : am_isL d6 = false) (h : ((nI 4) ≤ x4 → (vp_in x3 4 ∧ (∀ w2 : Int32, w2 = ((x2 * (nI 31)) + ((I 23) x3.toNatClampNeg)) → (∀ w3 : Int32, w3 = ((w2 * (nI 31)) + ((I 24) x3.toNatClampNeg)) → (am_ww 40 27 [.ref 20, .ref 12, .int w3, .int (x3 + nI 1), .int x4, d5, d6] [] E I J S Q))))) ∧ (¬ (nI 4) ≤ x4 → (vp_in ((x3 * (nI 4)) + x4) 16 ∧ (∀ w5 : Int32, w5 = ((x2 * (nI 31)) + ((I 22) (((x3 * (nI 4)) + x4).toNatClampNeg))) → (am_ww 40 33 [.ref 20, .ref 12, .int w5, .int x3, .int (x4 + nI 1), d5, d6] [] E I J S Q))))) : am_ww 40 33 [.ref 20, .ref 12, .int x2, .int x3, .int x4, d5, d6] [] E I J S Q := by
  refine w_st (i' := 34) (ls' := [.ref 20, .ref 12, .int x2, .int x3, .int x4, d5, d6]) (st' := [.int x4]) (E' := E) (I' := I) (J' := J) (S' := S) am_e40 rfl rfl rfl rfl ?_
  refine w_st (i' := 35) (ls' := [.ref 20, .ref 12, .int x2, .int x3, .int x4, d5, d6]) (st' := [.int (nI 4), .int x4]) (E' := E) (I' := I) (J' := J) (S' := S) am_e40 rfl rfl rfl rfl ?_
  refine w_if2 am_e40 rfl rfl (fun c => ?_) (fun c => ?_)
  · replace h := h.1 (of_decide_eq_true c)
    refine w_st (i' := 52) (ls' := [.ref 20, .ref 12, .int x2, .int x3, .int x4, d5, d6]) (st' := [.int x2]) (E' := E) (I' := I) (J' := J) (S' := S) am_e40 rfl rfl rfl rfl ?_
    refine w_st (i' := 53) (ls' := [.ref 20, .ref 12, .int x2, .int x3, .int x4, d5, d6]) (st' := [.int (nI 31), .int x2]) (E' := E) (I' := I) (J' := J) (S' := S) am_e40 rfl rfl rfl rfl ?_
    refine w_st (i' := 54) (ls' := [.ref 20, .ref 12, .int x2, .int x3, .int x4, d5, d6]) (st' := [.int (x2 * (nI 31))]) (E' := E) (I' := I) (J' := J) (S' := S) am_e40 rfl rfl rfl rfl ?_
    refine w_st (i' := 55) (ls' := [.ref 20, .ref 12, .int x2, .int x3, .int x4, d5, d6]) (st' := [.ref 20, .int (x2 * (nI 31))]) (E' := E) (I' := I) (J' := J) (S' := S) am_e40 rfl rfl rfl rfl ?_
    refine w_st (i' := 56) (ls' := [.ref 20, .ref 12, .int x2, .int x3, .int x4, d5, d6]) (st' := [.ref 23, .int (x2 * (nI 31))]) (E' := E) (I' := I) (J' := J) (S' := S) am_e40 rfl rfl rfl rfl ?_
    refine w_st (i' := 57) (ls' := [.ref 20, .ref 12, .int x2, .int x3, .int x4, d5, d6]) (st' := [.int x3, .ref 23, .int (x2 * (nI 31))]) (E' := E) (I' := I) (J' := J) (S' := S) am_e40 rfl rfl rfl rfl ?_
    have hf1 := h.1
    replace h := h.2
    refine w_ia (k := 23) (n := 4) (jn := x3.toNatClampNeg) am_e40 rfl rfl (by decide) hf1 rfl ?_
    refine w_st (i' := 59) (ls' := [.ref 20, .ref 12, .int x2, .int x3, .int x4, d5, d6]) (st' := [.int ((x2 * (nI 31)) + ((I 23) x3.toNatClampNeg))]) (E' := E) (I' := I) (J' := J) (S' := S) am_e40 rfl rfl rfl rfl ?_
    refine w_st (i' := 60) (ls' := [.ref 20, .ref 12, .int ((x2 * (nI 31)) + ((I 23) x3.toNatClampNeg)), .int x3, .int x4, d5, d6]) (st' := []) (E' := E) (I' := I) (J' := J) (S' := S) am_e40 rfl rfl rfl rfl ?_
    refine w_var (fun w2 => am_ww 40 60 [.ref 20, .ref 12, .int w2, .int x3, .int x4, d5, d6] [] E I J S _) ((x2 * (nI 31)) + ((I 23) x3.toNatClampNeg)) (fun w2 hw2 => ?_)
    replace h := h w2 hw2
    refine w_st (i' := 61) (ls' := [.ref 20, .ref 12, .int w2, .int x3, .int x4, d5, d6]) (st' := [.int w2]) (E' := E) (I' := I) (J' := J) (S' := S) am_e40 rfl rfl rfl rfl ?_
    refine w_st (i' := 62) (ls' := [.ref 20, .ref 12, .int w2, .int x3, .int x4, d5, d6]) (st' := [.int (nI 31), .int w2]) (E' := E) (I' := I) (J' := J) (S' := S) am_e40 rfl rfl rfl rfl ?_
    refine w_st (i' := 63) (ls' := [.ref 20, .ref 12, .int w2, .int x3, .int x4, d5, d6]) (st' := [.int (w2 * (nI 31))]) (E' := E) (I' := I) (J' := J) (S' := S) am_e40 rfl rfl rfl rfl ?_
    refine w_st (i' := 64) (ls' := [.ref 20, .ref 12, .int w2, .int x3, .int x4, d5, d6]) (st' := [.ref 20, .int (w2 * (nI 31))]) (E' := E) (I' := I) (J' := J) (S' := S) am_e40 rfl rfl rfl rfl ?_
    refine w_st (i' := 65) (ls' := [.ref 20, .ref 12, .int w2, .int x3, .int x4, d5, d6]) (st' := [.ref 24, .int (w2 * (nI 31))]) (E' := E) (I' := I) (J' := J) (S' := S) am_e40 rfl rfl rfl rfl ?_
    refine w_st (i' := 66) (ls' := [.ref 20, .ref 12, .int w2, .int x3, .int x4, d5, d6]) (st' := [.int x3, .ref 24, .int (w2 * (nI 31))]) (E' := E) (I' := I) (J' := J) (S' := S) am_e40 rfl rfl rfl rfl ?_
    refine w_ia (k := 24) (n := 4) (jn := x3.toNatClampNeg) am_e40 rfl rfl (by decide) hf1 rfl ?_
    refine w_st (i' := 68) (ls' := [.ref 20, .ref 12, .int w2, .int x3, .int x4, d5, d6]) (st' := [.int ((w2 * (nI 31)) + ((I 24) x3.toNatClampNeg))]) (E' := E) (I' := I) (J' := J) (S' := S) am_e40 rfl rfl rfl rfl ?_
    refine w_st (i' := 69) (ls' := [.ref 20, .ref 12, .int ((w2 * (nI 31)) + ((I 24) x3.toNatClampNeg)), .int x3, .int x4, d5, d6]) (st' := []) (E' := E) (I' := I) (J' := J) (S' := S) am_e40 rfl rfl rfl rfl ?_
    refine w_var (fun w3 => am_ww 40 69 [.ref 20, .ref 12, .int w3, .int x3, .int x4, d5, d6] [] E I J S _) ((w2 * (nI 31)) + ((I 24) x3.toNatClampNeg)) (fun w3 hw3 => ?_)
    replace h := h w3 hw3
    refine w_st (i' := 70) (ls' := [.ref 20, .ref 12, .int w3, .int (x3 + nI 1), .int x4, d5, d6]) (st' := []) (E' := E) (I' := I) (J' := J) (S' := S) am_e40 rfl rfl rfl rfl ?_
    refine w_st (i' := 27) (ls' := [.ref 20, .ref 12, .int w3, .int (x3 + nI 1), .int x4, d5, d6]) (st' := []) (E' := E) (I' := I) (J' := J) (S' := S) am_e40 rfl rfl rfl rfl ?_
    exact h
  · replace h := h.2 (of_decide_eq_false c)
    refine w_st (i' := 37) (ls' := [.ref 20, .ref 12, .int x2, .int x3, .int x4, d5, d6]) (st' := [.int x2]) (E' := E) (I' := I) (J' := J) (S' := S) am_e40 rfl rfl rfl rfl ?_
    refine w_st (i' := 38) (ls' := [.ref 20, .ref 12, .int x2, .int x3, .int x4, d5, d6]) (st' := [.int (nI 31), .int x2]) (E' := E) (I' := I) (J' := J) (S' := S) am_e40 rfl rfl rfl rfl ?_
    refine w_st (i' := 39) (ls' := [.ref 20, .ref 12, .int x2, .int x3, .int x4, d5, d6]) (st' := [.int (x2 * (nI 31))]) (E' := E) (I' := I) (J' := J) (S' := S) am_e40 rfl rfl rfl rfl ?_
    refine w_st (i' := 40) (ls' := [.ref 20, .ref 12, .int x2, .int x3, .int x4, d5, d6]) (st' := [.ref 20, .int (x2 * (nI 31))]) (E' := E) (I' := I) (J' := J) (S' := S) am_e40 rfl rfl rfl rfl ?_
    refine w_st (i' := 41) (ls' := [.ref 20, .ref 12, .int x2, .int x3, .int x4, d5, d6]) (st' := [.ref 22, .int (x2 * (nI 31))]) (E' := E) (I' := I) (J' := J) (S' := S) am_e40 rfl rfl rfl rfl ?_
    refine w_st (i' := 42) (ls' := [.ref 20, .ref 12, .int x2, .int x3, .int x4, d5, d6]) (st' := [.int x3, .ref 22, .int (x2 * (nI 31))]) (E' := E) (I' := I) (J' := J) (S' := S) am_e40 rfl rfl rfl rfl ?_
    refine w_st (i' := 43) (ls' := [.ref 20, .ref 12, .int x2, .int x3, .int x4, d5, d6]) (st' := [.int (nI 4), .int x3, .ref 22, .int (x2 * (nI 31))]) (E' := E) (I' := I) (J' := J) (S' := S) am_e40 rfl rfl rfl rfl ?_
    refine w_st (i' := 44) (ls' := [.ref 20, .ref 12, .int x2, .int x3, .int x4, d5, d6]) (st' := [.int (x3 * (nI 4)), .ref 22, .int (x2 * (nI 31))]) (E' := E) (I' := I) (J' := J) (S' := S) am_e40 rfl rfl rfl rfl ?_
    refine w_st (i' := 45) (ls' := [.ref 20, .ref 12, .int x2, .int x3, .int x4, d5, d6]) (st' := [.int x4, .int (x3 * (nI 4)), .ref 22, .int (x2 * (nI 31))]) (E' := E) (I' := I) (J' := J) (S' := S) am_e40 rfl rfl rfl rfl ?_
    refine w_st (i' := 46) (ls' := [.ref 20, .ref 12, .int x2, .int x3, .int x4, d5, d6]) (st' := [.int ((x3 * (nI 4)) + x4), .ref 22, .int (x2 * (nI 31))]) (E' := E) (I' := I) (J' := J) (S' := S) am_e40 rfl rfl rfl rfl ?_
    have hf4 := h.1
    replace h := h.2
    refine w_ia (k := 22) (n := 16) (jn := ((x3 * (nI 4)) + x4).toNatClampNeg) am_e40 rfl rfl (by decide) hf4 rfl ?_
    refine w_st (i' := 48) (ls' := [.ref 20, .ref 12, .int x2, .int x3, .int x4, d5, d6]) (st' := [.int ((x2 * (nI 31)) + ((I 22) (((x3 * (nI 4)) + x4).toNatClampNeg)))]) (E' := E) (I' := I) (J' := J) (S' := S) am_e40 rfl rfl rfl rfl ?_
    refine w_st (i' := 49) (ls' := [.ref 20, .ref 12, .int ((x2 * (nI 31)) + ((I 22) (((x3 * (nI 4)) + x4).toNatClampNeg))), .int x3, .int x4, d5, d6]) (st' := []) (E' := E) (I' := I) (J' := J) (S' := S) am_e40 rfl rfl rfl rfl ?_
    refine w_var (fun w5 => am_ww 40 49 [.ref 20, .ref 12, .int w5, .int x3, .int x4, d5, d6] [] E I J S _) ((x2 * (nI 31)) + ((I 22) (((x3 * (nI 4)) + x4).toNatClampNeg))) (fun w5 hw5 => ?_)
    replace h := h w5 hw5
    refine w_st (i' := 50) (ls' := [.ref 20, .ref 12, .int w5, .int x3, .int (x4 + nI 1), d5, d6]) (st' := []) (E' := E) (I' := I) (J' := J) (S' := S) am_e40 rfl rfl rfl rfl ?_
    refine w_st (i' := 33) (ls' := [.ref 20, .ref 12, .int w5, .int x3, .int (x4 + nI 1), d5, d6]) (st' := []) (E' := E) (I' := I) (J' := J) (S' := S) am_e40 rfl rfl rfl rfl ?_
    exact h
-- 40 digestOf
theorem g40_0_61  {E : am_Ev} {I : Nat → Nat → Int32} {J : Nat → Nat → Int64} {S : Nat → Nat → Option Nat} {Q : am_Qt}  (h : am_ww 40 10 [.ref 61, .ref 12, .int (nI 7), .ref 62, .int (nI 16), .int (nI 0), am_U] [] E I J S Q) : am_ww 40 0 [.ref 61, .ref 12, am_U, am_U, am_U, am_U, am_U] [] E I J S Q := by
  refine w_st (i' := 1) (ls' := [.ref 61, .ref 12, am_U, am_U, am_U, am_U, am_U]) (st' := [.int (nI 7)]) (E' := E) (I' := I) (J' := J) (S' := S) am_e40 rfl rfl rfl rfl ?_
  refine w_st (i' := 2) (ls' := [.ref 61, .ref 12, .int (nI 7), am_U, am_U, am_U, am_U]) (st' := []) (E' := E) (I' := I) (J' := J) (S' := S) am_e40 rfl rfl rfl rfl ?_
  refine w_st (i' := 3) (ls' := [.ref 61, .ref 12, .int (nI 7), am_U, am_U, am_U, am_U]) (st' := [.ref 61]) (E' := E) (I' := I) (J' := J) (S' := S) am_e40 rfl rfl rfl rfl ?_
  refine w_st (i' := 4) (ls' := [.ref 61, .ref 12, .int (nI 7), am_U, am_U, am_U, am_U]) (st' := [.ref 62]) (E' := E) (I' := I) (J' := J) (S' := S) am_e40 rfl rfl rfl rfl ?_
  refine w_st (i' := 5) (ls' := [.ref 61, .ref 12, .int (nI 7), .ref 62, am_U, am_U, am_U]) (st' := []) (E' := E) (I' := I) (J' := J) (S' := S) am_e40 rfl rfl rfl rfl ?_
  refine w_st (i' := 6) (ls' := [.ref 61, .ref 12, .int (nI 7), .ref 62, am_U, am_U, am_U]) (st' := [.ref 62]) (E' := E) (I' := I) (J' := J) (S' := S) am_e40 rfl rfl rfl rfl ?_
  refine w_st (i' := 7) (ls' := [.ref 61, .ref 12, .int (nI 7), .ref 62, am_U, am_U, am_U]) (st' := [.int (nI 16)]) (E' := E) (I' := I) (J' := J) (S' := S) am_e40 rfl rfl rfl rfl ?_
  refine w_st (i' := 8) (ls' := [.ref 61, .ref 12, .int (nI 7), .ref 62, .int (nI 16), am_U, am_U]) (st' := []) (E' := E) (I' := I) (J' := J) (S' := S) am_e40 rfl rfl rfl rfl ?_
  refine w_st (i' := 9) (ls' := [.ref 61, .ref 12, .int (nI 7), .ref 62, .int (nI 16), am_U, am_U]) (st' := [.int (nI 0)]) (E' := E) (I' := I) (J' := J) (S' := S) am_e40 rfl rfl rfl rfl ?_
  refine w_st (i' := 10) (ls' := [.ref 61, .ref 12, .int (nI 7), .ref 62, .int (nI 16), .int (nI 0), am_U]) (st' := []) (E' := E) (I' := I) (J' := J) (S' := S) am_e40 rfl rfl rfl rfl ?_
  exact h
theorem g40_10_61 {x2 : Int32} {x4 : Int32} {x5 : Int32} {d6 : Value} {E : am_Ev} {I : Nat → Nat → Int32} {J : Nat → Nat → Int64} {S : Nat → Nat → Option Nat} {Q : am_Qt} (hd6 : am_isL d6 = false) (h : (x4 ≤ x5 → (am_ww 40 27 [.ref 61, .ref 12, .int x2, .int (nI 0), .int x4, .int x5, d6] [] E I J S Q)) ∧ (¬ x4 ≤ x5 → (vp_in x5 16 ∧ (∀ w2 : Int32, w2 = ((x2 * (nI 31)) + ((I 62) x5.toNatClampNeg)) → (am_ww 40 10 [.ref 61, .ref 12, .int w2, .ref 62, .int x4, .int (x5 + nI 1), .int ((I 62) x5.toNatClampNeg)] [] E I J S Q))))) : am_ww 40 10 [.ref 61, .ref 12, .int x2, .ref 62, .int x4, .int x5, d6] [] E I J S Q := by
  refine w_st (i' := 11) (ls' := [.ref 61, .ref 12, .int x2, .ref 62, .int x4, .int x5, d6]) (st' := [.int x5]) (E' := E) (I' := I) (J' := J) (S' := S) am_e40 rfl rfl rfl rfl ?_
  refine w_st (i' := 12) (ls' := [.ref 61, .ref 12, .int x2, .ref 62, .int x4, .int x5, d6]) (st' := [.int x4, .int x5]) (E' := E) (I' := I) (J' := J) (S' := S) am_e40 rfl rfl rfl rfl ?_
  refine w_if2 am_e40 rfl rfl (fun c => ?_) (fun c => ?_)
  · replace h := h.1 (of_decide_eq_true c)
    refine w_st (i' := 26) (ls' := [.ref 61, .ref 12, .int x2, .ref 62, .int x4, .int x5, d6]) (st' := [.int (nI 0)]) (E' := E) (I' := I) (J' := J) (S' := S) am_e40 rfl rfl rfl rfl ?_
    refine w_st (i' := 27) (ls' := [.ref 61, .ref 12, .int x2, .int (nI 0), .int x4, .int x5, d6]) (st' := []) (E' := E) (I' := I) (J' := J) (S' := S) am_e40 rfl rfl rfl rfl ?_
    exact h
  · replace h := h.2 (of_decide_eq_false c)
    refine w_st (i' := 14) (ls' := [.ref 61, .ref 12, .int x2, .ref 62, .int x4, .int x5, d6]) (st' := [.ref 62]) (E' := E) (I' := I) (J' := J) (S' := S) am_e40 rfl rfl rfl rfl ?_
    refine w_st (i' := 15) (ls' := [.ref 61, .ref 12, .int x2, .ref 62, .int x4, .int x5, d6]) (st' := [.int x5, .ref 62]) (E' := E) (I' := I) (J' := J) (S' := S) am_e40 rfl rfl rfl rfl ?_
    have hf1 := h.1
    replace h := h.2
    refine w_ia (k := 62) (n := 16) (jn := x5.toNatClampNeg) am_e40 rfl rfl (by decide) hf1 rfl ?_
    refine w_st (i' := 17) (ls' := [.ref 61, .ref 12, .int x2, .ref 62, .int x4, .int x5, .int ((I 62) x5.toNatClampNeg)]) (st' := []) (E' := E) (I' := I) (J' := J) (S' := S) am_e40 rfl rfl rfl rfl ?_
    refine w_st (i' := 18) (ls' := [.ref 61, .ref 12, .int x2, .ref 62, .int x4, .int x5, .int ((I 62) x5.toNatClampNeg)]) (st' := [.int x2]) (E' := E) (I' := I) (J' := J) (S' := S) am_e40 rfl rfl rfl rfl ?_
    refine w_st (i' := 19) (ls' := [.ref 61, .ref 12, .int x2, .ref 62, .int x4, .int x5, .int ((I 62) x5.toNatClampNeg)]) (st' := [.int (nI 31), .int x2]) (E' := E) (I' := I) (J' := J) (S' := S) am_e40 rfl rfl rfl rfl ?_
    refine w_st (i' := 20) (ls' := [.ref 61, .ref 12, .int x2, .ref 62, .int x4, .int x5, .int ((I 62) x5.toNatClampNeg)]) (st' := [.int (x2 * (nI 31))]) (E' := E) (I' := I) (J' := J) (S' := S) am_e40 rfl rfl rfl rfl ?_
    refine w_st (i' := 21) (ls' := [.ref 61, .ref 12, .int x2, .ref 62, .int x4, .int x5, .int ((I 62) x5.toNatClampNeg)]) (st' := [.int ((I 62) x5.toNatClampNeg), .int (x2 * (nI 31))]) (E' := E) (I' := I) (J' := J) (S' := S) am_e40 rfl rfl rfl rfl ?_
    refine w_st (i' := 22) (ls' := [.ref 61, .ref 12, .int x2, .ref 62, .int x4, .int x5, .int ((I 62) x5.toNatClampNeg)]) (st' := [.int ((x2 * (nI 31)) + ((I 62) x5.toNatClampNeg))]) (E' := E) (I' := I) (J' := J) (S' := S) am_e40 rfl rfl rfl rfl ?_
    refine w_st (i' := 23) (ls' := [.ref 61, .ref 12, .int ((x2 * (nI 31)) + ((I 62) x5.toNatClampNeg)), .ref 62, .int x4, .int x5, .int ((I 62) x5.toNatClampNeg)]) (st' := []) (E' := E) (I' := I) (J' := J) (S' := S) am_e40 rfl rfl rfl rfl ?_
    refine w_var (fun w2 => am_ww 40 23 [.ref 61, .ref 12, .int w2, .ref 62, .int x4, .int x5, .int ((I 62) x5.toNatClampNeg)] [] E I J S _) ((x2 * (nI 31)) + ((I 62) x5.toNatClampNeg)) (fun w2 hw2 => ?_)
    replace h := h w2 hw2
    refine w_st (i' := 24) (ls' := [.ref 61, .ref 12, .int w2, .ref 62, .int x4, .int (x5 + nI 1), .int ((I 62) x5.toNatClampNeg)]) (st' := []) (E' := E) (I' := I) (J' := J) (S' := S) am_e40 rfl rfl rfl rfl ?_
    refine w_st (i' := 10) (ls' := [.ref 61, .ref 12, .int w2, .ref 62, .int x4, .int (x5 + nI 1), .int ((I 62) x5.toNatClampNeg)]) (st' := []) (E' := E) (I' := I) (J' := J) (S' := S) am_e40 rfl rfl rfl rfl ?_
    exact h
theorem g40_27_61 {x2 : Int32} {x3 : Int32} {d4 : Value} {d5 : Value} {d6 : Value} {E : am_Ev} {I : Nat → Nat → Int32} {J : Nat → Nat → Int64} {S : Nat → Nat → Option Nat} {Q : am_Qt} (hd4 : am_isL d4 = false) (hd5 : am_isL d5 = false) (hd6 : am_isL d6 = false) (h : (((I 12) 5) ≤ x3 → (am_ww 40 79 [.ref 61, .ref 12, .int x2, .ref 66, .int (nI 4), .int (nI 0), d6] [] E I J S Q)) ∧ (¬ ((I 12) 5) ≤ x3 → (am_ww 40 33 [.ref 61, .ref 12, .int x2, .int x3, .int (nI 0), d5, d6] [] E I J S Q))) : am_ww 40 27 [.ref 61, .ref 12, .int x2, .int x3, d4, d5, d6] [] E I J S Q := by
  refine w_st (i' := 28) (ls' := [.ref 61, .ref 12, .int x2, .int x3, d4, d5, d6]) (st' := [.int x3]) (E' := E) (I' := I) (J' := J) (S' := S) am_e40 rfl rfl rfl rfl ?_
  refine w_st (i' := 29) (ls' := [.ref 61, .ref 12, .int x2, .int x3, d4, d5, d6]) (st' := [.ref 12, .int x3]) (E' := E) (I' := I) (J' := J) (S' := S) am_e40 rfl rfl rfl rfl ?_
  refine w_st (i' := 30) (ls' := [.ref 61, .ref 12, .int x2, .int x3, d4, d5, d6]) (st' := [.int ((I 12) 5), .int x3]) (E' := E) (I' := I) (J' := J) (S' := S) am_e40 rfl rfl rfl rfl ?_
  refine w_if2 am_e40 rfl rfl (fun c => ?_) (fun c => ?_)
  · replace h := h.1 (of_decide_eq_true c)
    refine w_st (i' := 72) (ls' := [.ref 61, .ref 12, .int x2, .int x3, d4, d5, d6]) (st' := [.ref 61]) (E' := E) (I' := I) (J' := J) (S' := S) am_e40 rfl rfl rfl rfl ?_
    refine w_st (i' := 73) (ls' := [.ref 61, .ref 12, .int x2, .int x3, d4, d5, d6]) (st' := [.ref 66]) (E' := E) (I' := I) (J' := J) (S' := S) am_e40 rfl rfl rfl rfl ?_
    refine w_st (i' := 74) (ls' := [.ref 61, .ref 12, .int x2, .ref 66, d4, d5, d6]) (st' := []) (E' := E) (I' := I) (J' := J) (S' := S) am_e40 rfl rfl rfl rfl ?_
    refine w_st (i' := 75) (ls' := [.ref 61, .ref 12, .int x2, .ref 66, d4, d5, d6]) (st' := [.ref 66]) (E' := E) (I' := I) (J' := J) (S' := S) am_e40 rfl rfl rfl rfl ?_
    refine w_st (i' := 76) (ls' := [.ref 61, .ref 12, .int x2, .ref 66, d4, d5, d6]) (st' := [.int (nI 4)]) (E' := E) (I' := I) (J' := J) (S' := S) am_e40 rfl rfl rfl rfl ?_
    refine w_st (i' := 77) (ls' := [.ref 61, .ref 12, .int x2, .ref 66, .int (nI 4), d5, d6]) (st' := []) (E' := E) (I' := I) (J' := J) (S' := S) am_e40 rfl rfl rfl rfl ?_
    refine w_st (i' := 78) (ls' := [.ref 61, .ref 12, .int x2, .ref 66, .int (nI 4), d5, d6]) (st' := [.int (nI 0)]) (E' := E) (I' := I) (J' := J) (S' := S) am_e40 rfl rfl rfl rfl ?_
    refine w_st (i' := 79) (ls' := [.ref 61, .ref 12, .int x2, .ref 66, .int (nI 4), .int (nI 0), d6]) (st' := []) (E' := E) (I' := I) (J' := J) (S' := S) am_e40 rfl rfl rfl rfl ?_
    exact h
  · replace h := h.2 (of_decide_eq_false c)
    refine w_st (i' := 32) (ls' := [.ref 61, .ref 12, .int x2, .int x3, d4, d5, d6]) (st' := [.int (nI 0)]) (E' := E) (I' := I) (J' := J) (S' := S) am_e40 rfl rfl rfl rfl ?_
    refine w_st (i' := 33) (ls' := [.ref 61, .ref 12, .int x2, .int x3, .int (nI 0), d5, d6]) (st' := []) (E' := E) (I' := I) (J' := J) (S' := S) am_e40 rfl rfl rfl rfl ?_
    exact h
theorem g40_79_61 {d1 : Value} {x2 : Int32} {x4 : Int32} {x5 : Int32} {d6 : Value} {E : am_Ev} {I : Nat → Nat → Int32} {J : Nat → Nat → Int64} {S : Nat → Nat → Option Nat} {Q : am_Qt} (hd1 : am_isL d1 = false) (hd6 : am_isL d6 = false) (h : (x4 ≤ x5 → (Q (.inl (some (.int ((x2 * (nI 31)) + ((I 61) 6))))) E I J S)) ∧ (¬ x4 ≤ x5 → (vp_in x5 4 ∧ (∀ w2 : Int32, w2 = ((x2 * (nI 31)) + ((I 66) x5.toNatClampNeg)) → (am_ww 40 79 [.ref 61, d1, .int w2, .ref 66, .int x4, .int (x5 + nI 1), .int ((I 66) x5.toNatClampNeg)] [] E I J S Q))))) : am_ww 40 79 [.ref 61, d1, .int x2, .ref 66, .int x4, .int x5, d6] [] E I J S Q := by
  refine w_st (i' := 80) (ls' := [.ref 61, d1, .int x2, .ref 66, .int x4, .int x5, d6]) (st' := [.int x5]) (E' := E) (I' := I) (J' := J) (S' := S) am_e40 rfl rfl rfl rfl ?_
  refine w_st (i' := 81) (ls' := [.ref 61, d1, .int x2, .ref 66, .int x4, .int x5, d6]) (st' := [.int x4, .int x5]) (E' := E) (I' := I) (J' := J) (S' := S) am_e40 rfl rfl rfl rfl ?_
  refine w_if2 am_e40 rfl rfl (fun c => ?_) (fun c => ?_)
  · replace h := h.1 (of_decide_eq_true c)
    refine w_st (i' := 95) (ls' := [.ref 61, d1, .int x2, .ref 66, .int x4, .int x5, d6]) (st' := [.int x2]) (E' := E) (I' := I) (J' := J) (S' := S) am_e40 rfl rfl rfl rfl ?_
    refine w_st (i' := 96) (ls' := [.ref 61, d1, .int x2, .ref 66, .int x4, .int x5, d6]) (st' := [.int (nI 31), .int x2]) (E' := E) (I' := I) (J' := J) (S' := S) am_e40 rfl rfl rfl rfl ?_
    refine w_st (i' := 97) (ls' := [.ref 61, d1, .int x2, .ref 66, .int x4, .int x5, d6]) (st' := [.int (x2 * (nI 31))]) (E' := E) (I' := I) (J' := J) (S' := S) am_e40 rfl rfl rfl rfl ?_
    refine w_st (i' := 98) (ls' := [.ref 61, d1, .int x2, .ref 66, .int x4, .int x5, d6]) (st' := [.ref 61, .int (x2 * (nI 31))]) (E' := E) (I' := I) (J' := J) (S' := S) am_e40 rfl rfl rfl rfl ?_
    refine w_st (i' := 99) (ls' := [.ref 61, d1, .int x2, .ref 66, .int x4, .int x5, d6]) (st' := [.int ((I 61) 6), .int (x2 * (nI 31))]) (E' := E) (I' := I) (J' := J) (S' := S) am_e40 rfl rfl rfl rfl ?_
    refine w_st (i' := 100) (ls' := [.ref 61, d1, .int x2, .ref 66, .int x4, .int x5, d6]) (st' := [.int ((x2 * (nI 31)) + ((I 61) 6))]) (E' := E) (I' := I) (J' := J) (S' := S) am_e40 rfl rfl rfl rfl ?_
    exact w_ri am_e40 rfl rfl h
  · replace h := h.2 (of_decide_eq_false c)
    refine w_st (i' := 83) (ls' := [.ref 61, d1, .int x2, .ref 66, .int x4, .int x5, d6]) (st' := [.ref 66]) (E' := E) (I' := I) (J' := J) (S' := S) am_e40 rfl rfl rfl rfl ?_
    refine w_st (i' := 84) (ls' := [.ref 61, d1, .int x2, .ref 66, .int x4, .int x5, d6]) (st' := [.int x5, .ref 66]) (E' := E) (I' := I) (J' := J) (S' := S) am_e40 rfl rfl rfl rfl ?_
    have hf1 := h.1
    replace h := h.2
    refine w_ia (k := 66) (n := 4) (jn := x5.toNatClampNeg) am_e40 rfl rfl (by decide) hf1 rfl ?_
    refine w_st (i' := 86) (ls' := [.ref 61, d1, .int x2, .ref 66, .int x4, .int x5, .int ((I 66) x5.toNatClampNeg)]) (st' := []) (E' := E) (I' := I) (J' := J) (S' := S) am_e40 rfl rfl rfl rfl ?_
    refine w_st (i' := 87) (ls' := [.ref 61, d1, .int x2, .ref 66, .int x4, .int x5, .int ((I 66) x5.toNatClampNeg)]) (st' := [.int x2]) (E' := E) (I' := I) (J' := J) (S' := S) am_e40 rfl rfl rfl rfl ?_
    refine w_st (i' := 88) (ls' := [.ref 61, d1, .int x2, .ref 66, .int x4, .int x5, .int ((I 66) x5.toNatClampNeg)]) (st' := [.int (nI 31), .int x2]) (E' := E) (I' := I) (J' := J) (S' := S) am_e40 rfl rfl rfl rfl ?_
    refine w_st (i' := 89) (ls' := [.ref 61, d1, .int x2, .ref 66, .int x4, .int x5, .int ((I 66) x5.toNatClampNeg)]) (st' := [.int (x2 * (nI 31))]) (E' := E) (I' := I) (J' := J) (S' := S) am_e40 rfl rfl rfl rfl ?_
    refine w_st (i' := 90) (ls' := [.ref 61, d1, .int x2, .ref 66, .int x4, .int x5, .int ((I 66) x5.toNatClampNeg)]) (st' := [.int ((I 66) x5.toNatClampNeg), .int (x2 * (nI 31))]) (E' := E) (I' := I) (J' := J) (S' := S) am_e40 rfl rfl rfl rfl ?_
    refine w_st (i' := 91) (ls' := [.ref 61, d1, .int x2, .ref 66, .int x4, .int x5, .int ((I 66) x5.toNatClampNeg)]) (st' := [.int ((x2 * (nI 31)) + ((I 66) x5.toNatClampNeg))]) (E' := E) (I' := I) (J' := J) (S' := S) am_e40 rfl rfl rfl rfl ?_
    refine w_st (i' := 92) (ls' := [.ref 61, d1, .int ((x2 * (nI 31)) + ((I 66) x5.toNatClampNeg)), .ref 66, .int x4, .int x5, .int ((I 66) x5.toNatClampNeg)]) (st' := []) (E' := E) (I' := I) (J' := J) (S' := S) am_e40 rfl rfl rfl (by simp [am_step, am_sto, hd1]) ?_
    refine w_var (fun w2 => am_ww 40 92 [.ref 61, d1, .int w2, .ref 66, .int x4, .int x5, .int ((I 66) x5.toNatClampNeg)] [] E I J S _) ((x2 * (nI 31)) + ((I 66) x5.toNatClampNeg)) (fun w2 hw2 => ?_)
    replace h := h w2 hw2
    refine w_st (i' := 93) (ls' := [.ref 61, d1, .int w2, .ref 66, .int x4, .int (x5 + nI 1), .int ((I 66) x5.toNatClampNeg)]) (st' := []) (E' := E) (I' := I) (J' := J) (S' := S) am_e40 rfl rfl rfl rfl ?_
    refine w_st (i' := 79) (ls' := [.ref 61, d1, .int w2, .ref 66, .int x4, .int (x5 + nI 1), .int ((I 66) x5.toNatClampNeg)]) (st' := []) (E' := E) (I' := I) (J' := J) (S' := S) am_e40 rfl rfl rfl rfl ?_
    exact h
theorem g40_33_61 {x2 : Int32} {x3 : Int32} {x4 : Int32} {d5 : Value} {d6 : Value} {E : am_Ev} {I : Nat → Nat → Int32} {J : Nat → Nat → Int64} {S : Nat → Nat → Option Nat} {Q : am_Qt} (hd5 : am_isL d5 = false) (hd6 : am_isL d6 = false) (h : ((nI 4) ≤ x4 → (vp_in x3 4 ∧ (∀ w2 : Int32, w2 = ((x2 * (nI 31)) + ((I 64) x3.toNatClampNeg)) → (∀ w3 : Int32, w3 = ((w2 * (nI 31)) + ((I 65) x3.toNatClampNeg)) → (am_ww 40 27 [.ref 61, .ref 12, .int w3, .int (x3 + nI 1), .int x4, d5, d6] [] E I J S Q))))) ∧ (¬ (nI 4) ≤ x4 → (vp_in ((x3 * (nI 4)) + x4) 16 ∧ (∀ w5 : Int32, w5 = ((x2 * (nI 31)) + ((I 63) (((x3 * (nI 4)) + x4).toNatClampNeg))) → (am_ww 40 33 [.ref 61, .ref 12, .int w5, .int x3, .int (x4 + nI 1), d5, d6] [] E I J S Q))))) : am_ww 40 33 [.ref 61, .ref 12, .int x2, .int x3, .int x4, d5, d6] [] E I J S Q := by
  refine w_st (i' := 34) (ls' := [.ref 61, .ref 12, .int x2, .int x3, .int x4, d5, d6]) (st' := [.int x4]) (E' := E) (I' := I) (J' := J) (S' := S) am_e40 rfl rfl rfl rfl ?_
  refine w_st (i' := 35) (ls' := [.ref 61, .ref 12, .int x2, .int x3, .int x4, d5, d6]) (st' := [.int (nI 4), .int x4]) (E' := E) (I' := I) (J' := J) (S' := S) am_e40 rfl rfl rfl rfl ?_
  refine w_if2 am_e40 rfl rfl (fun c => ?_) (fun c => ?_)
  · replace h := h.1 (of_decide_eq_true c)
    refine w_st (i' := 52) (ls' := [.ref 61, .ref 12, .int x2, .int x3, .int x4, d5, d6]) (st' := [.int x2]) (E' := E) (I' := I) (J' := J) (S' := S) am_e40 rfl rfl rfl rfl ?_
    refine w_st (i' := 53) (ls' := [.ref 61, .ref 12, .int x2, .int x3, .int x4, d5, d6]) (st' := [.int (nI 31), .int x2]) (E' := E) (I' := I) (J' := J) (S' := S) am_e40 rfl rfl rfl rfl ?_
    refine w_st (i' := 54) (ls' := [.ref 61, .ref 12, .int x2, .int x3, .int x4, d5, d6]) (st' := [.int (x2 * (nI 31))]) (E' := E) (I' := I) (J' := J) (S' := S) am_e40 rfl rfl rfl rfl ?_
    refine w_st (i' := 55) (ls' := [.ref 61, .ref 12, .int x2, .int x3, .int x4, d5, d6]) (st' := [.ref 61, .int (x2 * (nI 31))]) (E' := E) (I' := I) (J' := J) (S' := S) am_e40 rfl rfl rfl rfl ?_
    refine w_st (i' := 56) (ls' := [.ref 61, .ref 12, .int x2, .int x3, .int x4, d5, d6]) (st' := [.ref 64, .int (x2 * (nI 31))]) (E' := E) (I' := I) (J' := J) (S' := S) am_e40 rfl rfl rfl rfl ?_
    refine w_st (i' := 57) (ls' := [.ref 61, .ref 12, .int x2, .int x3, .int x4, d5, d6]) (st' := [.int x3, .ref 64, .int (x2 * (nI 31))]) (E' := E) (I' := I) (J' := J) (S' := S) am_e40 rfl rfl rfl rfl ?_
    have hf1 := h.1
    replace h := h.2
    refine w_ia (k := 64) (n := 4) (jn := x3.toNatClampNeg) am_e40 rfl rfl (by decide) hf1 rfl ?_
    refine w_st (i' := 59) (ls' := [.ref 61, .ref 12, .int x2, .int x3, .int x4, d5, d6]) (st' := [.int ((x2 * (nI 31)) + ((I 64) x3.toNatClampNeg))]) (E' := E) (I' := I) (J' := J) (S' := S) am_e40 rfl rfl rfl rfl ?_
    refine w_st (i' := 60) (ls' := [.ref 61, .ref 12, .int ((x2 * (nI 31)) + ((I 64) x3.toNatClampNeg)), .int x3, .int x4, d5, d6]) (st' := []) (E' := E) (I' := I) (J' := J) (S' := S) am_e40 rfl rfl rfl rfl ?_
    refine w_var (fun w2 => am_ww 40 60 [.ref 61, .ref 12, .int w2, .int x3, .int x4, d5, d6] [] E I J S _) ((x2 * (nI 31)) + ((I 64) x3.toNatClampNeg)) (fun w2 hw2 => ?_)
    replace h := h w2 hw2
    refine w_st (i' := 61) (ls' := [.ref 61, .ref 12, .int w2, .int x3, .int x4, d5, d6]) (st' := [.int w2]) (E' := E) (I' := I) (J' := J) (S' := S) am_e40 rfl rfl rfl rfl ?_
    refine w_st (i' := 62) (ls' := [.ref 61, .ref 12, .int w2, .int x3, .int x4, d5, d6]) (st' := [.int (nI 31), .int w2]) (E' := E) (I' := I) (J' := J) (S' := S) am_e40 rfl rfl rfl rfl ?_
    refine w_st (i' := 63) (ls' := [.ref 61, .ref 12, .int w2, .int x3, .int x4, d5, d6]) (st' := [.int (w2 * (nI 31))]) (E' := E) (I' := I) (J' := J) (S' := S) am_e40 rfl rfl rfl rfl ?_
    refine w_st (i' := 64) (ls' := [.ref 61, .ref 12, .int w2, .int x3, .int x4, d5, d6]) (st' := [.ref 61, .int (w2 * (nI 31))]) (E' := E) (I' := I) (J' := J) (S' := S) am_e40 rfl rfl rfl rfl ?_
    refine w_st (i' := 65) (ls' := [.ref 61, .ref 12, .int w2, .int x3, .int x4, d5, d6]) (st' := [.ref 65, .int (w2 * (nI 31))]) (E' := E) (I' := I) (J' := J) (S' := S) am_e40 rfl rfl rfl rfl ?_
    refine w_st (i' := 66) (ls' := [.ref 61, .ref 12, .int w2, .int x3, .int x4, d5, d6]) (st' := [.int x3, .ref 65, .int (w2 * (nI 31))]) (E' := E) (I' := I) (J' := J) (S' := S) am_e40 rfl rfl rfl rfl ?_
    refine w_ia (k := 65) (n := 4) (jn := x3.toNatClampNeg) am_e40 rfl rfl (by decide) hf1 rfl ?_
    refine w_st (i' := 68) (ls' := [.ref 61, .ref 12, .int w2, .int x3, .int x4, d5, d6]) (st' := [.int ((w2 * (nI 31)) + ((I 65) x3.toNatClampNeg))]) (E' := E) (I' := I) (J' := J) (S' := S) am_e40 rfl rfl rfl rfl ?_
    refine w_st (i' := 69) (ls' := [.ref 61, .ref 12, .int ((w2 * (nI 31)) + ((I 65) x3.toNatClampNeg)), .int x3, .int x4, d5, d6]) (st' := []) (E' := E) (I' := I) (J' := J) (S' := S) am_e40 rfl rfl rfl rfl ?_
    refine w_var (fun w3 => am_ww 40 69 [.ref 61, .ref 12, .int w3, .int x3, .int x4, d5, d6] [] E I J S _) ((w2 * (nI 31)) + ((I 65) x3.toNatClampNeg)) (fun w3 hw3 => ?_)
    replace h := h w3 hw3
    refine w_st (i' := 70) (ls' := [.ref 61, .ref 12, .int w3, .int (x3 + nI 1), .int x4, d5, d6]) (st' := []) (E' := E) (I' := I) (J' := J) (S' := S) am_e40 rfl rfl rfl rfl ?_
    refine w_st (i' := 27) (ls' := [.ref 61, .ref 12, .int w3, .int (x3 + nI 1), .int x4, d5, d6]) (st' := []) (E' := E) (I' := I) (J' := J) (S' := S) am_e40 rfl rfl rfl rfl ?_
    exact h
  · replace h := h.2 (of_decide_eq_false c)
    refine w_st (i' := 37) (ls' := [.ref 61, .ref 12, .int x2, .int x3, .int x4, d5, d6]) (st' := [.int x2]) (E' := E) (I' := I) (J' := J) (S' := S) am_e40 rfl rfl rfl rfl ?_
    refine w_st (i' := 38) (ls' := [.ref 61, .ref 12, .int x2, .int x3, .int x4, d5, d6]) (st' := [.int (nI 31), .int x2]) (E' := E) (I' := I) (J' := J) (S' := S) am_e40 rfl rfl rfl rfl ?_
    refine w_st (i' := 39) (ls' := [.ref 61, .ref 12, .int x2, .int x3, .int x4, d5, d6]) (st' := [.int (x2 * (nI 31))]) (E' := E) (I' := I) (J' := J) (S' := S) am_e40 rfl rfl rfl rfl ?_
    refine w_st (i' := 40) (ls' := [.ref 61, .ref 12, .int x2, .int x3, .int x4, d5, d6]) (st' := [.ref 61, .int (x2 * (nI 31))]) (E' := E) (I' := I) (J' := J) (S' := S) am_e40 rfl rfl rfl rfl ?_
    refine w_st (i' := 41) (ls' := [.ref 61, .ref 12, .int x2, .int x3, .int x4, d5, d6]) (st' := [.ref 63, .int (x2 * (nI 31))]) (E' := E) (I' := I) (J' := J) (S' := S) am_e40 rfl rfl rfl rfl ?_
    refine w_st (i' := 42) (ls' := [.ref 61, .ref 12, .int x2, .int x3, .int x4, d5, d6]) (st' := [.int x3, .ref 63, .int (x2 * (nI 31))]) (E' := E) (I' := I) (J' := J) (S' := S) am_e40 rfl rfl rfl rfl ?_
    refine w_st (i' := 43) (ls' := [.ref 61, .ref 12, .int x2, .int x3, .int x4, d5, d6]) (st' := [.int (nI 4), .int x3, .ref 63, .int (x2 * (nI 31))]) (E' := E) (I' := I) (J' := J) (S' := S) am_e40 rfl rfl rfl rfl ?_
    refine w_st (i' := 44) (ls' := [.ref 61, .ref 12, .int x2, .int x3, .int x4, d5, d6]) (st' := [.int (x3 * (nI 4)), .ref 63, .int (x2 * (nI 31))]) (E' := E) (I' := I) (J' := J) (S' := S) am_e40 rfl rfl rfl rfl ?_
    refine w_st (i' := 45) (ls' := [.ref 61, .ref 12, .int x2, .int x3, .int x4, d5, d6]) (st' := [.int x4, .int (x3 * (nI 4)), .ref 63, .int (x2 * (nI 31))]) (E' := E) (I' := I) (J' := J) (S' := S) am_e40 rfl rfl rfl rfl ?_
    refine w_st (i' := 46) (ls' := [.ref 61, .ref 12, .int x2, .int x3, .int x4, d5, d6]) (st' := [.int ((x3 * (nI 4)) + x4), .ref 63, .int (x2 * (nI 31))]) (E' := E) (I' := I) (J' := J) (S' := S) am_e40 rfl rfl rfl rfl ?_
    have hf4 := h.1
    replace h := h.2
    refine w_ia (k := 63) (n := 16) (jn := ((x3 * (nI 4)) + x4).toNatClampNeg) am_e40 rfl rfl (by decide) hf4 rfl ?_
    refine w_st (i' := 48) (ls' := [.ref 61, .ref 12, .int x2, .int x3, .int x4, d5, d6]) (st' := [.int ((x2 * (nI 31)) + ((I 63) (((x3 * (nI 4)) + x4).toNatClampNeg)))]) (E' := E) (I' := I) (J' := J) (S' := S) am_e40 rfl rfl rfl rfl ?_
    refine w_st (i' := 49) (ls' := [.ref 61, .ref 12, .int ((x2 * (nI 31)) + ((I 63) (((x3 * (nI 4)) + x4).toNatClampNeg))), .int x3, .int x4, d5, d6]) (st' := []) (E' := E) (I' := I) (J' := J) (S' := S) am_e40 rfl rfl rfl rfl ?_
    refine w_var (fun w5 => am_ww 40 49 [.ref 61, .ref 12, .int w5, .int x3, .int x4, d5, d6] [] E I J S _) ((x2 * (nI 31)) + ((I 63) (((x3 * (nI 4)) + x4).toNatClampNeg))) (fun w5 hw5 => ?_)
    replace h := h w5 hw5
    refine w_st (i' := 50) (ls' := [.ref 61, .ref 12, .int w5, .int x3, .int (x4 + nI 1), d5, d6]) (st' := []) (E' := E) (I' := I) (J' := J) (S' := S) am_e40 rfl rfl rfl rfl ?_
    refine w_st (i' := 33) (ls' := [.ref 61, .ref 12, .int w5, .int x3, .int (x4 + nI 1), d5, d6]) (st' := []) (E' := E) (I' := I) (J' := J) (S' := S) am_e40 rfl rfl rfl rfl ?_
    exact h
-- 40 digestOf
theorem g40_0_69  {E : am_Ev} {I : Nat → Nat → Int32} {J : Nat → Nat → Int64} {S : Nat → Nat → Option Nat} {Q : am_Qt}  (h : am_ww 40 10 [.ref 69, .ref 12, .int (nI 7), .ref 70, .int (nI 16), .int (nI 0), am_U] [] E I J S Q) : am_ww 40 0 [.ref 69, .ref 12, am_U, am_U, am_U, am_U, am_U] [] E I J S Q := by
  refine w_st (i' := 1) (ls' := [.ref 69, .ref 12, am_U, am_U, am_U, am_U, am_U]) (st' := [.int (nI 7)]) (E' := E) (I' := I) (J' := J) (S' := S) am_e40 rfl rfl rfl rfl ?_
  refine w_st (i' := 2) (ls' := [.ref 69, .ref 12, .int (nI 7), am_U, am_U, am_U, am_U]) (st' := []) (E' := E) (I' := I) (J' := J) (S' := S) am_e40 rfl rfl rfl rfl ?_
  refine w_st (i' := 3) (ls' := [.ref 69, .ref 12, .int (nI 7), am_U, am_U, am_U, am_U]) (st' := [.ref 69]) (E' := E) (I' := I) (J' := J) (S' := S) am_e40 rfl rfl rfl rfl ?_
  refine w_st (i' := 4) (ls' := [.ref 69, .ref 12, .int (nI 7), am_U, am_U, am_U, am_U]) (st' := [.ref 70]) (E' := E) (I' := I) (J' := J) (S' := S) am_e40 rfl rfl rfl rfl ?_
  refine w_st (i' := 5) (ls' := [.ref 69, .ref 12, .int (nI 7), .ref 70, am_U, am_U, am_U]) (st' := []) (E' := E) (I' := I) (J' := J) (S' := S) am_e40 rfl rfl rfl rfl ?_
  refine w_st (i' := 6) (ls' := [.ref 69, .ref 12, .int (nI 7), .ref 70, am_U, am_U, am_U]) (st' := [.ref 70]) (E' := E) (I' := I) (J' := J) (S' := S) am_e40 rfl rfl rfl rfl ?_
  refine w_st (i' := 7) (ls' := [.ref 69, .ref 12, .int (nI 7), .ref 70, am_U, am_U, am_U]) (st' := [.int (nI 16)]) (E' := E) (I' := I) (J' := J) (S' := S) am_e40 rfl rfl rfl rfl ?_
  refine w_st (i' := 8) (ls' := [.ref 69, .ref 12, .int (nI 7), .ref 70, .int (nI 16), am_U, am_U]) (st' := []) (E' := E) (I' := I) (J' := J) (S' := S) am_e40 rfl rfl rfl rfl ?_
  refine w_st (i' := 9) (ls' := [.ref 69, .ref 12, .int (nI 7), .ref 70, .int (nI 16), am_U, am_U]) (st' := [.int (nI 0)]) (E' := E) (I' := I) (J' := J) (S' := S) am_e40 rfl rfl rfl rfl ?_
  refine w_st (i' := 10) (ls' := [.ref 69, .ref 12, .int (nI 7), .ref 70, .int (nI 16), .int (nI 0), am_U]) (st' := []) (E' := E) (I' := I) (J' := J) (S' := S) am_e40 rfl rfl rfl rfl ?_
  exact h
theorem g40_10_69 {x2 : Int32} {x4 : Int32} {x5 : Int32} {d6 : Value} {E : am_Ev} {I : Nat → Nat → Int32} {J : Nat → Nat → Int64} {S : Nat → Nat → Option Nat} {Q : am_Qt} (hd6 : am_isL d6 = false) (h : (x4 ≤ x5 → (am_ww 40 27 [.ref 69, .ref 12, .int x2, .int (nI 0), .int x4, .int x5, d6] [] E I J S Q)) ∧ (¬ x4 ≤ x5 → (vp_in x5 16 ∧ (∀ w2 : Int32, w2 = ((x2 * (nI 31)) + ((I 70) x5.toNatClampNeg)) → (am_ww 40 10 [.ref 69, .ref 12, .int w2, .ref 70, .int x4, .int (x5 + nI 1), .int ((I 70) x5.toNatClampNeg)] [] E I J S Q))))) : am_ww 40 10 [.ref 69, .ref 12, .int x2, .ref 70, .int x4, .int x5, d6] [] E I J S Q := by
  refine w_st (i' := 11) (ls' := [.ref 69, .ref 12, .int x2, .ref 70, .int x4, .int x5, d6]) (st' := [.int x5]) (E' := E) (I' := I) (J' := J) (S' := S) am_e40 rfl rfl rfl rfl ?_
  refine w_st (i' := 12) (ls' := [.ref 69, .ref 12, .int x2, .ref 70, .int x4, .int x5, d6]) (st' := [.int x4, .int x5]) (E' := E) (I' := I) (J' := J) (S' := S) am_e40 rfl rfl rfl rfl ?_
  refine w_if2 am_e40 rfl rfl (fun c => ?_) (fun c => ?_)
  · replace h := h.1 (of_decide_eq_true c)
    refine w_st (i' := 26) (ls' := [.ref 69, .ref 12, .int x2, .ref 70, .int x4, .int x5, d6]) (st' := [.int (nI 0)]) (E' := E) (I' := I) (J' := J) (S' := S) am_e40 rfl rfl rfl rfl ?_
    refine w_st (i' := 27) (ls' := [.ref 69, .ref 12, .int x2, .int (nI 0), .int x4, .int x5, d6]) (st' := []) (E' := E) (I' := I) (J' := J) (S' := S) am_e40 rfl rfl rfl rfl ?_
    exact h
  · replace h := h.2 (of_decide_eq_false c)
    refine w_st (i' := 14) (ls' := [.ref 69, .ref 12, .int x2, .ref 70, .int x4, .int x5, d6]) (st' := [.ref 70]) (E' := E) (I' := I) (J' := J) (S' := S) am_e40 rfl rfl rfl rfl ?_
    refine w_st (i' := 15) (ls' := [.ref 69, .ref 12, .int x2, .ref 70, .int x4, .int x5, d6]) (st' := [.int x5, .ref 70]) (E' := E) (I' := I) (J' := J) (S' := S) am_e40 rfl rfl rfl rfl ?_
    have hf1 := h.1
    replace h := h.2
    refine w_ia (k := 70) (n := 16) (jn := x5.toNatClampNeg) am_e40 rfl rfl (by decide) hf1 rfl ?_
    refine w_st (i' := 17) (ls' := [.ref 69, .ref 12, .int x2, .ref 70, .int x4, .int x5, .int ((I 70) x5.toNatClampNeg)]) (st' := []) (E' := E) (I' := I) (J' := J) (S' := S) am_e40 rfl rfl rfl rfl ?_
    refine w_st (i' := 18) (ls' := [.ref 69, .ref 12, .int x2, .ref 70, .int x4, .int x5, .int ((I 70) x5.toNatClampNeg)]) (st' := [.int x2]) (E' := E) (I' := I) (J' := J) (S' := S) am_e40 rfl rfl rfl rfl ?_
    refine w_st (i' := 19) (ls' := [.ref 69, .ref 12, .int x2, .ref 70, .int x4, .int x5, .int ((I 70) x5.toNatClampNeg)]) (st' := [.int (nI 31), .int x2]) (E' := E) (I' := I) (J' := J) (S' := S) am_e40 rfl rfl rfl rfl ?_
    refine w_st (i' := 20) (ls' := [.ref 69, .ref 12, .int x2, .ref 70, .int x4, .int x5, .int ((I 70) x5.toNatClampNeg)]) (st' := [.int (x2 * (nI 31))]) (E' := E) (I' := I) (J' := J) (S' := S) am_e40 rfl rfl rfl rfl ?_
    refine w_st (i' := 21) (ls' := [.ref 69, .ref 12, .int x2, .ref 70, .int x4, .int x5, .int ((I 70) x5.toNatClampNeg)]) (st' := [.int ((I 70) x5.toNatClampNeg), .int (x2 * (nI 31))]) (E' := E) (I' := I) (J' := J) (S' := S) am_e40 rfl rfl rfl rfl ?_
    refine w_st (i' := 22) (ls' := [.ref 69, .ref 12, .int x2, .ref 70, .int x4, .int x5, .int ((I 70) x5.toNatClampNeg)]) (st' := [.int ((x2 * (nI 31)) + ((I 70) x5.toNatClampNeg))]) (E' := E) (I' := I) (J' := J) (S' := S) am_e40 rfl rfl rfl rfl ?_
    refine w_st (i' := 23) (ls' := [.ref 69, .ref 12, .int ((x2 * (nI 31)) + ((I 70) x5.toNatClampNeg)), .ref 70, .int x4, .int x5, .int ((I 70) x5.toNatClampNeg)]) (st' := []) (E' := E) (I' := I) (J' := J) (S' := S) am_e40 rfl rfl rfl rfl ?_
    refine w_var (fun w2 => am_ww 40 23 [.ref 69, .ref 12, .int w2, .ref 70, .int x4, .int x5, .int ((I 70) x5.toNatClampNeg)] [] E I J S _) ((x2 * (nI 31)) + ((I 70) x5.toNatClampNeg)) (fun w2 hw2 => ?_)
    replace h := h w2 hw2
    refine w_st (i' := 24) (ls' := [.ref 69, .ref 12, .int w2, .ref 70, .int x4, .int (x5 + nI 1), .int ((I 70) x5.toNatClampNeg)]) (st' := []) (E' := E) (I' := I) (J' := J) (S' := S) am_e40 rfl rfl rfl rfl ?_
    refine w_st (i' := 10) (ls' := [.ref 69, .ref 12, .int w2, .ref 70, .int x4, .int (x5 + nI 1), .int ((I 70) x5.toNatClampNeg)]) (st' := []) (E' := E) (I' := I) (J' := J) (S' := S) am_e40 rfl rfl rfl rfl ?_
    exact h
theorem g40_27_69 {x2 : Int32} {x3 : Int32} {d4 : Value} {d5 : Value} {d6 : Value} {E : am_Ev} {I : Nat → Nat → Int32} {J : Nat → Nat → Int64} {S : Nat → Nat → Option Nat} {Q : am_Qt} (hd4 : am_isL d4 = false) (hd5 : am_isL d5 = false) (hd6 : am_isL d6 = false) (h : (((I 12) 5) ≤ x3 → (am_ww 40 79 [.ref 69, .ref 12, .int x2, .ref 74, .int (nI 4), .int (nI 0), d6] [] E I J S Q)) ∧ (¬ ((I 12) 5) ≤ x3 → (am_ww 40 33 [.ref 69, .ref 12, .int x2, .int x3, .int (nI 0), d5, d6] [] E I J S Q))) : am_ww 40 27 [.ref 69, .ref 12, .int x2, .int x3, d4, d5, d6] [] E I J S Q := by
  refine w_st (i' := 28) (ls' := [.ref 69, .ref 12, .int x2, .int x3, d4, d5, d6]) (st' := [.int x3]) (E' := E) (I' := I) (J' := J) (S' := S) am_e40 rfl rfl rfl rfl ?_
  refine w_st (i' := 29) (ls' := [.ref 69, .ref 12, .int x2, .int x3, d4, d5, d6]) (st' := [.ref 12, .int x3]) (E' := E) (I' := I) (J' := J) (S' := S) am_e40 rfl rfl rfl rfl ?_
  refine w_st (i' := 30) (ls' := [.ref 69, .ref 12, .int x2, .int x3, d4, d5, d6]) (st' := [.int ((I 12) 5), .int x3]) (E' := E) (I' := I) (J' := J) (S' := S) am_e40 rfl rfl rfl rfl ?_
  refine w_if2 am_e40 rfl rfl (fun c => ?_) (fun c => ?_)
  · replace h := h.1 (of_decide_eq_true c)
    refine w_st (i' := 72) (ls' := [.ref 69, .ref 12, .int x2, .int x3, d4, d5, d6]) (st' := [.ref 69]) (E' := E) (I' := I) (J' := J) (S' := S) am_e40 rfl rfl rfl rfl ?_
    refine w_st (i' := 73) (ls' := [.ref 69, .ref 12, .int x2, .int x3, d4, d5, d6]) (st' := [.ref 74]) (E' := E) (I' := I) (J' := J) (S' := S) am_e40 rfl rfl rfl rfl ?_
    refine w_st (i' := 74) (ls' := [.ref 69, .ref 12, .int x2, .ref 74, d4, d5, d6]) (st' := []) (E' := E) (I' := I) (J' := J) (S' := S) am_e40 rfl rfl rfl rfl ?_
    refine w_st (i' := 75) (ls' := [.ref 69, .ref 12, .int x2, .ref 74, d4, d5, d6]) (st' := [.ref 74]) (E' := E) (I' := I) (J' := J) (S' := S) am_e40 rfl rfl rfl rfl ?_
    refine w_st (i' := 76) (ls' := [.ref 69, .ref 12, .int x2, .ref 74, d4, d5, d6]) (st' := [.int (nI 4)]) (E' := E) (I' := I) (J' := J) (S' := S) am_e40 rfl rfl rfl rfl ?_
    refine w_st (i' := 77) (ls' := [.ref 69, .ref 12, .int x2, .ref 74, .int (nI 4), d5, d6]) (st' := []) (E' := E) (I' := I) (J' := J) (S' := S) am_e40 rfl rfl rfl rfl ?_
    refine w_st (i' := 78) (ls' := [.ref 69, .ref 12, .int x2, .ref 74, .int (nI 4), d5, d6]) (st' := [.int (nI 0)]) (E' := E) (I' := I) (J' := J) (S' := S) am_e40 rfl rfl rfl rfl ?_
    refine w_st (i' := 79) (ls' := [.ref 69, .ref 12, .int x2, .ref 74, .int (nI 4), .int (nI 0), d6]) (st' := []) (E' := E) (I' := I) (J' := J) (S' := S) am_e40 rfl rfl rfl rfl ?_
    exact h
  · replace h := h.2 (of_decide_eq_false c)
    refine w_st (i' := 32) (ls' := [.ref 69, .ref 12, .int x2, .int x3, d4, d5, d6]) (st' := [.int (nI 0)]) (E' := E) (I' := I) (J' := J) (S' := S) am_e40 rfl rfl rfl rfl ?_
    refine w_st (i' := 33) (ls' := [.ref 69, .ref 12, .int x2, .int x3, .int (nI 0), d5, d6]) (st' := []) (E' := E) (I' := I) (J' := J) (S' := S) am_e40 rfl rfl rfl rfl ?_
    exact h
theorem g40_79_69 {d1 : Value} {x2 : Int32} {x4 : Int32} {x5 : Int32} {d6 : Value} {E : am_Ev} {I : Nat → Nat → Int32} {J : Nat → Nat → Int64} {S : Nat → Nat → Option Nat} {Q : am_Qt} (hd1 : am_isL d1 = false) (hd6 : am_isL d6 = false) (h : (x4 ≤ x5 → (Q (.inl (some (.int ((x2 * (nI 31)) + ((I 69) 6))))) E I J S)) ∧ (¬ x4 ≤ x5 → (vp_in x5 4 ∧ (∀ w2 : Int32, w2 = ((x2 * (nI 31)) + ((I 74) x5.toNatClampNeg)) → (am_ww 40 79 [.ref 69, d1, .int w2, .ref 74, .int x4, .int (x5 + nI 1), .int ((I 74) x5.toNatClampNeg)] [] E I J S Q))))) : am_ww 40 79 [.ref 69, d1, .int x2, .ref 74, .int x4, .int x5, d6] [] E I J S Q := by
  refine w_st (i' := 80) (ls' := [.ref 69, d1, .int x2, .ref 74, .int x4, .int x5, d6]) (st' := [.int x5]) (E' := E) (I' := I) (J' := J) (S' := S) am_e40 rfl rfl rfl rfl ?_
  refine w_st (i' := 81) (ls' := [.ref 69, d1, .int x2, .ref 74, .int x4, .int x5, d6]) (st' := [.int x4, .int x5]) (E' := E) (I' := I) (J' := J) (S' := S) am_e40 rfl rfl rfl rfl ?_
  refine w_if2 am_e40 rfl rfl (fun c => ?_) (fun c => ?_)
  · replace h := h.1 (of_decide_eq_true c)
    refine w_st (i' := 95) (ls' := [.ref 69, d1, .int x2, .ref 74, .int x4, .int x5, d6]) (st' := [.int x2]) (E' := E) (I' := I) (J' := J) (S' := S) am_e40 rfl rfl rfl rfl ?_
    refine w_st (i' := 96) (ls' := [.ref 69, d1, .int x2, .ref 74, .int x4, .int x5, d6]) (st' := [.int (nI 31), .int x2]) (E' := E) (I' := I) (J' := J) (S' := S) am_e40 rfl rfl rfl rfl ?_
    refine w_st (i' := 97) (ls' := [.ref 69, d1, .int x2, .ref 74, .int x4, .int x5, d6]) (st' := [.int (x2 * (nI 31))]) (E' := E) (I' := I) (J' := J) (S' := S) am_e40 rfl rfl rfl rfl ?_
    refine w_st (i' := 98) (ls' := [.ref 69, d1, .int x2, .ref 74, .int x4, .int x5, d6]) (st' := [.ref 69, .int (x2 * (nI 31))]) (E' := E) (I' := I) (J' := J) (S' := S) am_e40 rfl rfl rfl rfl ?_
    refine w_st (i' := 99) (ls' := [.ref 69, d1, .int x2, .ref 74, .int x4, .int x5, d6]) (st' := [.int ((I 69) 6), .int (x2 * (nI 31))]) (E' := E) (I' := I) (J' := J) (S' := S) am_e40 rfl rfl rfl rfl ?_
    refine w_st (i' := 100) (ls' := [.ref 69, d1, .int x2, .ref 74, .int x4, .int x5, d6]) (st' := [.int ((x2 * (nI 31)) + ((I 69) 6))]) (E' := E) (I' := I) (J' := J) (S' := S) am_e40 rfl rfl rfl rfl ?_
    exact w_ri am_e40 rfl rfl h
  · replace h := h.2 (of_decide_eq_false c)
    refine w_st (i' := 83) (ls' := [.ref 69, d1, .int x2, .ref 74, .int x4, .int x5, d6]) (st' := [.ref 74]) (E' := E) (I' := I) (J' := J) (S' := S) am_e40 rfl rfl rfl rfl ?_
    refine w_st (i' := 84) (ls' := [.ref 69, d1, .int x2, .ref 74, .int x4, .int x5, d6]) (st' := [.int x5, .ref 74]) (E' := E) (I' := I) (J' := J) (S' := S) am_e40 rfl rfl rfl rfl ?_
    have hf1 := h.1
    replace h := h.2
    refine w_ia (k := 74) (n := 4) (jn := x5.toNatClampNeg) am_e40 rfl rfl (by decide) hf1 rfl ?_
    refine w_st (i' := 86) (ls' := [.ref 69, d1, .int x2, .ref 74, .int x4, .int x5, .int ((I 74) x5.toNatClampNeg)]) (st' := []) (E' := E) (I' := I) (J' := J) (S' := S) am_e40 rfl rfl rfl rfl ?_
    refine w_st (i' := 87) (ls' := [.ref 69, d1, .int x2, .ref 74, .int x4, .int x5, .int ((I 74) x5.toNatClampNeg)]) (st' := [.int x2]) (E' := E) (I' := I) (J' := J) (S' := S) am_e40 rfl rfl rfl rfl ?_
    refine w_st (i' := 88) (ls' := [.ref 69, d1, .int x2, .ref 74, .int x4, .int x5, .int ((I 74) x5.toNatClampNeg)]) (st' := [.int (nI 31), .int x2]) (E' := E) (I' := I) (J' := J) (S' := S) am_e40 rfl rfl rfl rfl ?_
    refine w_st (i' := 89) (ls' := [.ref 69, d1, .int x2, .ref 74, .int x4, .int x5, .int ((I 74) x5.toNatClampNeg)]) (st' := [.int (x2 * (nI 31))]) (E' := E) (I' := I) (J' := J) (S' := S) am_e40 rfl rfl rfl rfl ?_
    refine w_st (i' := 90) (ls' := [.ref 69, d1, .int x2, .ref 74, .int x4, .int x5, .int ((I 74) x5.toNatClampNeg)]) (st' := [.int ((I 74) x5.toNatClampNeg), .int (x2 * (nI 31))]) (E' := E) (I' := I) (J' := J) (S' := S) am_e40 rfl rfl rfl rfl ?_
    refine w_st (i' := 91) (ls' := [.ref 69, d1, .int x2, .ref 74, .int x4, .int x5, .int ((I 74) x5.toNatClampNeg)]) (st' := [.int ((x2 * (nI 31)) + ((I 74) x5.toNatClampNeg))]) (E' := E) (I' := I) (J' := J) (S' := S) am_e40 rfl rfl rfl rfl ?_
    refine w_st (i' := 92) (ls' := [.ref 69, d1, .int ((x2 * (nI 31)) + ((I 74) x5.toNatClampNeg)), .ref 74, .int x4, .int x5, .int ((I 74) x5.toNatClampNeg)]) (st' := []) (E' := E) (I' := I) (J' := J) (S' := S) am_e40 rfl rfl rfl (by simp [am_step, am_sto, hd1]) ?_
    refine w_var (fun w2 => am_ww 40 92 [.ref 69, d1, .int w2, .ref 74, .int x4, .int x5, .int ((I 74) x5.toNatClampNeg)] [] E I J S _) ((x2 * (nI 31)) + ((I 74) x5.toNatClampNeg)) (fun w2 hw2 => ?_)
    replace h := h w2 hw2
    refine w_st (i' := 93) (ls' := [.ref 69, d1, .int w2, .ref 74, .int x4, .int (x5 + nI 1), .int ((I 74) x5.toNatClampNeg)]) (st' := []) (E' := E) (I' := I) (J' := J) (S' := S) am_e40 rfl rfl rfl rfl ?_
    refine w_st (i' := 79) (ls' := [.ref 69, d1, .int w2, .ref 74, .int x4, .int (x5 + nI 1), .int ((I 74) x5.toNatClampNeg)]) (st' := []) (E' := E) (I' := I) (J' := J) (S' := S) am_e40 rfl rfl rfl rfl ?_
    exact h
theorem g40_33_69 {x2 : Int32} {x3 : Int32} {x4 : Int32} {d5 : Value} {d6 : Value} {E : am_Ev} {I : Nat → Nat → Int32} {J : Nat → Nat → Int64} {S : Nat → Nat → Option Nat} {Q : am_Qt} (hd5 : am_isL d5 = false) (hd6 : am_isL d6 = false) (h : ((nI 4) ≤ x4 → (vp_in x3 4 ∧ (∀ w2 : Int32, w2 = ((x2 * (nI 31)) + ((I 72) x3.toNatClampNeg)) → (∀ w3 : Int32, w3 = ((w2 * (nI 31)) + ((I 73) x3.toNatClampNeg)) → (am_ww 40 27 [.ref 69, .ref 12, .int w3, .int (x3 + nI 1), .int x4, d5, d6] [] E I J S Q))))) ∧ (¬ (nI 4) ≤ x4 → (vp_in ((x3 * (nI 4)) + x4) 16 ∧ (∀ w5 : Int32, w5 = ((x2 * (nI 31)) + ((I 71) (((x3 * (nI 4)) + x4).toNatClampNeg))) → (am_ww 40 33 [.ref 69, .ref 12, .int w5, .int x3, .int (x4 + nI 1), d5, d6] [] E I J S Q))))) : am_ww 40 33 [.ref 69, .ref 12, .int x2, .int x3, .int x4, d5, d6] [] E I J S Q := by
  refine w_st (i' := 34) (ls' := [.ref 69, .ref 12, .int x2, .int x3, .int x4, d5, d6]) (st' := [.int x4]) (E' := E) (I' := I) (J' := J) (S' := S) am_e40 rfl rfl rfl rfl ?_
  refine w_st (i' := 35) (ls' := [.ref 69, .ref 12, .int x2, .int x3, .int x4, d5, d6]) (st' := [.int (nI 4), .int x4]) (E' := E) (I' := I) (J' := J) (S' := S) am_e40 rfl rfl rfl rfl ?_
  refine w_if2 am_e40 rfl rfl (fun c => ?_) (fun c => ?_)
  · replace h := h.1 (of_decide_eq_true c)
    refine w_st (i' := 52) (ls' := [.ref 69, .ref 12, .int x2, .int x3, .int x4, d5, d6]) (st' := [.int x2]) (E' := E) (I' := I) (J' := J) (S' := S) am_e40 rfl rfl rfl rfl ?_
    refine w_st (i' := 53) (ls' := [.ref 69, .ref 12, .int x2, .int x3, .int x4, d5, d6]) (st' := [.int (nI 31), .int x2]) (E' := E) (I' := I) (J' := J) (S' := S) am_e40 rfl rfl rfl rfl ?_
    refine w_st (i' := 54) (ls' := [.ref 69, .ref 12, .int x2, .int x3, .int x4, d5, d6]) (st' := [.int (x2 * (nI 31))]) (E' := E) (I' := I) (J' := J) (S' := S) am_e40 rfl rfl rfl rfl ?_
    refine w_st (i' := 55) (ls' := [.ref 69, .ref 12, .int x2, .int x3, .int x4, d5, d6]) (st' := [.ref 69, .int (x2 * (nI 31))]) (E' := E) (I' := I) (J' := J) (S' := S) am_e40 rfl rfl rfl rfl ?_
    refine w_st (i' := 56) (ls' := [.ref 69, .ref 12, .int x2, .int x3, .int x4, d5, d6]) (st' := [.ref 72, .int (x2 * (nI 31))]) (E' := E) (I' := I) (J' := J) (S' := S) am_e40 rfl rfl rfl rfl ?_
    refine w_st (i' := 57) (ls' := [.ref 69, .ref 12, .int x2, .int x3, .int x4, d5, d6]) (st' := [.int x3, .ref 72, .int (x2 * (nI 31))]) (E' := E) (I' := I) (J' := J) (S' := S) am_e40 rfl rfl rfl rfl ?_
    have hf1 := h.1
    replace h := h.2
    refine w_ia (k := 72) (n := 4) (jn := x3.toNatClampNeg) am_e40 rfl rfl (by decide) hf1 rfl ?_
    refine w_st (i' := 59) (ls' := [.ref 69, .ref 12, .int x2, .int x3, .int x4, d5, d6]) (st' := [.int ((x2 * (nI 31)) + ((I 72) x3.toNatClampNeg))]) (E' := E) (I' := I) (J' := J) (S' := S) am_e40 rfl rfl rfl rfl ?_
    refine w_st (i' := 60) (ls' := [.ref 69, .ref 12, .int ((x2 * (nI 31)) + ((I 72) x3.toNatClampNeg)), .int x3, .int x4, d5, d6]) (st' := []) (E' := E) (I' := I) (J' := J) (S' := S) am_e40 rfl rfl rfl rfl ?_
    refine w_var (fun w2 => am_ww 40 60 [.ref 69, .ref 12, .int w2, .int x3, .int x4, d5, d6] [] E I J S _) ((x2 * (nI 31)) + ((I 72) x3.toNatClampNeg)) (fun w2 hw2 => ?_)
    replace h := h w2 hw2
    refine w_st (i' := 61) (ls' := [.ref 69, .ref 12, .int w2, .int x3, .int x4, d5, d6]) (st' := [.int w2]) (E' := E) (I' := I) (J' := J) (S' := S) am_e40 rfl rfl rfl rfl ?_
    refine w_st (i' := 62) (ls' := [.ref 69, .ref 12, .int w2, .int x3, .int x4, d5, d6]) (st' := [.int (nI 31), .int w2]) (E' := E) (I' := I) (J' := J) (S' := S) am_e40 rfl rfl rfl rfl ?_
    refine w_st (i' := 63) (ls' := [.ref 69, .ref 12, .int w2, .int x3, .int x4, d5, d6]) (st' := [.int (w2 * (nI 31))]) (E' := E) (I' := I) (J' := J) (S' := S) am_e40 rfl rfl rfl rfl ?_
    refine w_st (i' := 64) (ls' := [.ref 69, .ref 12, .int w2, .int x3, .int x4, d5, d6]) (st' := [.ref 69, .int (w2 * (nI 31))]) (E' := E) (I' := I) (J' := J) (S' := S) am_e40 rfl rfl rfl rfl ?_
    refine w_st (i' := 65) (ls' := [.ref 69, .ref 12, .int w2, .int x3, .int x4, d5, d6]) (st' := [.ref 73, .int (w2 * (nI 31))]) (E' := E) (I' := I) (J' := J) (S' := S) am_e40 rfl rfl rfl rfl ?_
    refine w_st (i' := 66) (ls' := [.ref 69, .ref 12, .int w2, .int x3, .int x4, d5, d6]) (st' := [.int x3, .ref 73, .int (w2 * (nI 31))]) (E' := E) (I' := I) (J' := J) (S' := S) am_e40 rfl rfl rfl rfl ?_
    refine w_ia (k := 73) (n := 4) (jn := x3.toNatClampNeg) am_e40 rfl rfl (by decide) hf1 rfl ?_
    refine w_st (i' := 68) (ls' := [.ref 69, .ref 12, .int w2, .int x3, .int x4, d5, d6]) (st' := [.int ((w2 * (nI 31)) + ((I 73) x3.toNatClampNeg))]) (E' := E) (I' := I) (J' := J) (S' := S) am_e40 rfl rfl rfl rfl ?_
    refine w_st (i' := 69) (ls' := [.ref 69, .ref 12, .int ((w2 * (nI 31)) + ((I 73) x3.toNatClampNeg)), .int x3, .int x4, d5, d6]) (st' := []) (E' := E) (I' := I) (J' := J) (S' := S) am_e40 rfl rfl rfl rfl ?_
    refine w_var (fun w3 => am_ww 40 69 [.ref 69, .ref 12, .int w3, .int x3, .int x4, d5, d6] [] E I J S _) ((w2 * (nI 31)) + ((I 73) x3.toNatClampNeg)) (fun w3 hw3 => ?_)
    replace h := h w3 hw3
    refine w_st (i' := 70) (ls' := [.ref 69, .ref 12, .int w3, .int (x3 + nI 1), .int x4, d5, d6]) (st' := []) (E' := E) (I' := I) (J' := J) (S' := S) am_e40 rfl rfl rfl rfl ?_
    refine w_st (i' := 27) (ls' := [.ref 69, .ref 12, .int w3, .int (x3 + nI 1), .int x4, d5, d6]) (st' := []) (E' := E) (I' := I) (J' := J) (S' := S) am_e40 rfl rfl rfl rfl ?_
    exact h
  · replace h := h.2 (of_decide_eq_false c)
    refine w_st (i' := 37) (ls' := [.ref 69, .ref 12, .int x2, .int x3, .int x4, d5, d6]) (st' := [.int x2]) (E' := E) (I' := I) (J' := J) (S' := S) am_e40 rfl rfl rfl rfl ?_
    refine w_st (i' := 38) (ls' := [.ref 69, .ref 12, .int x2, .int x3, .int x4, d5, d6]) (st' := [.int (nI 31), .int x2]) (E' := E) (I' := I) (J' := J) (S' := S) am_e40 rfl rfl rfl rfl ?_
    refine w_st (i' := 39) (ls' := [.ref 69, .ref 12, .int x2, .int x3, .int x4, d5, d6]) (st' := [.int (x2 * (nI 31))]) (E' := E) (I' := I) (J' := J) (S' := S) am_e40 rfl rfl rfl rfl ?_
    refine w_st (i' := 40) (ls' := [.ref 69, .ref 12, .int x2, .int x3, .int x4, d5, d6]) (st' := [.ref 69, .int (x2 * (nI 31))]) (E' := E) (I' := I) (J' := J) (S' := S) am_e40 rfl rfl rfl rfl ?_
    refine w_st (i' := 41) (ls' := [.ref 69, .ref 12, .int x2, .int x3, .int x4, d5, d6]) (st' := [.ref 71, .int (x2 * (nI 31))]) (E' := E) (I' := I) (J' := J) (S' := S) am_e40 rfl rfl rfl rfl ?_
    refine w_st (i' := 42) (ls' := [.ref 69, .ref 12, .int x2, .int x3, .int x4, d5, d6]) (st' := [.int x3, .ref 71, .int (x2 * (nI 31))]) (E' := E) (I' := I) (J' := J) (S' := S) am_e40 rfl rfl rfl rfl ?_
    refine w_st (i' := 43) (ls' := [.ref 69, .ref 12, .int x2, .int x3, .int x4, d5, d6]) (st' := [.int (nI 4), .int x3, .ref 71, .int (x2 * (nI 31))]) (E' := E) (I' := I) (J' := J) (S' := S) am_e40 rfl rfl rfl rfl ?_
    refine w_st (i' := 44) (ls' := [.ref 69, .ref 12, .int x2, .int x3, .int x4, d5, d6]) (st' := [.int (x3 * (nI 4)), .ref 71, .int (x2 * (nI 31))]) (E' := E) (I' := I) (J' := J) (S' := S) am_e40 rfl rfl rfl rfl ?_
    refine w_st (i' := 45) (ls' := [.ref 69, .ref 12, .int x2, .int x3, .int x4, d5, d6]) (st' := [.int x4, .int (x3 * (nI 4)), .ref 71, .int (x2 * (nI 31))]) (E' := E) (I' := I) (J' := J) (S' := S) am_e40 rfl rfl rfl rfl ?_
    refine w_st (i' := 46) (ls' := [.ref 69, .ref 12, .int x2, .int x3, .int x4, d5, d6]) (st' := [.int ((x3 * (nI 4)) + x4), .ref 71, .int (x2 * (nI 31))]) (E' := E) (I' := I) (J' := J) (S' := S) am_e40 rfl rfl rfl rfl ?_
    have hf4 := h.1
    replace h := h.2
    refine w_ia (k := 71) (n := 16) (jn := ((x3 * (nI 4)) + x4).toNatClampNeg) am_e40 rfl rfl (by decide) hf4 rfl ?_
    refine w_st (i' := 48) (ls' := [.ref 69, .ref 12, .int x2, .int x3, .int x4, d5, d6]) (st' := [.int ((x2 * (nI 31)) + ((I 71) (((x3 * (nI 4)) + x4).toNatClampNeg)))]) (E' := E) (I' := I) (J' := J) (S' := S) am_e40 rfl rfl rfl rfl ?_
    refine w_st (i' := 49) (ls' := [.ref 69, .ref 12, .int ((x2 * (nI 31)) + ((I 71) (((x3 * (nI 4)) + x4).toNatClampNeg))), .int x3, .int x4, d5, d6]) (st' := []) (E' := E) (I' := I) (J' := J) (S' := S) am_e40 rfl rfl rfl rfl ?_
    refine w_var (fun w5 => am_ww 40 49 [.ref 69, .ref 12, .int w5, .int x3, .int x4, d5, d6] [] E I J S _) ((x2 * (nI 31)) + ((I 71) (((x3 * (nI 4)) + x4).toNatClampNeg))) (fun w5 hw5 => ?_)
    replace h := h w5 hw5
    refine w_st (i' := 50) (ls' := [.ref 69, .ref 12, .int w5, .int x3, .int (x4 + nI 1), d5, d6]) (st' := []) (E' := E) (I' := I) (J' := J) (S' := S) am_e40 rfl rfl rfl rfl ?_
    refine w_st (i' := 33) (ls' := [.ref 69, .ref 12, .int w5, .int x3, .int (x4 + nI 1), d5, d6]) (st' := []) (E' := E) (I' := I) (J' := J) (S' := S) am_e40 rfl rfl rfl rfl ?_
    exact h
