/-! rows of methods, by program -/
theorem g221_0 {t : Int32} {E : am_Ev} {I : Nat → Nat → Int32} {J : Nat → Nat → Int64} {S : Nat → Nat → Option Nat} {Q : am_Qt}  (h : ∀ w1 : Int32, w1 = (((nI 16) + ((nI 6) * t)) + (nI 4)) → (vp_in w1 51 ∧ (vp_in t 8 ∧ ((((I 116) w1.toNatClampNeg) < ((I 105) t.toNatClampNeg) → (Q (.inl (some (.int (nI 0)))) E I J S)) ∧ (¬ ((I 116) w1.toNatClampNeg) < ((I 105) t.toNatClampNeg) → (Q (.inl (some (.int (nI 1)))) E I J S)))))) : am_ww 221 0 [.ref 99, .int t] [] E I J S Q := by
  refine w_st (i' := 1) (ls' := [.ref 99, .int t]) (st' := [.ref 99]) (E' := E) (I' := I) (J' := J) (S' := S) am_e221 rfl rfl rfl rfl ?_
  refine w_st (i' := 2) (ls' := [.ref 99, .int t]) (st' := [.ref 116]) (E' := E) (I' := I) (J' := J) (S' := S) am_e221 rfl rfl rfl rfl ?_
  refine w_st (i' := 3) (ls' := [.ref 99, .int t]) (st' := [.int t, .ref 116]) (E' := E) (I' := I) (J' := J) (S' := S) am_e221 rfl rfl rfl rfl ?_
  refine w_st (i' := 4) (ls' := [.ref 99, .int t]) (st' := [.int (nI 4), .int t, .ref 116]) (E' := E) (I' := I) (J' := J) (S' := S) am_e221 rfl rfl rfl rfl ?_
  refine w_cI am_e221 rfl rfl (as := [.int t, .int (nI 4)]) (rest := [.ref 116]) rfl rfl ?_
  show am_ww 222 0 [.int t, .int (nI 4)] [] E I J S _
  refine w_st (i' := 1) (ls' := [.int t, .int (nI 4)]) (st' := [.int (nI 16)]) (E' := E) (I' := I) (J' := J) (S' := S) am_e222 rfl rfl rfl rfl ?_
  refine w_st (i' := 2) (ls' := [.int t, .int (nI 4)]) (st' := [.int (nI 6), .int (nI 16)]) (E' := E) (I' := I) (J' := J) (S' := S) am_e222 rfl rfl rfl rfl ?_
  refine w_st (i' := 3) (ls' := [.int t, .int (nI 4)]) (st' := [.int t, .int (nI 6), .int (nI 16)]) (E' := E) (I' := I) (J' := J) (S' := S) am_e222 rfl rfl rfl rfl ?_
  refine w_st (i' := 4) (ls' := [.int t, .int (nI 4)]) (st' := [.int ((nI 6) * t), .int (nI 16)]) (E' := E) (I' := I) (J' := J) (S' := S) am_e222 rfl rfl rfl rfl ?_
  refine w_st (i' := 5) (ls' := [.int t, .int (nI 4)]) (st' := [.int ((nI 16) + ((nI 6) * t))]) (E' := E) (I' := I) (J' := J) (S' := S) am_e222 rfl rfl rfl rfl ?_
  refine w_st (i' := 6) (ls' := [.int t, .int (nI 4)]) (st' := [.int (nI 4), .int ((nI 16) + ((nI 6) * t))]) (E' := E) (I' := I) (J' := J) (S' := S) am_e222 rfl rfl rfl rfl ?_
  refine w_st (i' := 7) (ls' := [.int t, .int (nI 4)]) (st' := [.int (((nI 16) + ((nI 6) * t)) + (nI 4))]) (E' := E) (I' := I) (J' := J) (S' := S) am_e222 rfl rfl rfl rfl ?_
  refine w_ri am_e222 rfl rfl (q_mkI ?_)
  show am_ww 221 5 [.ref 99, .int t] [.int (((nI 16) + ((nI 6) * t)) + (nI 4)), .ref 116] E I J S _
  refine w_var (fun w1 => am_ww 221 5 [.ref 99, .int t] [.int w1, .ref 116] E I J S _) (((nI 16) + ((nI 6) * t)) + (nI 4)) (fun w1 hw1 => ?_)
  replace h := h w1 hw1
  have hv2 := h.1
  replace h := h.2
  refine w_ia (k := 116) (n := 51) (jn := w1.toNatClampNeg) am_e221 rfl rfl (by decide) hv2 rfl ?_
  refine w_st (i' := 7) (ls' := [.ref 99, .int t]) (st' := [.ref 99, .int ((I 116) w1.toNatClampNeg)]) (E' := E) (I' := I) (J' := J) (S' := S) am_e221 rfl rfl rfl rfl ?_
  refine w_st (i' := 8) (ls' := [.ref 99, .int t]) (st' := [.ref 105, .int ((I 116) w1.toNatClampNeg)]) (E' := E) (I' := I) (J' := J) (S' := S) am_e221 rfl rfl rfl rfl ?_
  refine w_st (i' := 9) (ls' := [.ref 99, .int t]) (st' := [.int t, .ref 105, .int ((I 116) w1.toNatClampNeg)]) (E' := E) (I' := I) (J' := J) (S' := S) am_e221 rfl rfl rfl rfl ?_
  have hv3 := h.1
  replace h := h.2
  refine w_ia (k := 105) (n := 8) (jn := t.toNatClampNeg) am_e221 rfl rfl (by decide) hv3 rfl ?_
  refine w_if2 am_e221 rfl rfl (fun c => ?_) (fun c => ?_)
  · replace h := h.1 (of_decide_eq_true c)
    refine w_st (i' := 14) (ls' := [.ref 99, .int t]) (st' := [.int (nI 0)]) (E' := E) (I' := I) (J' := J) (S' := S) am_e221 rfl rfl rfl rfl ?_
    exact w_end am_e221 rfl rfl rfl h
  · replace h := h.2 (of_decide_eq_false c)
    refine w_st (i' := 12) (ls' := [.ref 99, .int t]) (st' := [.int (nI 1)]) (E' := E) (I' := I) (J' := J) (S' := S) am_e221 rfl rfl rfl rfl ?_
    refine w_st (i' := 14) (ls' := [.ref 99, .int t]) (st' := [.int (nI 1)]) (E' := E) (I' := I) (J' := J) (S' := S) am_e221 rfl rfl rfl rfl ?_
    exact w_end am_e221 rfl rfl rfl h
theorem g185_0 {t : Int32} {E : am_Ev} {I : Nat → Nat → Int32} {J : Nat → Nat → Int64} {S : Nat → Nat → Option Nat} {Q : am_Qt}  (h : am_ww 185 2 [.ref 99, .int t, .int (nI 0)] [] E I J S Q) : am_ww 185 0 [.ref 99, .int t, am_U] [] E I J S Q := by
  refine w_st (i' := 1) (ls' := [.ref 99, .int t, am_U]) (st' := [.int (nI 0)]) (E' := E) (I' := I) (J' := J) (S' := S) am_e185 rfl rfl rfl rfl ?_
  refine w_st (i' := 2) (ls' := [.ref 99, .int t, .int (nI 0)]) (st' := []) (E' := E) (I' := I) (J' := J) (S' := S) am_e185 rfl rfl rfl rfl ?_
  exact h
theorem g185_2 {x1 : Int32} {x2 : Int32} {E : am_Ev} {I : Nat → Nat → Int32} {J : Nat → Nat → Int64} {S : Nat → Nat → Option Nat} {Q : am_Qt}  (h : ((nI 51) ≤ x2 → (Q (.inl none) E I J S)) ∧ (¬ (nI 51) ≤ x2 → (vp_in x2 51 ∧ (vp_in (((nI 51) * x1) + x2) 20451 ∧ (am_ww 185 2 [.ref 99, .int x1, .int (x2 + nI 1)] [] E (u_I I 117 (upd (I 117) ((((nI 51) * x1) + x2).toNatClampNeg) ((I 116) x2.toNatClampNeg))) J S Q))))) : am_ww 185 2 [.ref 99, .int x1, .int x2] [] E I J S Q := by
  refine w_st (i' := 3) (ls' := [.ref 99, .int x1, .int x2]) (st' := [.int x2]) (E' := E) (I' := I) (J' := J) (S' := S) am_e185 rfl rfl rfl rfl ?_
  refine w_st (i' := 4) (ls' := [.ref 99, .int x1, .int x2]) (st' := [.int (nI 51), .int x2]) (E' := E) (I' := I) (J' := J) (S' := S) am_e185 rfl rfl rfl rfl ?_
  refine w_if2 am_e185 rfl rfl (fun c => ?_) (fun c => ?_)
  · replace h := h.1 (of_decide_eq_true c)
    exact w_end am_e185 rfl rfl rfl h
  · replace h := h.2 (of_decide_eq_false c)
    refine w_st (i' := 6) (ls' := [.ref 99, .int x1, .int x2]) (st' := [.ref 99]) (E' := E) (I' := I) (J' := J) (S' := S) am_e185 rfl rfl rfl rfl ?_
    refine w_st (i' := 7) (ls' := [.ref 99, .int x1, .int x2]) (st' := [.ref 117]) (E' := E) (I' := I) (J' := J) (S' := S) am_e185 rfl rfl rfl rfl ?_
    refine w_st (i' := 8) (ls' := [.ref 99, .int x1, .int x2]) (st' := [.int (nI 51), .ref 117]) (E' := E) (I' := I) (J' := J) (S' := S) am_e185 rfl rfl rfl rfl ?_
    refine w_st (i' := 9) (ls' := [.ref 99, .int x1, .int x2]) (st' := [.int x1, .int (nI 51), .ref 117]) (E' := E) (I' := I) (J' := J) (S' := S) am_e185 rfl rfl rfl rfl ?_
    refine w_st (i' := 10) (ls' := [.ref 99, .int x1, .int x2]) (st' := [.int ((nI 51) * x1), .ref 117]) (E' := E) (I' := I) (J' := J) (S' := S) am_e185 rfl rfl rfl rfl ?_
    refine w_st (i' := 11) (ls' := [.ref 99, .int x1, .int x2]) (st' := [.int x2, .int ((nI 51) * x1), .ref 117]) (E' := E) (I' := I) (J' := J) (S' := S) am_e185 rfl rfl rfl rfl ?_
    refine w_st (i' := 12) (ls' := [.ref 99, .int x1, .int x2]) (st' := [.int (((nI 51) * x1) + x2), .ref 117]) (E' := E) (I' := I) (J' := J) (S' := S) am_e185 rfl rfl rfl rfl ?_
    refine w_st (i' := 13) (ls' := [.ref 99, .int x1, .int x2]) (st' := [.ref 99, .int (((nI 51) * x1) + x2), .ref 117]) (E' := E) (I' := I) (J' := J) (S' := S) am_e185 rfl rfl rfl rfl ?_
    refine w_st (i' := 14) (ls' := [.ref 99, .int x1, .int x2]) (st' := [.ref 116, .int (((nI 51) * x1) + x2), .ref 117]) (E' := E) (I' := I) (J' := J) (S' := S) am_e185 rfl rfl rfl rfl ?_
    refine w_st (i' := 15) (ls' := [.ref 99, .int x1, .int x2]) (st' := [.int x2, .ref 116, .int (((nI 51) * x1) + x2), .ref 117]) (E' := E) (I' := I) (J' := J) (S' := S) am_e185 rfl rfl rfl rfl ?_
    have hv1 := h.1
    replace h := h.2
    refine w_ia (k := 116) (n := 51) (jn := x2.toNatClampNeg) am_e185 rfl rfl (by decide) hv1 rfl ?_
    have hv2 := h.1
    replace h := h.2
    refine w_is (k := 117) (n := 20451) (jn := (((nI 51) * x1) + x2).toNatClampNeg) am_e185 rfl rfl (by decide) hv2 rfl ?_
    show am_ww 185 17 [.ref 99, .int x1, .int x2] [] E (u_I I 117 (upd (I 117) ((((nI 51) * x1) + x2).toNatClampNeg) ((I 116) x2.toNatClampNeg))) J S _
    refine w_st (i' := 18) (ls' := [.ref 99, .int x1, .int (x2 + nI 1)]) (st' := []) (E' := E) (I' := (u_I I 117 (upd (I 117) ((((nI 51) * x1) + x2).toNatClampNeg) ((I 116) x2.toNatClampNeg)))) (J' := J) (S' := S) am_e185 rfl rfl rfl rfl ?_
    refine w_st (i' := 2) (ls' := [.ref 99, .int x1, .int (x2 + nI 1)]) (st' := []) (E' := E) (I' := (u_I I 117 (upd (I 117) ((((nI 51) * x1) + x2).toNatClampNeg) ((I 116) x2.toNatClampNeg)))) (J' := J) (S' := S) am_e185 rfl rfl rfl rfl ?_
    exact h
theorem g220_0 {t : Int32} {E : am_Ev} {I : Nat → Nat → Int32} {J : Nat → Nat → Int64} {S : Nat → Nat → Option Nat} {Q : am_Qt}  (h : ∀ w1 : Int32, w1 = (((nI 16) + ((nI 6) * t)) + (nI 4)) → (vp_in w1 51 ∧ (vp_in t 8 ∧ ((((I 116) w1.toNatClampNeg) < ((I 105) t.toNatClampNeg) → (∀ w4 : Int32, w4 = (((nI 16) + ((nI 6) * t)) + (nI 4)) → (vp_in w4 51 ∧ (∀ w6 : Int32, w6 = (((nI 16) * t) + ((I 116) w4.toNatClampNeg)) → (vp_in w6 128 ∧ ((((I 106) w6.toNatClampNeg) = (nI 7) → (vp_in ((nI 40) + ((I 107) w6.toNatClampNeg)) 51 ∧ ((((I 116) (((nI 40) + ((I 107) w6.toNatClampNeg)).toNatClampNeg)) = (-1) → (Q (.inl (some (.int (nI 1)))) E I J S)) ∧ (¬ ((I 116) (((nI 40) + ((I 107) w6.toNatClampNeg)).toNatClampNeg)) = (-1) → (Q (.inl (some (.int (nI 0)))) E I J S))))) ∧ (¬ ((I 106) w6.toNatClampNeg) = (nI 7) → ((((I 106) w6.toNatClampNeg) = (nI 6) → (vp_in ((nI 48) + ((I 108) w6.toNatClampNeg)) 51 ∧ (vp_in ((I 108) w6.toNatClampNeg) 3 ∧ ((((I 124) (((I 108) w6.toNatClampNeg).toNatClampNeg)) ≤ ((I 116) (((nI 48) + ((I 108) w6.toNatClampNeg)).toNatClampNeg)) → (Q (.inl (some (.int (nI 0)))) E I J S)) ∧ (¬ ((I 124) (((I 108) w6.toNatClampNeg).toNatClampNeg)) ≤ ((I 116) (((nI 48) + ((I 108) w6.toNatClampNeg)).toNatClampNeg)) → (Q (.inl (some (.int (nI 1)))) E I J S)))))) ∧ (¬ ((I 106) w6.toNatClampNeg) = (nI 6) → (Q (.inl (some (.int (nI 1)))) E I J S)))))))))) ∧ (¬ ((I 116) w1.toNatClampNeg) < ((I 105) t.toNatClampNeg) → (Q (.inl (some (.int (nI 0)))) E I J S)))))) : am_ww 220 0 [.ref 99, .int t, am_U] [] E I J S Q := by
  refine w_st (i' := 1) (ls' := [.ref 99, .int t, am_U]) (st' := [.ref 99]) (E' := E) (I' := I) (J' := J) (S' := S) am_e220 rfl rfl rfl rfl ?_
  refine w_st (i' := 2) (ls' := [.ref 99, .int t, am_U]) (st' := [.int t, .ref 99]) (E' := E) (I' := I) (J' := J) (S' := S) am_e220 rfl rfl rfl rfl ?_
  refine w_cI am_e220 rfl rfl (as := [.ref 99, .int t]) (rest := []) rfl rfl ?_
  show am_ww 221 0 [.ref 99, .int t] [] E I J S _
  refine w_st (i' := 1) (ls' := [.ref 99, .int t]) (st' := [.ref 99]) (E' := E) (I' := I) (J' := J) (S' := S) am_e221 rfl rfl rfl rfl ?_
  refine w_st (i' := 2) (ls' := [.ref 99, .int t]) (st' := [.ref 116]) (E' := E) (I' := I) (J' := J) (S' := S) am_e221 rfl rfl rfl rfl ?_
  refine w_st (i' := 3) (ls' := [.ref 99, .int t]) (st' := [.int t, .ref 116]) (E' := E) (I' := I) (J' := J) (S' := S) am_e221 rfl rfl rfl rfl ?_
  refine w_st (i' := 4) (ls' := [.ref 99, .int t]) (st' := [.int (nI 4), .int t, .ref 116]) (E' := E) (I' := I) (J' := J) (S' := S) am_e221 rfl rfl rfl rfl ?_
  refine w_cI am_e221 rfl rfl (as := [.int t, .int (nI 4)]) (rest := [.ref 116]) rfl rfl ?_
  show am_ww 222 0 [.int t, .int (nI 4)] [] E I J S _
  refine w_st (i' := 1) (ls' := [.int t, .int (nI 4)]) (st' := [.int (nI 16)]) (E' := E) (I' := I) (J' := J) (S' := S) am_e222 rfl rfl rfl rfl ?_
  refine w_st (i' := 2) (ls' := [.int t, .int (nI 4)]) (st' := [.int (nI 6), .int (nI 16)]) (E' := E) (I' := I) (J' := J) (S' := S) am_e222 rfl rfl rfl rfl ?_
  refine w_st (i' := 3) (ls' := [.int t, .int (nI 4)]) (st' := [.int t, .int (nI 6), .int (nI 16)]) (E' := E) (I' := I) (J' := J) (S' := S) am_e222 rfl rfl rfl rfl ?_
  refine w_st (i' := 4) (ls' := [.int t, .int (nI 4)]) (st' := [.int ((nI 6) * t), .int (nI 16)]) (E' := E) (I' := I) (J' := J) (S' := S) am_e222 rfl rfl rfl rfl ?_
  refine w_st (i' := 5) (ls' := [.int t, .int (nI 4)]) (st' := [.int ((nI 16) + ((nI 6) * t))]) (E' := E) (I' := I) (J' := J) (S' := S) am_e222 rfl rfl rfl rfl ?_
  refine w_st (i' := 6) (ls' := [.int t, .int (nI 4)]) (st' := [.int (nI 4), .int ((nI 16) + ((nI 6) * t))]) (E' := E) (I' := I) (J' := J) (S' := S) am_e222 rfl rfl rfl rfl ?_
  refine w_st (i' := 7) (ls' := [.int t, .int (nI 4)]) (st' := [.int (((nI 16) + ((nI 6) * t)) + (nI 4))]) (E' := E) (I' := I) (J' := J) (S' := S) am_e222 rfl rfl rfl rfl ?_
  refine w_ri am_e222 rfl rfl (q_mkI ?_)
  show am_ww 221 5 [.ref 99, .int t] [.int (((nI 16) + ((nI 6) * t)) + (nI 4)), .ref 116] E I J S _
  refine w_var (fun w1 => am_ww 221 5 [.ref 99, .int t] [.int w1, .ref 116] E I J S _) (((nI 16) + ((nI 6) * t)) + (nI 4)) (fun w1 hw1 => ?_)
  replace h := h w1 hw1
  have hv2 := h.1
  replace h := h.2
  refine w_ia (k := 116) (n := 51) (jn := w1.toNatClampNeg) am_e221 rfl rfl (by decide) hv2 rfl ?_
  refine w_st (i' := 7) (ls' := [.ref 99, .int t]) (st' := [.ref 99, .int ((I 116) w1.toNatClampNeg)]) (E' := E) (I' := I) (J' := J) (S' := S) am_e221 rfl rfl rfl rfl ?_
  refine w_st (i' := 8) (ls' := [.ref 99, .int t]) (st' := [.ref 105, .int ((I 116) w1.toNatClampNeg)]) (E' := E) (I' := I) (J' := J) (S' := S) am_e221 rfl rfl rfl rfl ?_
  refine w_st (i' := 9) (ls' := [.ref 99, .int t]) (st' := [.int t, .ref 105, .int ((I 116) w1.toNatClampNeg)]) (E' := E) (I' := I) (J' := J) (S' := S) am_e221 rfl rfl rfl rfl ?_
  have hv3 := h.1
  replace h := h.2
  refine w_ia (k := 105) (n := 8) (jn := t.toNatClampNeg) am_e221 rfl rfl (by decide) hv3 rfl ?_
  refine w_if2 am_e221 rfl rfl (fun c => ?_) (fun c => ?_)
  · replace h := h.1 (of_decide_eq_true c)
    refine w_st (i' := 14) (ls' := [.ref 99, .int t]) (st' := [.int (nI 0)]) (E' := E) (I' := I) (J' := J) (S' := S) am_e221 rfl rfl rfl rfl ?_
    refine w_end (E' := E) (I' := I) (J' := J) (S' := S) am_e221 rfl rfl rfl (q_mkI ?_)
    show am_ww 220 3 [.ref 99, .int t, am_U] [.int (nI 0)] E I J S _
    refine w_st (i' := 6) (ls' := [.ref 99, .int t, am_U]) (st' := []) (E' := E) (I' := I) (J' := J) (S' := S) am_e220 rfl rfl rfl rfl ?_
    refine w_st (i' := 7) (ls' := [.ref 99, .int t, am_U]) (st' := [.ref 99]) (E' := E) (I' := I) (J' := J) (S' := S) am_e220 rfl rfl rfl rfl ?_
    refine w_st (i' := 8) (ls' := [.ref 99, .int t, am_U]) (st' := [.int t, .ref 99]) (E' := E) (I' := I) (J' := J) (S' := S) am_e220 rfl rfl rfl rfl ?_
    refine w_cI am_e220 rfl rfl (as := [.ref 99, .int t]) (rest := []) rfl rfl ?_
    show am_ww 223 0 [.ref 99, .int t] [] E I J S _
    refine w_st (i' := 1) (ls' := [.ref 99, .int t]) (st' := [.int (nI 16)]) (E' := E) (I' := I) (J' := J) (S' := S) am_e223 rfl rfl rfl rfl ?_
    refine w_st (i' := 2) (ls' := [.ref 99, .int t]) (st' := [.int t, .int (nI 16)]) (E' := E) (I' := I) (J' := J) (S' := S) am_e223 rfl rfl rfl rfl ?_
    refine w_st (i' := 3) (ls' := [.ref 99, .int t]) (st' := [.int ((nI 16) * t)]) (E' := E) (I' := I) (J' := J) (S' := S) am_e223 rfl rfl rfl rfl ?_
    refine w_st (i' := 4) (ls' := [.ref 99, .int t]) (st' := [.ref 99, .int ((nI 16) * t)]) (E' := E) (I' := I) (J' := J) (S' := S) am_e223 rfl rfl rfl rfl ?_
    refine w_st (i' := 5) (ls' := [.ref 99, .int t]) (st' := [.ref 116, .int ((nI 16) * t)]) (E' := E) (I' := I) (J' := J) (S' := S) am_e223 rfl rfl rfl rfl ?_
    refine w_st (i' := 6) (ls' := [.ref 99, .int t]) (st' := [.int t, .ref 116, .int ((nI 16) * t)]) (E' := E) (I' := I) (J' := J) (S' := S) am_e223 rfl rfl rfl rfl ?_
    refine w_st (i' := 7) (ls' := [.ref 99, .int t]) (st' := [.int (nI 4), .int t, .ref 116, .int ((nI 16) * t)]) (E' := E) (I' := I) (J' := J) (S' := S) am_e223 rfl rfl rfl rfl ?_
    refine w_cI am_e223 rfl rfl (as := [.int t, .int (nI 4)]) (rest := [.ref 116, .int ((nI 16) * t)]) rfl rfl ?_
    show am_ww 222 0 [.int t, .int (nI 4)] [] E I J S _
    refine w_st (i' := 1) (ls' := [.int t, .int (nI 4)]) (st' := [.int (nI 16)]) (E' := E) (I' := I) (J' := J) (S' := S) am_e222 rfl rfl rfl rfl ?_
    refine w_st (i' := 2) (ls' := [.int t, .int (nI 4)]) (st' := [.int (nI 6), .int (nI 16)]) (E' := E) (I' := I) (J' := J) (S' := S) am_e222 rfl rfl rfl rfl ?_
    refine w_st (i' := 3) (ls' := [.int t, .int (nI 4)]) (st' := [.int t, .int (nI 6), .int (nI 16)]) (E' := E) (I' := I) (J' := J) (S' := S) am_e222 rfl rfl rfl rfl ?_
    refine w_st (i' := 4) (ls' := [.int t, .int (nI 4)]) (st' := [.int ((nI 6) * t), .int (nI 16)]) (E' := E) (I' := I) (J' := J) (S' := S) am_e222 rfl rfl rfl rfl ?_
    refine w_st (i' := 5) (ls' := [.int t, .int (nI 4)]) (st' := [.int ((nI 16) + ((nI 6) * t))]) (E' := E) (I' := I) (J' := J) (S' := S) am_e222 rfl rfl rfl rfl ?_
    refine w_st (i' := 6) (ls' := [.int t, .int (nI 4)]) (st' := [.int (nI 4), .int ((nI 16) + ((nI 6) * t))]) (E' := E) (I' := I) (J' := J) (S' := S) am_e222 rfl rfl rfl rfl ?_
    refine w_st (i' := 7) (ls' := [.int t, .int (nI 4)]) (st' := [.int (((nI 16) + ((nI 6) * t)) + (nI 4))]) (E' := E) (I' := I) (J' := J) (S' := S) am_e222 rfl rfl rfl rfl ?_
    refine w_ri am_e222 rfl rfl (q_mkI ?_)
    show am_ww 223 8 [.ref 99, .int t] [.int (((nI 16) + ((nI 6) * t)) + (nI 4)), .ref 116, .int ((nI 16) * t)] E I J S _
    refine w_var (fun w4 => am_ww 223 8 [.ref 99, .int t] [.int w4, .ref 116, .int ((nI 16) * t)] E I J S _) (((nI 16) + ((nI 6) * t)) + (nI 4)) (fun w4 hw4 => ?_)
    replace h := h w4 hw4
    have hv5 := h.1
    replace h := h.2
    refine w_ia (k := 116) (n := 51) (jn := w4.toNatClampNeg) am_e223 rfl rfl (by decide) hv5 rfl ?_
    refine w_st (i' := 10) (ls' := [.ref 99, .int t]) (st' := [.int (((nI 16) * t) + ((I 116) w4.toNatClampNeg))]) (E' := E) (I' := I) (J' := J) (S' := S) am_e223 rfl rfl rfl rfl ?_
    refine w_ri am_e223 rfl rfl (q_mkI ?_)
    show am_ww 220 9 [.ref 99, .int t, am_U] [.int (((nI 16) * t) + ((I 116) w4.toNatClampNeg))] E I J S _
    refine w_var (fun w6 => am_ww 220 9 [.ref 99, .int t, am_U] [.int w6] E I J S _) (((nI 16) * t) + ((I 116) w4.toNatClampNeg)) (fun w6 hw6 => ?_)
    replace h := h w6 hw6
    refine w_st (i' := 10) (ls' := [.ref 99, .int t, .int w6]) (st' := []) (E' := E) (I' := I) (J' := J) (S' := S) am_e220 rfl rfl rfl rfl ?_
    refine w_st (i' := 11) (ls' := [.ref 99, .int t, .int w6]) (st' := [.ref 99]) (E' := E) (I' := I) (J' := J) (S' := S) am_e220 rfl rfl rfl rfl ?_
    refine w_st (i' := 12) (ls' := [.ref 99, .int t, .int w6]) (st' := [.ref 106]) (E' := E) (I' := I) (J' := J) (S' := S) am_e220 rfl rfl rfl rfl ?_
    refine w_st (i' := 13) (ls' := [.ref 99, .int t, .int w6]) (st' := [.int w6, .ref 106]) (E' := E) (I' := I) (J' := J) (S' := S) am_e220 rfl rfl rfl rfl ?_
    have hv7 := h.1
    replace h := h.2
    refine w_ia (k := 106) (n := 128) (jn := w6.toNatClampNeg) am_e220 rfl rfl (by decide) hv7 rfl ?_
    refine w_st (i' := 15) (ls' := [.ref 99, .int t, .int w6]) (st' := [.int (nI 7), .int ((I 106) w6.toNatClampNeg)]) (E' := E) (I' := I) (J' := J) (S' := S) am_e220 rfl rfl rfl rfl ?_
    refine w_if2 am_e220 rfl rfl (fun c => ?_) (fun c => ?_)
    · replace h := h.2 (of_decide_eq_true c)
      refine w_st (i' := 32) (ls' := [.ref 99, .int t, .int w6]) (st' := [.ref 99]) (E' := E) (I' := I) (J' := J) (S' := S) am_e220 rfl rfl rfl rfl ?_
      refine w_st (i' := 33) (ls' := [.ref 99, .int t, .int w6]) (st' := [.ref 106]) (E' := E) (I' := I) (J' := J) (S' := S) am_e220 rfl rfl rfl rfl ?_
      refine w_st (i' := 34) (ls' := [.ref 99, .int t, .int w6]) (st' := [.int w6, .ref 106]) (E' := E) (I' := I) (J' := J) (S' := S) am_e220 rfl rfl rfl rfl ?_
      refine w_ia (k := 106) (n := 128) (jn := w6.toNatClampNeg) am_e220 rfl rfl (by decide) hv7 rfl ?_
      refine w_st (i' := 36) (ls' := [.ref 99, .int t, .int w6]) (st' := [.int (nI 6), .int ((I 106) w6.toNatClampNeg)]) (E' := E) (I' := I) (J' := J) (S' := S) am_e220 rfl rfl rfl rfl ?_
      refine w_if2 am_e220 rfl rfl (fun c => ?_) (fun c => ?_)
      · replace h := h.2 (of_decide_eq_true c)
        refine w_st (i' := 55) (ls' := [.ref 99, .int t, .int w6]) (st' := [.int (nI 1)]) (E' := E) (I' := I) (J' := J) (S' := S) am_e220 rfl rfl rfl rfl ?_
        refine w_st (i' := 57) (ls' := [.ref 99, .int t, .int w6]) (st' := [.int (nI 1)]) (E' := E) (I' := I) (J' := J) (S' := S) am_e220 rfl rfl rfl rfl ?_
        exact w_end am_e220 rfl rfl rfl h
      · replace h := h.1 (Decidable.not_not.mp (of_decide_eq_false c))
        refine w_st (i' := 38) (ls' := [.ref 99, .int t, .int w6]) (st' := [.ref 99]) (E' := E) (I' := I) (J' := J) (S' := S) am_e220 rfl rfl rfl rfl ?_
        refine w_st (i' := 39) (ls' := [.ref 99, .int t, .int w6]) (st' := [.ref 116]) (E' := E) (I' := I) (J' := J) (S' := S) am_e220 rfl rfl rfl rfl ?_
        refine w_st (i' := 40) (ls' := [.ref 99, .int t, .int w6]) (st' := [.int (nI 48), .ref 116]) (E' := E) (I' := I) (J' := J) (S' := S) am_e220 rfl rfl rfl rfl ?_
        refine w_st (i' := 41) (ls' := [.ref 99, .int t, .int w6]) (st' := [.ref 99, .int (nI 48), .ref 116]) (E' := E) (I' := I) (J' := J) (S' := S) am_e220 rfl rfl rfl rfl ?_
        refine w_st (i' := 42) (ls' := [.ref 99, .int t, .int w6]) (st' := [.ref 108, .int (nI 48), .ref 116]) (E' := E) (I' := I) (J' := J) (S' := S) am_e220 rfl rfl rfl rfl ?_
        refine w_st (i' := 43) (ls' := [.ref 99, .int t, .int w6]) (st' := [.int w6, .ref 108, .int (nI 48), .ref 116]) (E' := E) (I' := I) (J' := J) (S' := S) am_e220 rfl rfl rfl rfl ?_
        refine w_ia (k := 108) (n := 128) (jn := w6.toNatClampNeg) am_e220 rfl rfl (by decide) hv7 rfl ?_
        refine w_st (i' := 45) (ls' := [.ref 99, .int t, .int w6]) (st' := [.int ((nI 48) + ((I 108) w6.toNatClampNeg)), .ref 116]) (E' := E) (I' := I) (J' := J) (S' := S) am_e220 rfl rfl rfl rfl ?_
        have hv8 := h.1
        replace h := h.2
        refine w_ia (k := 116) (n := 51) (jn := ((nI 48) + ((I 108) w6.toNatClampNeg)).toNatClampNeg) am_e220 rfl rfl (by decide) hv8 rfl ?_
        refine w_st (i' := 47) (ls' := [.ref 99, .int t, .int w6]) (st' := [.ref 99, .int ((I 116) (((nI 48) + ((I 108) w6.toNatClampNeg)).toNatClampNeg))]) (E' := E) (I' := I) (J' := J) (S' := S) am_e220 rfl rfl rfl rfl ?_
        refine w_st (i' := 48) (ls' := [.ref 99, .int t, .int w6]) (st' := [.ref 124, .int ((I 116) (((nI 48) + ((I 108) w6.toNatClampNeg)).toNatClampNeg))]) (E' := E) (I' := I) (J' := J) (S' := S) am_e220 rfl rfl rfl rfl ?_
        refine w_st (i' := 49) (ls' := [.ref 99, .int t, .int w6]) (st' := [.ref 99, .ref 124, .int ((I 116) (((nI 48) + ((I 108) w6.toNatClampNeg)).toNatClampNeg))]) (E' := E) (I' := I) (J' := J) (S' := S) am_e220 rfl rfl rfl rfl ?_
        refine w_st (i' := 50) (ls' := [.ref 99, .int t, .int w6]) (st' := [.ref 108, .ref 124, .int ((I 116) (((nI 48) + ((I 108) w6.toNatClampNeg)).toNatClampNeg))]) (E' := E) (I' := I) (J' := J) (S' := S) am_e220 rfl rfl rfl rfl ?_
        refine w_st (i' := 51) (ls' := [.ref 99, .int t, .int w6]) (st' := [.int w6, .ref 108, .ref 124, .int ((I 116) (((nI 48) + ((I 108) w6.toNatClampNeg)).toNatClampNeg))]) (E' := E) (I' := I) (J' := J) (S' := S) am_e220 rfl rfl rfl rfl ?_
        refine w_ia (k := 108) (n := 128) (jn := w6.toNatClampNeg) am_e220 rfl rfl (by decide) hv7 rfl ?_
        have hv9 := h.1
        replace h := h.2
        refine w_ia (k := 124) (n := 3) (jn := ((I 108) w6.toNatClampNeg).toNatClampNeg) am_e220 rfl rfl (by decide) hv9 rfl ?_
        refine w_if2 am_e220 rfl rfl (fun c => ?_) (fun c => ?_)
        · replace h := h.1 (of_decide_eq_true c)
          refine w_st (i' := 57) (ls' := [.ref 99, .int t, .int w6]) (st' := [.int (nI 0)]) (E' := E) (I' := I) (J' := J) (S' := S) am_e220 rfl rfl rfl rfl ?_
          exact w_end am_e220 rfl rfl rfl h
        · replace h := h.2 (of_decide_eq_false c)
          refine w_st (i' := 55) (ls' := [.ref 99, .int t, .int w6]) (st' := [.int (nI 1)]) (E' := E) (I' := I) (J' := J) (S' := S) am_e220 rfl rfl rfl rfl ?_
          refine w_st (i' := 57) (ls' := [.ref 99, .int t, .int w6]) (st' := [.int (nI 1)]) (E' := E) (I' := I) (J' := J) (S' := S) am_e220 rfl rfl rfl rfl ?_
          exact w_end am_e220 rfl rfl rfl h
    · replace h := h.1 (Decidable.not_not.mp (of_decide_eq_false c))
      refine w_st (i' := 17) (ls' := [.ref 99, .int t, .int w6]) (st' := [.ref 99]) (E' := E) (I' := I) (J' := J) (S' := S) am_e220 rfl rfl rfl rfl ?_
      refine w_st (i' := 18) (ls' := [.ref 99, .int t, .int w6]) (st' := [.ref 116]) (E' := E) (I' := I) (J' := J) (S' := S) am_e220 rfl rfl rfl rfl ?_
      refine w_st (i' := 19) (ls' := [.ref 99, .int t, .int w6]) (st' := [.int (nI 40), .ref 116]) (E' := E) (I' := I) (J' := J) (S' := S) am_e220 rfl rfl rfl rfl ?_
      refine w_st (i' := 20) (ls' := [.ref 99, .int t, .int w6]) (st' := [.ref 99, .int (nI 40), .ref 116]) (E' := E) (I' := I) (J' := J) (S' := S) am_e220 rfl rfl rfl rfl ?_
      refine w_st (i' := 21) (ls' := [.ref 99, .int t, .int w6]) (st' := [.ref 107, .int (nI 40), .ref 116]) (E' := E) (I' := I) (J' := J) (S' := S) am_e220 rfl rfl rfl rfl ?_
      refine w_st (i' := 22) (ls' := [.ref 99, .int t, .int w6]) (st' := [.int w6, .ref 107, .int (nI 40), .ref 116]) (E' := E) (I' := I) (J' := J) (S' := S) am_e220 rfl rfl rfl rfl ?_
      refine w_ia (k := 107) (n := 128) (jn := w6.toNatClampNeg) am_e220 rfl rfl (by decide) hv7 rfl ?_
      refine w_st (i' := 24) (ls' := [.ref 99, .int t, .int w6]) (st' := [.int ((nI 40) + ((I 107) w6.toNatClampNeg)), .ref 116]) (E' := E) (I' := I) (J' := J) (S' := S) am_e220 rfl rfl rfl rfl ?_
      have hv10 := h.1
      replace h := h.2
      refine w_ia (k := 116) (n := 51) (jn := ((nI 40) + ((I 107) w6.toNatClampNeg)).toNatClampNeg) am_e220 rfl rfl (by decide) hv10 rfl ?_
      refine w_st (i' := 26) (ls' := [.ref 99, .int t, .int w6]) (st' := [.int (-1), .int ((I 116) (((nI 40) + ((I 107) w6.toNatClampNeg)).toNatClampNeg))]) (E' := E) (I' := I) (J' := J) (S' := S) am_e220 rfl rfl rfl rfl ?_
      refine w_if2 am_e220 rfl rfl (fun c => ?_) (fun c => ?_)
      · replace h := h.2 (of_decide_eq_true c)
        refine w_st (i' := 30) (ls' := [.ref 99, .int t, .int w6]) (st' := [.int (nI 0)]) (E' := E) (I' := I) (J' := J) (S' := S) am_e220 rfl rfl rfl rfl ?_
        exact w_end am_e220 rfl rfl rfl h
      · replace h := h.1 (Decidable.not_not.mp (of_decide_eq_false c))
        refine w_st (i' := 28) (ls' := [.ref 99, .int t, .int w6]) (st' := [.int (nI 1)]) (E' := E) (I' := I) (J' := J) (S' := S) am_e220 rfl rfl rfl rfl ?_
        refine w_st (i' := 30) (ls' := [.ref 99, .int t, .int w6]) (st' := [.int (nI 1)]) (E' := E) (I' := I) (J' := J) (S' := S) am_e220 rfl rfl rfl rfl ?_
        exact w_end am_e220 rfl rfl rfl h
  · replace h := h.2 (of_decide_eq_false c)
    refine w_st (i' := 12) (ls' := [.ref 99, .int t]) (st' := [.int (nI 1)]) (E' := E) (I' := I) (J' := J) (S' := S) am_e221 rfl rfl rfl rfl ?_
    refine w_st (i' := 14) (ls' := [.ref 99, .int t]) (st' := [.int (nI 1)]) (E' := E) (I' := I) (J' := J) (S' := S) am_e221 rfl rfl rfl rfl ?_
    refine w_end (E' := E) (I' := I) (J' := J) (S' := S) am_e221 rfl rfl rfl (q_mkI ?_)
    show am_ww 220 3 [.ref 99, .int t, am_U] [.int (nI 1)] E I J S _
    refine w_st (i' := 4) (ls' := [.ref 99, .int t, am_U]) (st' := []) (E' := E) (I' := I) (J' := J) (S' := S) am_e220 rfl rfl rfl rfl ?_
    refine w_st (i' := 5) (ls' := [.ref 99, .int t, am_U]) (st' := [.int (nI 0)]) (E' := E) (I' := I) (J' := J) (S' := S) am_e220 rfl rfl rfl rfl ?_
    exact w_end am_e220 rfl rfl rfl h
theorem g219_0  {E : am_Ev} {I : Nat → Nat → Int32} {J : Nat → Nat → Int64} {S : Nat → Nat → Option Nat} {Q : am_Qt}  (h : am_ww 219 4 [.ref 99, .int (nI 0), .int (nI 0)] [] E I J S Q) : am_ww 219 0 [.ref 99, am_U, am_U] [] E I J S Q := by
  refine w_st (i' := 1) (ls' := [.ref 99, am_U, am_U]) (st' := [.int (nI 0)]) (E' := E) (I' := I) (J' := J) (S' := S) am_e219 rfl rfl rfl rfl ?_
  refine w_st (i' := 2) (ls' := [.ref 99, .int (nI 0), am_U]) (st' := []) (E' := E) (I' := I) (J' := J) (S' := S) am_e219 rfl rfl rfl rfl ?_
  refine w_st (i' := 3) (ls' := [.ref 99, .int (nI 0), am_U]) (st' := [.int (nI 0)]) (E' := E) (I' := I) (J' := J) (S' := S) am_e219 rfl rfl rfl rfl ?_
  refine w_st (i' := 4) (ls' := [.ref 99, .int (nI 0), .int (nI 0)]) (st' := []) (E' := E) (I' := I) (J' := J) (S' := S) am_e219 rfl rfl rfl rfl ?_
  exact h
theorem g219_4 {x1 : Int32} {x2 : Int32} {E : am_Ev} {I : Nat → Nat → Int32} {J : Nat → Nat → Int64} {S : Nat → Nat → Option Nat} {Q : am_Qt}  (h : (((I 103) 4) ≤ x2 → (Q (.inl (some (.int x1))) E I J S)) ∧ (¬ ((I 103) 4) ≤ x2 → (∀ w1 : Int32, w1 = (((nI 16) + ((nI 6) * x2)) + (nI 4)) → (vp_in w1 51 ∧ (vp_in x2 8 ∧ ((((I 116) w1.toNatClampNeg) < ((I 105) x2.toNatClampNeg) → (∀ w4 : Int32, w4 = (((nI 16) + ((nI 6) * x2)) + (nI 4)) → (vp_in w4 51 ∧ (∀ w6 : Int32, w6 = (((nI 16) * x2) + ((I 116) w4.toNatClampNeg)) → (vp_in w6 128 ∧ ((((I 106) w6.toNatClampNeg) = (nI 7) → (vp_in ((nI 40) + ((I 107) w6.toNatClampNeg)) 51 ∧ ((((I 116) (((nI 40) + ((I 107) w6.toNatClampNeg)).toNatClampNeg)) = (-1) → (am_ww 219 4 [.ref 99, .int (x1 + (nI 1)), .int (x2 + nI 1)] [] E I J S Q)) ∧ (¬ ((I 116) (((nI 40) + ((I 107) w6.toNatClampNeg)).toNatClampNeg)) = (-1) → (am_ww 219 4 [.ref 99, .int (x1 + (nI 0)), .int (x2 + nI 1)] [] E I J S Q))))) ∧ (¬ ((I 106) w6.toNatClampNeg) = (nI 7) → ((((I 106) w6.toNatClampNeg) = (nI 6) → (vp_in ((nI 48) + ((I 108) w6.toNatClampNeg)) 51 ∧ (vp_in ((I 108) w6.toNatClampNeg) 3 ∧ ((((I 124) (((I 108) w6.toNatClampNeg).toNatClampNeg)) ≤ ((I 116) (((nI 48) + ((I 108) w6.toNatClampNeg)).toNatClampNeg)) → (am_ww 219 4 [.ref 99, .int (x1 + (nI 0)), .int (x2 + nI 1)] [] E I J S Q)) ∧ (¬ ((I 124) (((I 108) w6.toNatClampNeg).toNatClampNeg)) ≤ ((I 116) (((nI 48) + ((I 108) w6.toNatClampNeg)).toNatClampNeg)) → (am_ww 219 4 [.ref 99, .int (x1 + (nI 1)), .int (x2 + nI 1)] [] E I J S Q)))))) ∧ (¬ ((I 106) w6.toNatClampNeg) = (nI 6) → (am_ww 219 4 [.ref 99, .int (x1 + (nI 1)), .int (x2 + nI 1)] [] E I J S Q)))))))))) ∧ (¬ ((I 116) w1.toNatClampNeg) < ((I 105) x2.toNatClampNeg) → (am_ww 219 4 [.ref 99, .int (x1 + (nI 0)), .int (x2 + nI 1)] [] E I J S Q)))))))) : am_ww 219 4 [.ref 99, .int x1, .int x2] [] E I J S Q := by
  refine w_st (i' := 5) (ls' := [.ref 99, .int x1, .int x2]) (st' := [.int x2]) (E' := E) (I' := I) (J' := J) (S' := S) am_e219 rfl rfl rfl rfl ?_
  refine w_st (i' := 6) (ls' := [.ref 99, .int x1, .int x2]) (st' := [.ref 99, .int x2]) (E' := E) (I' := I) (J' := J) (S' := S) am_e219 rfl rfl rfl rfl ?_
  refine w_st (i' := 7) (ls' := [.ref 99, .int x1, .int x2]) (st' := [.ref 103, .int x2]) (E' := E) (I' := I) (J' := J) (S' := S) am_e219 rfl rfl rfl rfl ?_
  refine w_st (i' := 8) (ls' := [.ref 99, .int x1, .int x2]) (st' := [.int (nI 4), .ref 103, .int x2]) (E' := E) (I' := I) (J' := J) (S' := S) am_e219 rfl rfl rfl rfl ?_
  refine w_ia (k := 103) (n := 10) (jn := 4) am_e219 rfl rfl (by decide) (vp_in_nI (by decide) (by decide)) rfl ?_
  show am_ww 219 9 [.ref 99, .int x1, .int x2] [.int ((I 103) 4), .int x2] E I J S _
  refine w_if2 am_e219 rfl rfl (fun c => ?_) (fun c => ?_)
  · replace h := h.1 (of_decide_eq_true c)
    refine w_st (i' := 23) (ls' := [.ref 99, .int x1, .int x2]) (st' := [.int x1]) (E' := E) (I' := I) (J' := J) (S' := S) am_e219 rfl rfl rfl rfl ?_
    exact w_ri am_e219 rfl rfl h
  · replace h := h.2 (of_decide_eq_false c)
    refine w_st (i' := 11) (ls' := [.ref 99, .int x1, .int x2]) (st' := [.int x1]) (E' := E) (I' := I) (J' := J) (S' := S) am_e219 rfl rfl rfl rfl ?_
    refine w_st (i' := 12) (ls' := [.ref 99, .int x1, .int x2]) (st' := [.ref 99, .int x1]) (E' := E) (I' := I) (J' := J) (S' := S) am_e219 rfl rfl rfl rfl ?_
    refine w_st (i' := 13) (ls' := [.ref 99, .int x1, .int x2]) (st' := [.int x2, .ref 99, .int x1]) (E' := E) (I' := I) (J' := J) (S' := S) am_e219 rfl rfl rfl rfl ?_
    refine w_cI am_e219 rfl rfl (as := [.ref 99, .int x2]) (rest := [.int x1]) rfl rfl ?_
    show am_ww 220 0 [.ref 99, .int x2, am_U] [] E I J S _
    refine w_st (i' := 1) (ls' := [.ref 99, .int x2, am_U]) (st' := [.ref 99]) (E' := E) (I' := I) (J' := J) (S' := S) am_e220 rfl rfl rfl rfl ?_
    refine w_st (i' := 2) (ls' := [.ref 99, .int x2, am_U]) (st' := [.int x2, .ref 99]) (E' := E) (I' := I) (J' := J) (S' := S) am_e220 rfl rfl rfl rfl ?_
    refine w_cI am_e220 rfl rfl (as := [.ref 99, .int x2]) (rest := []) rfl rfl ?_
    show am_ww 221 0 [.ref 99, .int x2] [] E I J S _
    refine w_st (i' := 1) (ls' := [.ref 99, .int x2]) (st' := [.ref 99]) (E' := E) (I' := I) (J' := J) (S' := S) am_e221 rfl rfl rfl rfl ?_
    refine w_st (i' := 2) (ls' := [.ref 99, .int x2]) (st' := [.ref 116]) (E' := E) (I' := I) (J' := J) (S' := S) am_e221 rfl rfl rfl rfl ?_
    refine w_st (i' := 3) (ls' := [.ref 99, .int x2]) (st' := [.int x2, .ref 116]) (E' := E) (I' := I) (J' := J) (S' := S) am_e221 rfl rfl rfl rfl ?_
    refine w_st (i' := 4) (ls' := [.ref 99, .int x2]) (st' := [.int (nI 4), .int x2, .ref 116]) (E' := E) (I' := I) (J' := J) (S' := S) am_e221 rfl rfl rfl rfl ?_
    refine w_cI am_e221 rfl rfl (as := [.int x2, .int (nI 4)]) (rest := [.ref 116]) rfl rfl ?_
    show am_ww 222 0 [.int x2, .int (nI 4)] [] E I J S _
    refine w_st (i' := 1) (ls' := [.int x2, .int (nI 4)]) (st' := [.int (nI 16)]) (E' := E) (I' := I) (J' := J) (S' := S) am_e222 rfl rfl rfl rfl ?_
    refine w_st (i' := 2) (ls' := [.int x2, .int (nI 4)]) (st' := [.int (nI 6), .int (nI 16)]) (E' := E) (I' := I) (J' := J) (S' := S) am_e222 rfl rfl rfl rfl ?_
    refine w_st (i' := 3) (ls' := [.int x2, .int (nI 4)]) (st' := [.int x2, .int (nI 6), .int (nI 16)]) (E' := E) (I' := I) (J' := J) (S' := S) am_e222 rfl rfl rfl rfl ?_
    refine w_st (i' := 4) (ls' := [.int x2, .int (nI 4)]) (st' := [.int ((nI 6) * x2), .int (nI 16)]) (E' := E) (I' := I) (J' := J) (S' := S) am_e222 rfl rfl rfl rfl ?_
    refine w_st (i' := 5) (ls' := [.int x2, .int (nI 4)]) (st' := [.int ((nI 16) + ((nI 6) * x2))]) (E' := E) (I' := I) (J' := J) (S' := S) am_e222 rfl rfl rfl rfl ?_
    refine w_st (i' := 6) (ls' := [.int x2, .int (nI 4)]) (st' := [.int (nI 4), .int ((nI 16) + ((nI 6) * x2))]) (E' := E) (I' := I) (J' := J) (S' := S) am_e222 rfl rfl rfl rfl ?_
    refine w_st (i' := 7) (ls' := [.int x2, .int (nI 4)]) (st' := [.int (((nI 16) + ((nI 6) * x2)) + (nI 4))]) (E' := E) (I' := I) (J' := J) (S' := S) am_e222 rfl rfl rfl rfl ?_
    refine w_ri am_e222 rfl rfl (q_mkI ?_)
    show am_ww 221 5 [.ref 99, .int x2] [.int (((nI 16) + ((nI 6) * x2)) + (nI 4)), .ref 116] E I J S _
    refine w_var (fun w1 => am_ww 221 5 [.ref 99, .int x2] [.int w1, .ref 116] E I J S _) (((nI 16) + ((nI 6) * x2)) + (nI 4)) (fun w1 hw1 => ?_)
    replace h := h w1 hw1
    have hv2 := h.1
    replace h := h.2
    refine w_ia (k := 116) (n := 51) (jn := w1.toNatClampNeg) am_e221 rfl rfl (by decide) hv2 rfl ?_
    refine w_st (i' := 7) (ls' := [.ref 99, .int x2]) (st' := [.ref 99, .int ((I 116) w1.toNatClampNeg)]) (E' := E) (I' := I) (J' := J) (S' := S) am_e221 rfl rfl rfl rfl ?_
    refine w_st (i' := 8) (ls' := [.ref 99, .int x2]) (st' := [.ref 105, .int ((I 116) w1.toNatClampNeg)]) (E' := E) (I' := I) (J' := J) (S' := S) am_e221 rfl rfl rfl rfl ?_
    refine w_st (i' := 9) (ls' := [.ref 99, .int x2]) (st' := [.int x2, .ref 105, .int ((I 116) w1.toNatClampNeg)]) (E' := E) (I' := I) (J' := J) (S' := S) am_e221 rfl rfl rfl rfl ?_
    have hv3 := h.1
    replace h := h.2
    refine w_ia (k := 105) (n := 8) (jn := x2.toNatClampNeg) am_e221 rfl rfl (by decide) hv3 rfl ?_
    refine w_if2 am_e221 rfl rfl (fun c => ?_) (fun c => ?_)
    · replace h := h.1 (of_decide_eq_true c)
      refine w_st (i' := 14) (ls' := [.ref 99, .int x2]) (st' := [.int (nI 0)]) (E' := E) (I' := I) (J' := J) (S' := S) am_e221 rfl rfl rfl rfl ?_
      refine w_end (E' := E) (I' := I) (J' := J) (S' := S) am_e221 rfl rfl rfl (q_mkI ?_)
      show am_ww 220 3 [.ref 99, .int x2, am_U] [.int (nI 0)] E I J S _
      refine w_st (i' := 6) (ls' := [.ref 99, .int x2, am_U]) (st' := []) (E' := E) (I' := I) (J' := J) (S' := S) am_e220 rfl rfl rfl rfl ?_
      refine w_st (i' := 7) (ls' := [.ref 99, .int x2, am_U]) (st' := [.ref 99]) (E' := E) (I' := I) (J' := J) (S' := S) am_e220 rfl rfl rfl rfl ?_
      refine w_st (i' := 8) (ls' := [.ref 99, .int x2, am_U]) (st' := [.int x2, .ref 99]) (E' := E) (I' := I) (J' := J) (S' := S) am_e220 rfl rfl rfl rfl ?_
      refine w_cI am_e220 rfl rfl (as := [.ref 99, .int x2]) (rest := []) rfl rfl ?_
      show am_ww 223 0 [.ref 99, .int x2] [] E I J S _
      refine w_st (i' := 1) (ls' := [.ref 99, .int x2]) (st' := [.int (nI 16)]) (E' := E) (I' := I) (J' := J) (S' := S) am_e223 rfl rfl rfl rfl ?_
      refine w_st (i' := 2) (ls' := [.ref 99, .int x2]) (st' := [.int x2, .int (nI 16)]) (E' := E) (I' := I) (J' := J) (S' := S) am_e223 rfl rfl rfl rfl ?_
      refine w_st (i' := 3) (ls' := [.ref 99, .int x2]) (st' := [.int ((nI 16) * x2)]) (E' := E) (I' := I) (J' := J) (S' := S) am_e223 rfl rfl rfl rfl ?_
      refine w_st (i' := 4) (ls' := [.ref 99, .int x2]) (st' := [.ref 99, .int ((nI 16) * x2)]) (E' := E) (I' := I) (J' := J) (S' := S) am_e223 rfl rfl rfl rfl ?_
      refine w_st (i' := 5) (ls' := [.ref 99, .int x2]) (st' := [.ref 116, .int ((nI 16) * x2)]) (E' := E) (I' := I) (J' := J) (S' := S) am_e223 rfl rfl rfl rfl ?_
      refine w_st (i' := 6) (ls' := [.ref 99, .int x2]) (st' := [.int x2, .ref 116, .int ((nI 16) * x2)]) (E' := E) (I' := I) (J' := J) (S' := S) am_e223 rfl rfl rfl rfl ?_
      refine w_st (i' := 7) (ls' := [.ref 99, .int x2]) (st' := [.int (nI 4), .int x2, .ref 116, .int ((nI 16) * x2)]) (E' := E) (I' := I) (J' := J) (S' := S) am_e223 rfl rfl rfl rfl ?_
      refine w_cI am_e223 rfl rfl (as := [.int x2, .int (nI 4)]) (rest := [.ref 116, .int ((nI 16) * x2)]) rfl rfl ?_
      show am_ww 222 0 [.int x2, .int (nI 4)] [] E I J S _
      refine w_st (i' := 1) (ls' := [.int x2, .int (nI 4)]) (st' := [.int (nI 16)]) (E' := E) (I' := I) (J' := J) (S' := S) am_e222 rfl rfl rfl rfl ?_
      refine w_st (i' := 2) (ls' := [.int x2, .int (nI 4)]) (st' := [.int (nI 6), .int (nI 16)]) (E' := E) (I' := I) (J' := J) (S' := S) am_e222 rfl rfl rfl rfl ?_
      refine w_st (i' := 3) (ls' := [.int x2, .int (nI 4)]) (st' := [.int x2, .int (nI 6), .int (nI 16)]) (E' := E) (I' := I) (J' := J) (S' := S) am_e222 rfl rfl rfl rfl ?_
      refine w_st (i' := 4) (ls' := [.int x2, .int (nI 4)]) (st' := [.int ((nI 6) * x2), .int (nI 16)]) (E' := E) (I' := I) (J' := J) (S' := S) am_e222 rfl rfl rfl rfl ?_
      refine w_st (i' := 5) (ls' := [.int x2, .int (nI 4)]) (st' := [.int ((nI 16) + ((nI 6) * x2))]) (E' := E) (I' := I) (J' := J) (S' := S) am_e222 rfl rfl rfl rfl ?_
      refine w_st (i' := 6) (ls' := [.int x2, .int (nI 4)]) (st' := [.int (nI 4), .int ((nI 16) + ((nI 6) * x2))]) (E' := E) (I' := I) (J' := J) (S' := S) am_e222 rfl rfl rfl rfl ?_
      refine w_st (i' := 7) (ls' := [.int x2, .int (nI 4)]) (st' := [.int (((nI 16) + ((nI 6) * x2)) + (nI 4))]) (E' := E) (I' := I) (J' := J) (S' := S) am_e222 rfl rfl rfl rfl ?_
      refine w_ri am_e222 rfl rfl (q_mkI ?_)
      show am_ww 223 8 [.ref 99, .int x2] [.int (((nI 16) + ((nI 6) * x2)) + (nI 4)), .ref 116, .int ((nI 16) * x2)] E I J S _
      refine w_var (fun w4 => am_ww 223 8 [.ref 99, .int x2] [.int w4, .ref 116, .int ((nI 16) * x2)] E I J S _) (((nI 16) + ((nI 6) * x2)) + (nI 4)) (fun w4 hw4 => ?_)
      replace h := h w4 hw4
      have hv5 := h.1
      replace h := h.2
      refine w_ia (k := 116) (n := 51) (jn := w4.toNatClampNeg) am_e223 rfl rfl (by decide) hv5 rfl ?_
      refine w_st (i' := 10) (ls' := [.ref 99, .int x2]) (st' := [.int (((nI 16) * x2) + ((I 116) w4.toNatClampNeg))]) (E' := E) (I' := I) (J' := J) (S' := S) am_e223 rfl rfl rfl rfl ?_
      refine w_ri am_e223 rfl rfl (q_mkI ?_)
      show am_ww 220 9 [.ref 99, .int x2, am_U] [.int (((nI 16) * x2) + ((I 116) w4.toNatClampNeg))] E I J S _
      refine w_var (fun w6 => am_ww 220 9 [.ref 99, .int x2, am_U] [.int w6] E I J S _) (((nI 16) * x2) + ((I 116) w4.toNatClampNeg)) (fun w6 hw6 => ?_)
      replace h := h w6 hw6
      refine w_st (i' := 10) (ls' := [.ref 99, .int x2, .int w6]) (st' := []) (E' := E) (I' := I) (J' := J) (S' := S) am_e220 rfl rfl rfl rfl ?_
      refine w_st (i' := 11) (ls' := [.ref 99, .int x2, .int w6]) (st' := [.ref 99]) (E' := E) (I' := I) (J' := J) (S' := S) am_e220 rfl rfl rfl rfl ?_
      refine w_st (i' := 12) (ls' := [.ref 99, .int x2, .int w6]) (st' := [.ref 106]) (E' := E) (I' := I) (J' := J) (S' := S) am_e220 rfl rfl rfl rfl ?_
      refine w_st (i' := 13) (ls' := [.ref 99, .int x2, .int w6]) (st' := [.int w6, .ref 106]) (E' := E) (I' := I) (J' := J) (S' := S) am_e220 rfl rfl rfl rfl ?_
      have hv7 := h.1
      replace h := h.2
      refine w_ia (k := 106) (n := 128) (jn := w6.toNatClampNeg) am_e220 rfl rfl (by decide) hv7 rfl ?_
      refine w_st (i' := 15) (ls' := [.ref 99, .int x2, .int w6]) (st' := [.int (nI 7), .int ((I 106) w6.toNatClampNeg)]) (E' := E) (I' := I) (J' := J) (S' := S) am_e220 rfl rfl rfl rfl ?_
      refine w_if2 am_e220 rfl rfl (fun c => ?_) (fun c => ?_)
      · replace h := h.2 (of_decide_eq_true c)
        refine w_st (i' := 32) (ls' := [.ref 99, .int x2, .int w6]) (st' := [.ref 99]) (E' := E) (I' := I) (J' := J) (S' := S) am_e220 rfl rfl rfl rfl ?_
        refine w_st (i' := 33) (ls' := [.ref 99, .int x2, .int w6]) (st' := [.ref 106]) (E' := E) (I' := I) (J' := J) (S' := S) am_e220 rfl rfl rfl rfl ?_
        refine w_st (i' := 34) (ls' := [.ref 99, .int x2, .int w6]) (st' := [.int w6, .ref 106]) (E' := E) (I' := I) (J' := J) (S' := S) am_e220 rfl rfl rfl rfl ?_
        refine w_ia (k := 106) (n := 128) (jn := w6.toNatClampNeg) am_e220 rfl rfl (by decide) hv7 rfl ?_
        refine w_st (i' := 36) (ls' := [.ref 99, .int x2, .int w6]) (st' := [.int (nI 6), .int ((I 106) w6.toNatClampNeg)]) (E' := E) (I' := I) (J' := J) (S' := S) am_e220 rfl rfl rfl rfl ?_
        refine w_if2 am_e220 rfl rfl (fun c => ?_) (fun c => ?_)
        · replace h := h.2 (of_decide_eq_true c)
          refine w_st (i' := 55) (ls' := [.ref 99, .int x2, .int w6]) (st' := [.int (nI 1)]) (E' := E) (I' := I) (J' := J) (S' := S) am_e220 rfl rfl rfl rfl ?_
          refine w_st (i' := 57) (ls' := [.ref 99, .int x2, .int w6]) (st' := [.int (nI 1)]) (E' := E) (I' := I) (J' := J) (S' := S) am_e220 rfl rfl rfl rfl ?_
          refine w_end (E' := E) (I' := I) (J' := J) (S' := S) am_e220 rfl rfl rfl (q_mkI ?_)
          show am_ww 219 14 [.ref 99, .int x1, .int x2] [.int (nI 1), .int x1] E I J S _
          refine w_st (i' := 15) (ls' := [.ref 99, .int x1, .int x2]) (st' := [.int x1]) (E' := E) (I' := I) (J' := J) (S' := S) am_e219 rfl rfl rfl rfl ?_
          refine w_st (i' := 16) (ls' := [.ref 99, .int x1, .int x2]) (st' := [.int (nI 1), .int x1]) (E' := E) (I' := I) (J' := J) (S' := S) am_e219 rfl rfl rfl rfl ?_
          refine w_st (i' := 18) (ls' := [.ref 99, .int x1, .int x2]) (st' := [.int (nI 1), .int x1]) (E' := E) (I' := I) (J' := J) (S' := S) am_e219 rfl rfl rfl rfl ?_
          refine w_st (i' := 19) (ls' := [.ref 99, .int x1, .int x2]) (st' := [.int (x1 + (nI 1))]) (E' := E) (I' := I) (J' := J) (S' := S) am_e219 rfl rfl rfl rfl ?_
          refine w_st (i' := 20) (ls' := [.ref 99, .int (x1 + (nI 1)), .int x2]) (st' := []) (E' := E) (I' := I) (J' := J) (S' := S) am_e219 rfl rfl rfl rfl ?_
          refine w_st (i' := 21) (ls' := [.ref 99, .int (x1 + (nI 1)), .int (x2 + nI 1)]) (st' := []) (E' := E) (I' := I) (J' := J) (S' := S) am_e219 rfl rfl rfl rfl ?_
          refine w_st (i' := 4) (ls' := [.ref 99, .int (x1 + (nI 1)), .int (x2 + nI 1)]) (st' := []) (E' := E) (I' := I) (J' := J) (S' := S) am_e219 rfl rfl rfl rfl ?_
          exact h
        · replace h := h.1 (Decidable.not_not.mp (of_decide_eq_false c))
          refine w_st (i' := 38) (ls' := [.ref 99, .int x2, .int w6]) (st' := [.ref 99]) (E' := E) (I' := I) (J' := J) (S' := S) am_e220 rfl rfl rfl rfl ?_
          refine w_st (i' := 39) (ls' := [.ref 99, .int x2, .int w6]) (st' := [.ref 116]) (E' := E) (I' := I) (J' := J) (S' := S) am_e220 rfl rfl rfl rfl ?_
          refine w_st (i' := 40) (ls' := [.ref 99, .int x2, .int w6]) (st' := [.int (nI 48), .ref 116]) (E' := E) (I' := I) (J' := J) (S' := S) am_e220 rfl rfl rfl rfl ?_
          refine w_st (i' := 41) (ls' := [.ref 99, .int x2, .int w6]) (st' := [.ref 99, .int (nI 48), .ref 116]) (E' := E) (I' := I) (J' := J) (S' := S) am_e220 rfl rfl rfl rfl ?_
          refine w_st (i' := 42) (ls' := [.ref 99, .int x2, .int w6]) (st' := [.ref 108, .int (nI 48), .ref 116]) (E' := E) (I' := I) (J' := J) (S' := S) am_e220 rfl rfl rfl rfl ?_
          refine w_st (i' := 43) (ls' := [.ref 99, .int x2, .int w6]) (st' := [.int w6, .ref 108, .int (nI 48), .ref 116]) (E' := E) (I' := I) (J' := J) (S' := S) am_e220 rfl rfl rfl rfl ?_
          refine w_ia (k := 108) (n := 128) (jn := w6.toNatClampNeg) am_e220 rfl rfl (by decide) hv7 rfl ?_
          refine w_st (i' := 45) (ls' := [.ref 99, .int x2, .int w6]) (st' := [.int ((nI 48) + ((I 108) w6.toNatClampNeg)), .ref 116]) (E' := E) (I' := I) (J' := J) (S' := S) am_e220 rfl rfl rfl rfl ?_
          have hv8 := h.1
          replace h := h.2
          refine w_ia (k := 116) (n := 51) (jn := ((nI 48) + ((I 108) w6.toNatClampNeg)).toNatClampNeg) am_e220 rfl rfl (by decide) hv8 rfl ?_
          refine w_st (i' := 47) (ls' := [.ref 99, .int x2, .int w6]) (st' := [.ref 99, .int ((I 116) (((nI 48) + ((I 108) w6.toNatClampNeg)).toNatClampNeg))]) (E' := E) (I' := I) (J' := J) (S' := S) am_e220 rfl rfl rfl rfl ?_
          refine w_st (i' := 48) (ls' := [.ref 99, .int x2, .int w6]) (st' := [.ref 124, .int ((I 116) (((nI 48) + ((I 108) w6.toNatClampNeg)).toNatClampNeg))]) (E' := E) (I' := I) (J' := J) (S' := S) am_e220 rfl rfl rfl rfl ?_
          refine w_st (i' := 49) (ls' := [.ref 99, .int x2, .int w6]) (st' := [.ref 99, .ref 124, .int ((I 116) (((nI 48) + ((I 108) w6.toNatClampNeg)).toNatClampNeg))]) (E' := E) (I' := I) (J' := J) (S' := S) am_e220 rfl rfl rfl rfl ?_
          refine w_st (i' := 50) (ls' := [.ref 99, .int x2, .int w6]) (st' := [.ref 108, .ref 124, .int ((I 116) (((nI 48) + ((I 108) w6.toNatClampNeg)).toNatClampNeg))]) (E' := E) (I' := I) (J' := J) (S' := S) am_e220 rfl rfl rfl rfl ?_
          refine w_st (i' := 51) (ls' := [.ref 99, .int x2, .int w6]) (st' := [.int w6, .ref 108, .ref 124, .int ((I 116) (((nI 48) + ((I 108) w6.toNatClampNeg)).toNatClampNeg))]) (E' := E) (I' := I) (J' := J) (S' := S) am_e220 rfl rfl rfl rfl ?_
          refine w_ia (k := 108) (n := 128) (jn := w6.toNatClampNeg) am_e220 rfl rfl (by decide) hv7 rfl ?_
          have hv9 := h.1
          replace h := h.2
          refine w_ia (k := 124) (n := 3) (jn := ((I 108) w6.toNatClampNeg).toNatClampNeg) am_e220 rfl rfl (by decide) hv9 rfl ?_
          refine w_if2 am_e220 rfl rfl (fun c => ?_) (fun c => ?_)
          · replace h := h.1 (of_decide_eq_true c)
            refine w_st (i' := 57) (ls' := [.ref 99, .int x2, .int w6]) (st' := [.int (nI 0)]) (E' := E) (I' := I) (J' := J) (S' := S) am_e220 rfl rfl rfl rfl ?_
            refine w_end (E' := E) (I' := I) (J' := J) (S' := S) am_e220 rfl rfl rfl (q_mkI ?_)
            show am_ww 219 14 [.ref 99, .int x1, .int x2] [.int (nI 0), .int x1] E I J S _
            refine w_st (i' := 17) (ls' := [.ref 99, .int x1, .int x2]) (st' := [.int x1]) (E' := E) (I' := I) (J' := J) (S' := S) am_e219 rfl rfl rfl rfl ?_
            refine w_st (i' := 18) (ls' := [.ref 99, .int x1, .int x2]) (st' := [.int (nI 0), .int x1]) (E' := E) (I' := I) (J' := J) (S' := S) am_e219 rfl rfl rfl rfl ?_
            refine w_st (i' := 19) (ls' := [.ref 99, .int x1, .int x2]) (st' := [.int (x1 + (nI 0))]) (E' := E) (I' := I) (J' := J) (S' := S) am_e219 rfl rfl rfl rfl ?_
            refine w_st (i' := 20) (ls' := [.ref 99, .int (x1 + (nI 0)), .int x2]) (st' := []) (E' := E) (I' := I) (J' := J) (S' := S) am_e219 rfl rfl rfl rfl ?_
            refine w_st (i' := 21) (ls' := [.ref 99, .int (x1 + (nI 0)), .int (x2 + nI 1)]) (st' := []) (E' := E) (I' := I) (J' := J) (S' := S) am_e219 rfl rfl rfl rfl ?_
            refine w_st (i' := 4) (ls' := [.ref 99, .int (x1 + (nI 0)), .int (x2 + nI 1)]) (st' := []) (E' := E) (I' := I) (J' := J) (S' := S) am_e219 rfl rfl rfl rfl ?_
            exact h
          · replace h := h.2 (of_decide_eq_false c)
            refine w_st (i' := 55) (ls' := [.ref 99, .int x2, .int w6]) (st' := [.int (nI 1)]) (E' := E) (I' := I) (J' := J) (S' := S) am_e220 rfl rfl rfl rfl ?_
            refine w_st (i' := 57) (ls' := [.ref 99, .int x2, .int w6]) (st' := [.int (nI 1)]) (E' := E) (I' := I) (J' := J) (S' := S) am_e220 rfl rfl rfl rfl ?_
            refine w_end (E' := E) (I' := I) (J' := J) (S' := S) am_e220 rfl rfl rfl (q_mkI ?_)
            show am_ww 219 14 [.ref 99, .int x1, .int x2] [.int (nI 1), .int x1] E I J S _
            refine w_st (i' := 15) (ls' := [.ref 99, .int x1, .int x2]) (st' := [.int x1]) (E' := E) (I' := I) (J' := J) (S' := S) am_e219 rfl rfl rfl rfl ?_
            refine w_st (i' := 16) (ls' := [.ref 99, .int x1, .int x2]) (st' := [.int (nI 1), .int x1]) (E' := E) (I' := I) (J' := J) (S' := S) am_e219 rfl rfl rfl rfl ?_
            refine w_st (i' := 18) (ls' := [.ref 99, .int x1, .int x2]) (st' := [.int (nI 1), .int x1]) (E' := E) (I' := I) (J' := J) (S' := S) am_e219 rfl rfl rfl rfl ?_
            refine w_st (i' := 19) (ls' := [.ref 99, .int x1, .int x2]) (st' := [.int (x1 + (nI 1))]) (E' := E) (I' := I) (J' := J) (S' := S) am_e219 rfl rfl rfl rfl ?_
            refine w_st (i' := 20) (ls' := [.ref 99, .int (x1 + (nI 1)), .int x2]) (st' := []) (E' := E) (I' := I) (J' := J) (S' := S) am_e219 rfl rfl rfl rfl ?_
            refine w_st (i' := 21) (ls' := [.ref 99, .int (x1 + (nI 1)), .int (x2 + nI 1)]) (st' := []) (E' := E) (I' := I) (J' := J) (S' := S) am_e219 rfl rfl rfl rfl ?_
            refine w_st (i' := 4) (ls' := [.ref 99, .int (x1 + (nI 1)), .int (x2 + nI 1)]) (st' := []) (E' := E) (I' := I) (J' := J) (S' := S) am_e219 rfl rfl rfl rfl ?_
            exact h
      · replace h := h.1 (Decidable.not_not.mp (of_decide_eq_false c))
        refine w_st (i' := 17) (ls' := [.ref 99, .int x2, .int w6]) (st' := [.ref 99]) (E' := E) (I' := I) (J' := J) (S' := S) am_e220 rfl rfl rfl rfl ?_
        refine w_st (i' := 18) (ls' := [.ref 99, .int x2, .int w6]) (st' := [.ref 116]) (E' := E) (I' := I) (J' := J) (S' := S) am_e220 rfl rfl rfl rfl ?_
        refine w_st (i' := 19) (ls' := [.ref 99, .int x2, .int w6]) (st' := [.int (nI 40), .ref 116]) (E' := E) (I' := I) (J' := J) (S' := S) am_e220 rfl rfl rfl rfl ?_
        refine w_st (i' := 20) (ls' := [.ref 99, .int x2, .int w6]) (st' := [.ref 99, .int (nI 40), .ref 116]) (E' := E) (I' := I) (J' := J) (S' := S) am_e220 rfl rfl rfl rfl ?_
        refine w_st (i' := 21) (ls' := [.ref 99, .int x2, .int w6]) (st' := [.ref 107, .int (nI 40), .ref 116]) (E' := E) (I' := I) (J' := J) (S' := S) am_e220 rfl rfl rfl rfl ?_
        refine w_st (i' := 22) (ls' := [.ref 99, .int x2, .int w6]) (st' := [.int w6, .ref 107, .int (nI 40), .ref 116]) (E' := E) (I' := I) (J' := J) (S' := S) am_e220 rfl rfl rfl rfl ?_
        refine w_ia (k := 107) (n := 128) (jn := w6.toNatClampNeg) am_e220 rfl rfl (by decide) hv7 rfl ?_
        refine w_st (i' := 24) (ls' := [.ref 99, .int x2, .int w6]) (st' := [.int ((nI 40) + ((I 107) w6.toNatClampNeg)), .ref 116]) (E' := E) (I' := I) (J' := J) (S' := S) am_e220 rfl rfl rfl rfl ?_
        have hv10 := h.1
        replace h := h.2
        refine w_ia (k := 116) (n := 51) (jn := ((nI 40) + ((I 107) w6.toNatClampNeg)).toNatClampNeg) am_e220 rfl rfl (by decide) hv10 rfl ?_
        refine w_st (i' := 26) (ls' := [.ref 99, .int x2, .int w6]) (st' := [.int (-1), .int ((I 116) (((nI 40) + ((I 107) w6.toNatClampNeg)).toNatClampNeg))]) (E' := E) (I' := I) (J' := J) (S' := S) am_e220 rfl rfl rfl rfl ?_
        refine w_if2 am_e220 rfl rfl (fun c => ?_) (fun c => ?_)
        · replace h := h.2 (of_decide_eq_true c)
          refine w_st (i' := 30) (ls' := [.ref 99, .int x2, .int w6]) (st' := [.int (nI 0)]) (E' := E) (I' := I) (J' := J) (S' := S) am_e220 rfl rfl rfl rfl ?_
          refine w_end (E' := E) (I' := I) (J' := J) (S' := S) am_e220 rfl rfl rfl (q_mkI ?_)
          show am_ww 219 14 [.ref 99, .int x1, .int x2] [.int (nI 0), .int x1] E I J S _
          refine w_st (i' := 17) (ls' := [.ref 99, .int x1, .int x2]) (st' := [.int x1]) (E' := E) (I' := I) (J' := J) (S' := S) am_e219 rfl rfl rfl rfl ?_
          refine w_st (i' := 18) (ls' := [.ref 99, .int x1, .int x2]) (st' := [.int (nI 0), .int x1]) (E' := E) (I' := I) (J' := J) (S' := S) am_e219 rfl rfl rfl rfl ?_
          refine w_st (i' := 19) (ls' := [.ref 99, .int x1, .int x2]) (st' := [.int (x1 + (nI 0))]) (E' := E) (I' := I) (J' := J) (S' := S) am_e219 rfl rfl rfl rfl ?_
          refine w_st (i' := 20) (ls' := [.ref 99, .int (x1 + (nI 0)), .int x2]) (st' := []) (E' := E) (I' := I) (J' := J) (S' := S) am_e219 rfl rfl rfl rfl ?_
          refine w_st (i' := 21) (ls' := [.ref 99, .int (x1 + (nI 0)), .int (x2 + nI 1)]) (st' := []) (E' := E) (I' := I) (J' := J) (S' := S) am_e219 rfl rfl rfl rfl ?_
          refine w_st (i' := 4) (ls' := [.ref 99, .int (x1 + (nI 0)), .int (x2 + nI 1)]) (st' := []) (E' := E) (I' := I) (J' := J) (S' := S) am_e219 rfl rfl rfl rfl ?_
          exact h
        · replace h := h.1 (Decidable.not_not.mp (of_decide_eq_false c))
          refine w_st (i' := 28) (ls' := [.ref 99, .int x2, .int w6]) (st' := [.int (nI 1)]) (E' := E) (I' := I) (J' := J) (S' := S) am_e220 rfl rfl rfl rfl ?_
          refine w_st (i' := 30) (ls' := [.ref 99, .int x2, .int w6]) (st' := [.int (nI 1)]) (E' := E) (I' := I) (J' := J) (S' := S) am_e220 rfl rfl rfl rfl ?_
          refine w_end (E' := E) (I' := I) (J' := J) (S' := S) am_e220 rfl rfl rfl (q_mkI ?_)
          show am_ww 219 14 [.ref 99, .int x1, .int x2] [.int (nI 1), .int x1] E I J S _
          refine w_st (i' := 15) (ls' := [.ref 99, .int x1, .int x2]) (st' := [.int x1]) (E' := E) (I' := I) (J' := J) (S' := S) am_e219 rfl rfl rfl rfl ?_
          refine w_st (i' := 16) (ls' := [.ref 99, .int x1, .int x2]) (st' := [.int (nI 1), .int x1]) (E' := E) (I' := I) (J' := J) (S' := S) am_e219 rfl rfl rfl rfl ?_
          refine w_st (i' := 18) (ls' := [.ref 99, .int x1, .int x2]) (st' := [.int (nI 1), .int x1]) (E' := E) (I' := I) (J' := J) (S' := S) am_e219 rfl rfl rfl rfl ?_
          refine w_st (i' := 19) (ls' := [.ref 99, .int x1, .int x2]) (st' := [.int (x1 + (nI 1))]) (E' := E) (I' := I) (J' := J) (S' := S) am_e219 rfl rfl rfl rfl ?_
          refine w_st (i' := 20) (ls' := [.ref 99, .int (x1 + (nI 1)), .int x2]) (st' := []) (E' := E) (I' := I) (J' := J) (S' := S) am_e219 rfl rfl rfl rfl ?_
          refine w_st (i' := 21) (ls' := [.ref 99, .int (x1 + (nI 1)), .int (x2 + nI 1)]) (st' := []) (E' := E) (I' := I) (J' := J) (S' := S) am_e219 rfl rfl rfl rfl ?_
          refine w_st (i' := 4) (ls' := [.ref 99, .int (x1 + (nI 1)), .int (x2 + nI 1)]) (st' := []) (E' := E) (I' := I) (J' := J) (S' := S) am_e219 rfl rfl rfl rfl ?_
          exact h
    · replace h := h.2 (of_decide_eq_false c)
      refine w_st (i' := 12) (ls' := [.ref 99, .int x2]) (st' := [.int (nI 1)]) (E' := E) (I' := I) (J' := J) (S' := S) am_e221 rfl rfl rfl rfl ?_
      refine w_st (i' := 14) (ls' := [.ref 99, .int x2]) (st' := [.int (nI 1)]) (E' := E) (I' := I) (J' := J) (S' := S) am_e221 rfl rfl rfl rfl ?_
      refine w_end (E' := E) (I' := I) (J' := J) (S' := S) am_e221 rfl rfl rfl (q_mkI ?_)
      show am_ww 220 3 [.ref 99, .int x2, am_U] [.int (nI 1)] E I J S _
      refine w_st (i' := 4) (ls' := [.ref 99, .int x2, am_U]) (st' := []) (E' := E) (I' := I) (J' := J) (S' := S) am_e220 rfl rfl rfl rfl ?_
      refine w_st (i' := 5) (ls' := [.ref 99, .int x2, am_U]) (st' := [.int (nI 0)]) (E' := E) (I' := I) (J' := J) (S' := S) am_e220 rfl rfl rfl rfl ?_
      refine w_end (E' := E) (I' := I) (J' := J) (S' := S) am_e220 rfl rfl rfl (q_mkI ?_)
      show am_ww 219 14 [.ref 99, .int x1, .int x2] [.int (nI 0), .int x1] E I J S _
      refine w_st (i' := 17) (ls' := [.ref 99, .int x1, .int x2]) (st' := [.int x1]) (E' := E) (I' := I) (J' := J) (S' := S) am_e219 rfl rfl rfl rfl ?_
      refine w_st (i' := 18) (ls' := [.ref 99, .int x1, .int x2]) (st' := [.int (nI 0), .int x1]) (E' := E) (I' := I) (J' := J) (S' := S) am_e219 rfl rfl rfl rfl ?_
      refine w_st (i' := 19) (ls' := [.ref 99, .int x1, .int x2]) (st' := [.int (x1 + (nI 0))]) (E' := E) (I' := I) (J' := J) (S' := S) am_e219 rfl rfl rfl rfl ?_
      refine w_st (i' := 20) (ls' := [.ref 99, .int (x1 + (nI 0)), .int x2]) (st' := []) (E' := E) (I' := I) (J' := J) (S' := S) am_e219 rfl rfl rfl rfl ?_
      refine w_st (i' := 21) (ls' := [.ref 99, .int (x1 + (nI 0)), .int (x2 + nI 1)]) (st' := []) (E' := E) (I' := I) (J' := J) (S' := S) am_e219 rfl rfl rfl rfl ?_
      refine w_st (i' := 4) (ls' := [.ref 99, .int (x1 + (nI 0)), .int (x2 + nI 1)]) (st' := []) (E' := E) (I' := I) (J' := J) (S' := S) am_e219 rfl rfl rfl rfl ?_
      exact h
theorem g241_0 {t : Int32} {p : Int32} {E : am_Ev} {I : Nat → Nat → Int32} {J : Nat → Nat → Int64} {S : Nat → Nat → Option Nat} {Q : am_Qt}  (h : ∀ w1 : Int32, w1 = (((nI 16) + ((nI 6) * t)) + (nI 4)) → (vp_in w1 51 ∧ (∀ w3 : Int32, w3 = (((nI 16) * t) + ((I 116) w1.toNatClampNeg)) → (vp_in w3 128 ∧ (∀ w6 : Int32, w6 = (if (nI 4) ≤ ((I 107) w3.toNatClampNeg) then nI 0 else ((I 107) w3.toNatClampNeg)) → (∀ w7 : Int32, w7 = (((nI 16) + ((nI 6) * t)) + w6) → (∀ w10 : Int32, w10 = (if ((I 108) w3.toNatClampNeg) < 0 then nI 0 else (if (nI 4) ≤ ((I 108) w3.toNatClampNeg) then nI 0 else ((I 108) w3.toNatClampNeg))) → (∀ w11 : Int32, w11 = (((nI 16) + ((nI 6) * t)) + w10) → (∀ w12 : Int32, w12 = (((nI 16) + ((nI 6) * t)) + (nI 4)) → (vp_in w12 51 ∧ (∀ w14 : Int32, w14 = (((I 116) w12.toNatClampNeg) + (nI 1)) → ((((I 106) w3.toNatClampNeg) = nI 0 → (vp_in w7 51 ∧ (am_ww 241 220 [.ref 99, .int t, .int p, .int w3, .int w7, .int w11, .int w14] [] E (u_I I 116 (upd (I 116) w7.toNatClampNeg ((I 108) w3.toNatClampNeg))) J S Q))) ∧ (((I 106) w3.toNatClampNeg) = nI 1 → (vp_in ((I 108) w3.toNatClampNeg) 51 ∧ (vp_in w7 51 ∧ (am_ww 241 220 [.ref 99, .int t, .int p, .int w3, .int w7, .int w11, .int w14] [] E (u_I I 116 (upd (I 116) w7.toNatClampNeg ((I 116) (((I 108) w3.toNatClampNeg).toNatClampNeg)))) J S Q)))) ∧ (((I 106) w3.toNatClampNeg) = nI 2 → (vp_in w11 51 ∧ (vp_in ((I 107) w3.toNatClampNeg) 51 ∧ (am_ww 241 220 [.ref 99, .int t, .int p, .int w3, .int w7, .int w11, .int w14] [] E (u_I I 116 (upd (I 116) (((I 107) w3.toNatClampNeg).toNatClampNeg) ((I 116) w11.toNatClampNeg))) J S Q)))) ∧ (((I 106) w3.toNatClampNeg) = nI 3 → (vp_in w7 51 ∧ (vp_in w11 51 ∧ (am_ww 241 220 [.ref 99, .int t, .int p, .int w3, .int w7, .int w11, .int w14] [] E (u_I I 116 (upd (I 116) w7.toNatClampNeg (((I 116) w7.toNatClampNeg) + ((I 116) w11.toNatClampNeg)))) J S Q)))) ∧ (((I 106) w3.toNatClampNeg) = nI 4 → (vp_in w7 51 ∧ (vp_in w11 51 ∧ (am_ww 241 220 [.ref 99, .int t, .int p, .int w3, .int w7, .int w11, .int w14] [] E (u_I I 116 (upd (I 116) w7.toNatClampNeg (((I 116) w7.toNatClampNeg) - ((I 116) w11.toNatClampNeg)))) J S Q)))) ∧ (((I 106) w3.toNatClampNeg) = nI 5 → (vp_in w7 51 ∧ (vp_in w11 51 ∧ (am_ww 241 220 [.ref 99, .int t, .int p, .int w3, .int w7, .int w11, .int w14] [] E (u_I I 116 (upd (I 116) w7.toNatClampNeg (((I 116) w7.toNatClampNeg) * ((I 116) w11.toNatClampNeg)))) J S Q)))) ∧ (((I 106) w3.toNatClampNeg) = nI 6 → (vp_in w7 51 ∧ (vp_in ((nI 48) + ((I 108) w3.toNatClampNeg)) 51 ∧ (am_ww 241 220 [.ref 99, .int t, .int p, .int w3, .int w7, .int w11, .int w14] [] E (u_I I 116 (upd (upd (I 116) w7.toNatClampNeg p) (((nI 48) + ((I 108) w3.toNatClampNeg)).toNatClampNeg) (((upd (I 116) w7.toNatClampNeg p) (((nI 48) + ((I 108) w3.toNatClampNeg)).toNatClampNeg)) + (nI 1)))) J S Q)))) ∧ (((I 106) w3.toNatClampNeg) = nI 7 → (vp_in ((nI 40) + ((I 107) w3.toNatClampNeg)) 51 ∧ (am_ww 241 220 [.ref 99, .int t, .int p, .int w3, .int w7, .int w11, .int w14] [] E (u_I I 116 (upd (I 116) (((nI 40) + ((I 107) w3.toNatClampNeg)).toNatClampNeg) t)) J S Q))) ∧ (((I 106) w3.toNatClampNeg) = nI 8 → (vp_in ((nI 40) + ((I 107) w3.toNatClampNeg)) 51 ∧ (∀ w31 : Int32, w31 = (if ((I 116) (((nI 40) + ((I 107) w3.toNatClampNeg)).toNatClampNeg)) = t then (-1) else ((I 116) (((nI 40) + ((I 107) w3.toNatClampNeg)).toNatClampNeg))) → (am_ww 241 220 [.ref 99, .int t, .int p, .int w3, .int w7, .int w11, .int w14] [] E (u_I I 116 (upd (I 116) (((nI 40) + ((I 107) w3.toNatClampNeg)).toNatClampNeg) w31)) J S Q)))) ∧ (((I 106) w3.toNatClampNeg) = nI 9 → (am_ww 241 220 [.ref 99, .int t, .int p, .int w3, .int w7, .int w11, .int ((I 109) w3.toNatClampNeg)] [] E I J S Q)) ∧ (((I 106) w3.toNatClampNeg) = nI 10 → (vp_in w7 51 ∧ (∀ w34 : Int32, w34 = (if ((I 116) w7.toNatClampNeg) = 0 then ((I 109) w3.toNatClampNeg) else w14) → (am_ww 241 220 [.ref 99, .int t, .int p, .int w3, .int w7, .int w11, .int w34] [] E I J S Q)))) ∧ (((I 106) w3.toNatClampNeg) = nI 11 → (vp_in w7 51 ∧ (vp_in w11 51 ∧ (∀ w38 : Int32, w38 = (if ((I 116) w11.toNatClampNeg) ≤ ((I 116) w7.toNatClampNeg) then w14 else ((I 109) w3.toNatClampNeg)) → (am_ww 241 220 [.ref 99, .int t, .int p, .int w3, .int w7, .int w11, .int w38] [] E I J S Q))))) ∧ (¬ ((I 106) w3.toNatClampNeg) = nI 0 → ¬ ((I 106) w3.toNatClampNeg) = nI 1 → ¬ ((I 106) w3.toNatClampNeg) = nI 2 → ¬ ((I 106) w3.toNatClampNeg) = nI 3 → ¬ ((I 106) w3.toNatClampNeg) = nI 4 → ¬ ((I 106) w3.toNatClampNeg) = nI 5 → ¬ ((I 106) w3.toNatClampNeg) = nI 6 → ¬ ((I 106) w3.toNatClampNeg) = nI 7 → ¬ ((I 106) w3.toNatClampNeg) = nI 8 → ¬ ((I 106) w3.toNatClampNeg) = nI 9 → ¬ ((I 106) w3.toNatClampNeg) = nI 10 → ¬ ((I 106) w3.toNatClampNeg) = nI 11 → (am_ww 241 220 [.ref 99, .int t, .int p, .int w3, .int w7, .int w11, .int w14] [] E I J S Q)))))))))))))) : am_ww 241 0 [.ref 99, .int t, .int p, am_U, am_U, am_U, am_U] [] E I J S Q := by
  refine w_st (i' := 1) (ls' := [.ref 99, .int t, .int p, am_U, am_U, am_U, am_U]) (st' := [.ref 99]) (E' := E) (I' := I) (J' := J) (S' := S) am_e241 rfl rfl rfl rfl ?_
  refine w_st (i' := 2) (ls' := [.ref 99, .int t, .int p, am_U, am_U, am_U, am_U]) (st' := [.int t, .ref 99]) (E' := E) (I' := I) (J' := J) (S' := S) am_e241 rfl rfl rfl rfl ?_
  refine w_cI am_e241 rfl rfl (as := [.ref 99, .int t]) (rest := []) rfl rfl ?_
  show am_ww 223 0 [.ref 99, .int t] [] E I J S _
  refine w_st (i' := 1) (ls' := [.ref 99, .int t]) (st' := [.int (nI 16)]) (E' := E) (I' := I) (J' := J) (S' := S) am_e223 rfl rfl rfl rfl ?_
  refine w_st (i' := 2) (ls' := [.ref 99, .int t]) (st' := [.int t, .int (nI 16)]) (E' := E) (I' := I) (J' := J) (S' := S) am_e223 rfl rfl rfl rfl ?_
  refine w_st (i' := 3) (ls' := [.ref 99, .int t]) (st' := [.int ((nI 16) * t)]) (E' := E) (I' := I) (J' := J) (S' := S) am_e223 rfl rfl rfl rfl ?_
  refine w_st (i' := 4) (ls' := [.ref 99, .int t]) (st' := [.ref 99, .int ((nI 16) * t)]) (E' := E) (I' := I) (J' := J) (S' := S) am_e223 rfl rfl rfl rfl ?_
  refine w_st (i' := 5) (ls' := [.ref 99, .int t]) (st' := [.ref 116, .int ((nI 16) * t)]) (E' := E) (I' := I) (J' := J) (S' := S) am_e223 rfl rfl rfl rfl ?_
  refine w_st (i' := 6) (ls' := [.ref 99, .int t]) (st' := [.int t, .ref 116, .int ((nI 16) * t)]) (E' := E) (I' := I) (J' := J) (S' := S) am_e223 rfl rfl rfl rfl ?_
  refine w_st (i' := 7) (ls' := [.ref 99, .int t]) (st' := [.int (nI 4), .int t, .ref 116, .int ((nI 16) * t)]) (E' := E) (I' := I) (J' := J) (S' := S) am_e223 rfl rfl rfl rfl ?_
  refine w_cI am_e223 rfl rfl (as := [.int t, .int (nI 4)]) (rest := [.ref 116, .int ((nI 16) * t)]) rfl rfl ?_
  show am_ww 222 0 [.int t, .int (nI 4)] [] E I J S _
  refine w_st (i' := 1) (ls' := [.int t, .int (nI 4)]) (st' := [.int (nI 16)]) (E' := E) (I' := I) (J' := J) (S' := S) am_e222 rfl rfl rfl rfl ?_
  refine w_st (i' := 2) (ls' := [.int t, .int (nI 4)]) (st' := [.int (nI 6), .int (nI 16)]) (E' := E) (I' := I) (J' := J) (S' := S) am_e222 rfl rfl rfl rfl ?_
  refine w_st (i' := 3) (ls' := [.int t, .int (nI 4)]) (st' := [.int t, .int (nI 6), .int (nI 16)]) (E' := E) (I' := I) (J' := J) (S' := S) am_e222 rfl rfl rfl rfl ?_
  refine w_st (i' := 4) (ls' := [.int t, .int (nI 4)]) (st' := [.int ((nI 6) * t), .int (nI 16)]) (E' := E) (I' := I) (J' := J) (S' := S) am_e222 rfl rfl rfl rfl ?_
  refine w_st (i' := 5) (ls' := [.int t, .int (nI 4)]) (st' := [.int ((nI 16) + ((nI 6) * t))]) (E' := E) (I' := I) (J' := J) (S' := S) am_e222 rfl rfl rfl rfl ?_
  refine w_st (i' := 6) (ls' := [.int t, .int (nI 4)]) (st' := [.int (nI 4), .int ((nI 16) + ((nI 6) * t))]) (E' := E) (I' := I) (J' := J) (S' := S) am_e222 rfl rfl rfl rfl ?_
  refine w_st (i' := 7) (ls' := [.int t, .int (nI 4)]) (st' := [.int (((nI 16) + ((nI 6) * t)) + (nI 4))]) (E' := E) (I' := I) (J' := J) (S' := S) am_e222 rfl rfl rfl rfl ?_
  refine w_ri am_e222 rfl rfl (q_mkI ?_)
  show am_ww 223 8 [.ref 99, .int t] [.int (((nI 16) + ((nI 6) * t)) + (nI 4)), .ref 116, .int ((nI 16) * t)] E I J S _
  refine w_var (fun w1 => am_ww 223 8 [.ref 99, .int t] [.int w1, .ref 116, .int ((nI 16) * t)] E I J S _) (((nI 16) + ((nI 6) * t)) + (nI 4)) (fun w1 hw1 => ?_)
  replace h := h w1 hw1
  have hv2 := h.1
  replace h := h.2
  refine w_ia (k := 116) (n := 51) (jn := w1.toNatClampNeg) am_e223 rfl rfl (by decide) hv2 rfl ?_
  refine w_st (i' := 10) (ls' := [.ref 99, .int t]) (st' := [.int (((nI 16) * t) + ((I 116) w1.toNatClampNeg))]) (E' := E) (I' := I) (J' := J) (S' := S) am_e223 rfl rfl rfl rfl ?_
  refine w_ri am_e223 rfl rfl (q_mkI ?_)
  show am_ww 241 3 [.ref 99, .int t, .int p, am_U, am_U, am_U, am_U] [.int (((nI 16) * t) + ((I 116) w1.toNatClampNeg))] E I J S _
  refine w_var (fun w3 => am_ww 241 3 [.ref 99, .int t, .int p, am_U, am_U, am_U, am_U] [.int w3] E I J S _) (((nI 16) * t) + ((I 116) w1.toNatClampNeg)) (fun w3 hw3 => ?_)
  replace h := h w3 hw3
  refine w_st (i' := 4) (ls' := [.ref 99, .int t, .int p, .int w3, am_U, am_U, am_U]) (st' := []) (E' := E) (I' := I) (J' := J) (S' := S) am_e241 rfl rfl rfl rfl ?_
  refine w_st (i' := 5) (ls' := [.ref 99, .int t, .int p, .int w3, am_U, am_U, am_U]) (st' := [.int t]) (E' := E) (I' := I) (J' := J) (S' := S) am_e241 rfl rfl rfl rfl ?_
  refine w_st (i' := 6) (ls' := [.ref 99, .int t, .int p, .int w3, am_U, am_U, am_U]) (st' := [.ref 99, .int t]) (E' := E) (I' := I) (J' := J) (S' := S) am_e241 rfl rfl rfl rfl ?_
  refine w_st (i' := 7) (ls' := [.ref 99, .int t, .int p, .int w3, am_U, am_U, am_U]) (st' := [.ref 107, .int t]) (E' := E) (I' := I) (J' := J) (S' := S) am_e241 rfl rfl rfl rfl ?_
  refine w_st (i' := 8) (ls' := [.ref 99, .int t, .int p, .int w3, am_U, am_U, am_U]) (st' := [.int w3, .ref 107, .int t]) (E' := E) (I' := I) (J' := J) (S' := S) am_e241 rfl rfl rfl rfl ?_
  have hv4 := h.1
  replace h := h.2
  refine w_ia (k := 107) (n := 128) (jn := w3.toNatClampNeg) am_e241 rfl rfl (by decide) hv4 rfl ?_
  refine w_st (i' := 10) (ls' := [.ref 99, .int t, .int p, .int w3, am_U, am_U, am_U]) (st' := [.int (nI 4), .int ((I 107) w3.toNatClampNeg), .int t]) (E' := E) (I' := I) (J' := J) (S' := S) am_e241 rfl rfl rfl rfl ?_
  refine w_mg (i := 17) (ls' := [.ref 99, .int t, .int p, .int w3, am_U, am_U, am_U]) (st' := [.int (if (nI 4) ≤ ((I 107) w3.toNatClampNeg) then nI 0 else ((I 107) w3.toNatClampNeg)), .int t]) (fun hm => ?_) ?_
  · clear h
    refine w_if2 am_e241 rfl rfl (fun c => ?_) (fun c => ?_)
    · have m5 := (of_decide_eq_true c)
      refine w_st (i' := 17) (ls' := [.ref 99, .int t, .int p, .int w3, am_U, am_U, am_U]) (st' := [.int (nI 0), .int t]) (E' := E) (I' := I) (J' := J) (S' := S) am_e241 rfl rfl rfl rfl ?_
      simp only [if_pos m5] at hm
      exact hm
    · have m5 := (of_decide_eq_false c)
      refine w_st (i' := 12) (ls' := [.ref 99, .int t, .int p, .int w3, am_U, am_U, am_U]) (st' := [.ref 99, .int t]) (E' := E) (I' := I) (J' := J) (S' := S) am_e241 rfl rfl rfl rfl ?_
      refine w_st (i' := 13) (ls' := [.ref 99, .int t, .int p, .int w3, am_U, am_U, am_U]) (st' := [.ref 107, .int t]) (E' := E) (I' := I) (J' := J) (S' := S) am_e241 rfl rfl rfl rfl ?_
      refine w_st (i' := 14) (ls' := [.ref 99, .int t, .int p, .int w3, am_U, am_U, am_U]) (st' := [.int w3, .ref 107, .int t]) (E' := E) (I' := I) (J' := J) (S' := S) am_e241 rfl rfl rfl rfl ?_
      refine w_ia (k := 107) (n := 128) (jn := w3.toNatClampNeg) am_e241 rfl rfl (by decide) hv4 rfl ?_
      show am_ww 241 15 [.ref 99, .int t, .int p, .int w3, am_U, am_U, am_U] [.int ((I 107) w3.toNatClampNeg), .int t] E I J S _
      refine w_st (i' := 17) (ls' := [.ref 99, .int t, .int p, .int w3, am_U, am_U, am_U]) (st' := [.int ((I 107) w3.toNatClampNeg), .int t]) (E' := E) (I' := I) (J' := J) (S' := S) am_e241 rfl rfl rfl rfl ?_
      simp only [if_neg m5] at hm
      exact hm
  refine w_var (fun w6 => am_ww 241 17 [.ref 99, .int t, .int p, .int w3, am_U, am_U, am_U] [.int w6, .int t] E I J S _) (if (nI 4) ≤ ((I 107) w3.toNatClampNeg) then nI 0 else ((I 107) w3.toNatClampNeg)) (fun w6 hw6 => ?_)
  replace h := h w6 hw6
  refine w_cI am_e241 rfl rfl (as := [.int t, .int w6]) (rest := []) rfl rfl ?_
  show am_ww 222 0 [.int t, .int w6] [] E I J S _
  refine w_st (i' := 1) (ls' := [.int t, .int w6]) (st' := [.int (nI 16)]) (E' := E) (I' := I) (J' := J) (S' := S) am_e222 rfl rfl rfl rfl ?_
  refine w_st (i' := 2) (ls' := [.int t, .int w6]) (st' := [.int (nI 6), .int (nI 16)]) (E' := E) (I' := I) (J' := J) (S' := S) am_e222 rfl rfl rfl rfl ?_
  refine w_st (i' := 3) (ls' := [.int t, .int w6]) (st' := [.int t, .int (nI 6), .int (nI 16)]) (E' := E) (I' := I) (J' := J) (S' := S) am_e222 rfl rfl rfl rfl ?_
  refine w_st (i' := 4) (ls' := [.int t, .int w6]) (st' := [.int ((nI 6) * t), .int (nI 16)]) (E' := E) (I' := I) (J' := J) (S' := S) am_e222 rfl rfl rfl rfl ?_
  refine w_st (i' := 5) (ls' := [.int t, .int w6]) (st' := [.int ((nI 16) + ((nI 6) * t))]) (E' := E) (I' := I) (J' := J) (S' := S) am_e222 rfl rfl rfl rfl ?_
  refine w_st (i' := 6) (ls' := [.int t, .int w6]) (st' := [.int w6, .int ((nI 16) + ((nI 6) * t))]) (E' := E) (I' := I) (J' := J) (S' := S) am_e222 rfl rfl rfl rfl ?_
  refine w_st (i' := 7) (ls' := [.int t, .int w6]) (st' := [.int (((nI 16) + ((nI 6) * t)) + w6)]) (E' := E) (I' := I) (J' := J) (S' := S) am_e222 rfl rfl rfl rfl ?_
  refine w_ri am_e222 rfl rfl (q_mkI ?_)
  show am_ww 241 18 [.ref 99, .int t, .int p, .int w3, am_U, am_U, am_U] [.int (((nI 16) + ((nI 6) * t)) + w6)] E I J S _
  refine w_var (fun w7 => am_ww 241 18 [.ref 99, .int t, .int p, .int w3, am_U, am_U, am_U] [.int w7] E I J S _) (((nI 16) + ((nI 6) * t)) + w6) (fun w7 hw7 => ?_)
  replace h := h w7 hw7
  refine w_st (i' := 19) (ls' := [.ref 99, .int t, .int p, .int w3, .int w7, am_U, am_U]) (st' := []) (E' := E) (I' := I) (J' := J) (S' := S) am_e241 rfl rfl rfl rfl ?_
  refine w_st (i' := 20) (ls' := [.ref 99, .int t, .int p, .int w3, .int w7, am_U, am_U]) (st' := [.int t]) (E' := E) (I' := I) (J' := J) (S' := S) am_e241 rfl rfl rfl rfl ?_
  refine w_st (i' := 21) (ls' := [.ref 99, .int t, .int p, .int w3, .int w7, am_U, am_U]) (st' := [.ref 99, .int t]) (E' := E) (I' := I) (J' := J) (S' := S) am_e241 rfl rfl rfl rfl ?_
  refine w_st (i' := 22) (ls' := [.ref 99, .int t, .int p, .int w3, .int w7, am_U, am_U]) (st' := [.ref 108, .int t]) (E' := E) (I' := I) (J' := J) (S' := S) am_e241 rfl rfl rfl rfl ?_
  refine w_st (i' := 23) (ls' := [.ref 99, .int t, .int p, .int w3, .int w7, am_U, am_U]) (st' := [.int w3, .ref 108, .int t]) (E' := E) (I' := I) (J' := J) (S' := S) am_e241 rfl rfl rfl rfl ?_
  refine w_ia (k := 108) (n := 128) (jn := w3.toNatClampNeg) am_e241 rfl rfl (by decide) hv4 rfl ?_
  refine w_mg (i := 37) (ls' := [.ref 99, .int t, .int p, .int w3, .int w7, am_U, am_U]) (st' := [.int (if ((I 108) w3.toNatClampNeg) < 0 then nI 0 else (if (nI 4) ≤ ((I 108) w3.toNatClampNeg) then nI 0 else ((I 108) w3.toNatClampNeg))), .int t]) (fun hm => ?_) ?_
  · clear h
    refine w_if1 am_e241 rfl rfl (fun c => ?_) (fun c => ?_)
    · have m8 := (of_decide_eq_true c)
      refine w_st (i' := 37) (ls' := [.ref 99, .int t, .int p, .int w3, .int w7, am_U, am_U]) (st' := [.int (nI 0), .int t]) (E' := E) (I' := I) (J' := J) (S' := S) am_e241 rfl rfl rfl rfl ?_
      simp only [if_pos m8] at hm
      exact hm
    · have m8 := (of_decide_eq_false c)
      refine w_st (i' := 26) (ls' := [.ref 99, .int t, .int p, .int w3, .int w7, am_U, am_U]) (st' := [.ref 99, .int t]) (E' := E) (I' := I) (J' := J) (S' := S) am_e241 rfl rfl rfl rfl ?_
      refine w_st (i' := 27) (ls' := [.ref 99, .int t, .int p, .int w3, .int w7, am_U, am_U]) (st' := [.ref 108, .int t]) (E' := E) (I' := I) (J' := J) (S' := S) am_e241 rfl rfl rfl rfl ?_
      refine w_st (i' := 28) (ls' := [.ref 99, .int t, .int p, .int w3, .int w7, am_U, am_U]) (st' := [.int w3, .ref 108, .int t]) (E' := E) (I' := I) (J' := J) (S' := S) am_e241 rfl rfl rfl rfl ?_
      refine w_ia (k := 108) (n := 128) (jn := w3.toNatClampNeg) am_e241 rfl rfl (by decide) hv4 rfl ?_
      show am_ww 241 29 [.ref 99, .int t, .int p, .int w3, .int w7, am_U, am_U] [.int ((I 108) w3.toNatClampNeg), .int t] E I J S _
      refine w_st (i' := 30) (ls' := [.ref 99, .int t, .int p, .int w3, .int w7, am_U, am_U]) (st' := [.int (nI 4), .int ((I 108) w3.toNatClampNeg), .int t]) (E' := E) (I' := I) (J' := J) (S' := S) am_e241 rfl rfl rfl rfl ?_
      refine w_if2 am_e241 rfl rfl (fun c => ?_) (fun c => ?_)
      · have m9 := (of_decide_eq_true c)
        refine w_st (i' := 37) (ls' := [.ref 99, .int t, .int p, .int w3, .int w7, am_U, am_U]) (st' := [.int (nI 0), .int t]) (E' := E) (I' := I) (J' := J) (S' := S) am_e241 rfl rfl rfl rfl ?_
        simp only [if_neg m8, if_pos m9] at hm
        exact hm
      · have m9 := (of_decide_eq_false c)
        refine w_st (i' := 32) (ls' := [.ref 99, .int t, .int p, .int w3, .int w7, am_U, am_U]) (st' := [.ref 99, .int t]) (E' := E) (I' := I) (J' := J) (S' := S) am_e241 rfl rfl rfl rfl ?_
        refine w_st (i' := 33) (ls' := [.ref 99, .int t, .int p, .int w3, .int w7, am_U, am_U]) (st' := [.ref 108, .int t]) (E' := E) (I' := I) (J' := J) (S' := S) am_e241 rfl rfl rfl rfl ?_
        refine w_st (i' := 34) (ls' := [.ref 99, .int t, .int p, .int w3, .int w7, am_U, am_U]) (st' := [.int w3, .ref 108, .int t]) (E' := E) (I' := I) (J' := J) (S' := S) am_e241 rfl rfl rfl rfl ?_
        refine w_ia (k := 108) (n := 128) (jn := w3.toNatClampNeg) am_e241 rfl rfl (by decide) hv4 rfl ?_
        show am_ww 241 35 [.ref 99, .int t, .int p, .int w3, .int w7, am_U, am_U] [.int ((I 108) w3.toNatClampNeg), .int t] E I J S _
        refine w_st (i' := 37) (ls' := [.ref 99, .int t, .int p, .int w3, .int w7, am_U, am_U]) (st' := [.int ((I 108) w3.toNatClampNeg), .int t]) (E' := E) (I' := I) (J' := J) (S' := S) am_e241 rfl rfl rfl rfl ?_
        simp only [if_neg m8, if_neg m9] at hm
        exact hm
  refine w_var (fun w10 => am_ww 241 37 [.ref 99, .int t, .int p, .int w3, .int w7, am_U, am_U] [.int w10, .int t] E I J S _) (if ((I 108) w3.toNatClampNeg) < 0 then nI 0 else (if (nI 4) ≤ ((I 108) w3.toNatClampNeg) then nI 0 else ((I 108) w3.toNatClampNeg))) (fun w10 hw10 => ?_)
  replace h := h w10 hw10
  refine w_cI am_e241 rfl rfl (as := [.int t, .int w10]) (rest := []) rfl rfl ?_
  show am_ww 222 0 [.int t, .int w10] [] E I J S _
  refine w_st (i' := 1) (ls' := [.int t, .int w10]) (st' := [.int (nI 16)]) (E' := E) (I' := I) (J' := J) (S' := S) am_e222 rfl rfl rfl rfl ?_
  refine w_st (i' := 2) (ls' := [.int t, .int w10]) (st' := [.int (nI 6), .int (nI 16)]) (E' := E) (I' := I) (J' := J) (S' := S) am_e222 rfl rfl rfl rfl ?_
  refine w_st (i' := 3) (ls' := [.int t, .int w10]) (st' := [.int t, .int (nI 6), .int (nI 16)]) (E' := E) (I' := I) (J' := J) (S' := S) am_e222 rfl rfl rfl rfl ?_
  refine w_st (i' := 4) (ls' := [.int t, .int w10]) (st' := [.int ((nI 6) * t), .int (nI 16)]) (E' := E) (I' := I) (J' := J) (S' := S) am_e222 rfl rfl rfl rfl ?_
  refine w_st (i' := 5) (ls' := [.int t, .int w10]) (st' := [.int ((nI 16) + ((nI 6) * t))]) (E' := E) (I' := I) (J' := J) (S' := S) am_e222 rfl rfl rfl rfl ?_
  refine w_st (i' := 6) (ls' := [.int t, .int w10]) (st' := [.int w10, .int ((nI 16) + ((nI 6) * t))]) (E' := E) (I' := I) (J' := J) (S' := S) am_e222 rfl rfl rfl rfl ?_
  refine w_st (i' := 7) (ls' := [.int t, .int w10]) (st' := [.int (((nI 16) + ((nI 6) * t)) + w10)]) (E' := E) (I' := I) (J' := J) (S' := S) am_e222 rfl rfl rfl rfl ?_
  refine w_ri am_e222 rfl rfl (q_mkI ?_)
  show am_ww 241 38 [.ref 99, .int t, .int p, .int w3, .int w7, am_U, am_U] [.int (((nI 16) + ((nI 6) * t)) + w10)] E I J S _
  refine w_var (fun w11 => am_ww 241 38 [.ref 99, .int t, .int p, .int w3, .int w7, am_U, am_U] [.int w11] E I J S _) (((nI 16) + ((nI 6) * t)) + w10) (fun w11 hw11 => ?_)
  replace h := h w11 hw11
  refine w_st (i' := 39) (ls' := [.ref 99, .int t, .int p, .int w3, .int w7, .int w11, am_U]) (st' := []) (E' := E) (I' := I) (J' := J) (S' := S) am_e241 rfl rfl rfl rfl ?_
  refine w_st (i' := 40) (ls' := [.ref 99, .int t, .int p, .int w3, .int w7, .int w11, am_U]) (st' := [.ref 99]) (E' := E) (I' := I) (J' := J) (S' := S) am_e241 rfl rfl rfl rfl ?_
  refine w_st (i' := 41) (ls' := [.ref 99, .int t, .int p, .int w3, .int w7, .int w11, am_U]) (st' := [.ref 116]) (E' := E) (I' := I) (J' := J) (S' := S) am_e241 rfl rfl rfl rfl ?_
  refine w_st (i' := 42) (ls' := [.ref 99, .int t, .int p, .int w3, .int w7, .int w11, am_U]) (st' := [.int t, .ref 116]) (E' := E) (I' := I) (J' := J) (S' := S) am_e241 rfl rfl rfl rfl ?_
  refine w_st (i' := 43) (ls' := [.ref 99, .int t, .int p, .int w3, .int w7, .int w11, am_U]) (st' := [.int (nI 4), .int t, .ref 116]) (E' := E) (I' := I) (J' := J) (S' := S) am_e241 rfl rfl rfl rfl ?_
  refine w_cI am_e241 rfl rfl (as := [.int t, .int (nI 4)]) (rest := [.ref 116]) rfl rfl ?_
  show am_ww 222 0 [.int t, .int (nI 4)] [] E I J S _
  refine w_st (i' := 1) (ls' := [.int t, .int (nI 4)]) (st' := [.int (nI 16)]) (E' := E) (I' := I) (J' := J) (S' := S) am_e222 rfl rfl rfl rfl ?_
  refine w_st (i' := 2) (ls' := [.int t, .int (nI 4)]) (st' := [.int (nI 6), .int (nI 16)]) (E' := E) (I' := I) (J' := J) (S' := S) am_e222 rfl rfl rfl rfl ?_
  refine w_st (i' := 3) (ls' := [.int t, .int (nI 4)]) (st' := [.int t, .int (nI 6), .int (nI 16)]) (E' := E) (I' := I) (J' := J) (S' := S) am_e222 rfl rfl rfl rfl ?_
  refine w_st (i' := 4) (ls' := [.int t, .int (nI 4)]) (st' := [.int ((nI 6) * t), .int (nI 16)]) (E' := E) (I' := I) (J' := J) (S' := S) am_e222 rfl rfl rfl rfl ?_
  refine w_st (i' := 5) (ls' := [.int t, .int (nI 4)]) (st' := [.int ((nI 16) + ((nI 6) * t))]) (E' := E) (I' := I) (J' := J) (S' := S) am_e222 rfl rfl rfl rfl ?_
  refine w_st (i' := 6) (ls' := [.int t, .int (nI 4)]) (st' := [.int (nI 4), .int ((nI 16) + ((nI 6) * t))]) (E' := E) (I' := I) (J' := J) (S' := S) am_e222 rfl rfl rfl rfl ?_
  refine w_st (i' := 7) (ls' := [.int t, .int (nI 4)]) (st' := [.int (((nI 16) + ((nI 6) * t)) + (nI 4))]) (E' := E) (I' := I) (J' := J) (S' := S) am_e222 rfl rfl rfl rfl ?_
  refine w_ri am_e222 rfl rfl (q_mkI ?_)
  show am_ww 241 44 [.ref 99, .int t, .int p, .int w3, .int w7, .int w11, am_U] [.int (((nI 16) + ((nI 6) * t)) + (nI 4)), .ref 116] E I J S _
  refine w_var (fun w12 => am_ww 241 44 [.ref 99, .int t, .int p, .int w3, .int w7, .int w11, am_U] [.int w12, .ref 116] E I J S _) (((nI 16) + ((nI 6) * t)) + (nI 4)) (fun w12 hw12 => ?_)
  replace h := h w12 hw12
  have hv13 := h.1
  replace h := h.2
  refine w_ia (k := 116) (n := 51) (jn := w12.toNatClampNeg) am_e241 rfl rfl (by decide) hv13 rfl ?_
  refine w_st (i' := 46) (ls' := [.ref 99, .int t, .int p, .int w3, .int w7, .int w11, am_U]) (st' := [.int (nI 1), .int ((I 116) w12.toNatClampNeg)]) (E' := E) (I' := I) (J' := J) (S' := S) am_e241 rfl rfl rfl rfl ?_
  refine w_st (i' := 47) (ls' := [.ref 99, .int t, .int p, .int w3, .int w7, .int w11, am_U]) (st' := [.int (((I 116) w12.toNatClampNeg) + (nI 1))]) (E' := E) (I' := I) (J' := J) (S' := S) am_e241 rfl rfl rfl rfl ?_
  refine w_st (i' := 48) (ls' := [.ref 99, .int t, .int p, .int w3, .int w7, .int w11, .int (((I 116) w12.toNatClampNeg) + (nI 1))]) (st' := []) (E' := E) (I' := I) (J' := J) (S' := S) am_e241 rfl rfl rfl rfl ?_
  refine w_var (fun w14 => am_ww 241 48 [.ref 99, .int t, .int p, .int w3, .int w7, .int w11, .int w14] [] E I J S _) (((I 116) w12.toNatClampNeg) + (nI 1)) (fun w14 hw14 => ?_)
  replace h := h w14 hw14
  refine w_st (i' := 49) (ls' := [.ref 99, .int t, .int p, .int w3, .int w7, .int w11, .int w14]) (st' := [.ref 99]) (E' := E) (I' := I) (J' := J) (S' := S) am_e241 rfl rfl rfl rfl ?_
  refine w_st (i' := 50) (ls' := [.ref 99, .int t, .int p, .int w3, .int w7, .int w11, .int w14]) (st' := [.ref 106]) (E' := E) (I' := I) (J' := J) (S' := S) am_e241 rfl rfl rfl rfl ?_
  refine w_st (i' := 51) (ls' := [.ref 99, .int t, .int p, .int w3, .int w7, .int w11, .int w14]) (st' := [.int w3, .ref 106]) (E' := E) (I' := I) (J' := J) (S' := S) am_e241 rfl rfl rfl rfl ?_
  refine w_ia (k := 106) (n := 128) (jn := w3.toNatClampNeg) am_e241 rfl rfl (by decide) hv4 rfl ?_
  refine w_tb am_e241 rfl ?_
  by_cases c0 : ((I 106) w3.toNatClampNeg) = nI 0
  · replace h := h.1 c0
    rw [c0]
    show am_ww 241 53 _ _ _ _ _ _ _
    refine w_st (i' := 54) (ls' := [.ref 99, .int t, .int p, .int w3, .int w7, .int w11, .int w14]) (st' := [.ref 99]) (E' := E) (I' := I) (J' := J) (S' := S) am_e241 rfl rfl rfl rfl ?_
    refine w_st (i' := 55) (ls' := [.ref 99, .int t, .int p, .int w3, .int w7, .int w11, .int w14]) (st' := [.ref 116]) (E' := E) (I' := I) (J' := J) (S' := S) am_e241 rfl rfl rfl rfl ?_
    refine w_st (i' := 56) (ls' := [.ref 99, .int t, .int p, .int w3, .int w7, .int w11, .int w14]) (st' := [.int w7, .ref 116]) (E' := E) (I' := I) (J' := J) (S' := S) am_e241 rfl rfl rfl rfl ?_
    refine w_st (i' := 57) (ls' := [.ref 99, .int t, .int p, .int w3, .int w7, .int w11, .int w14]) (st' := [.ref 99, .int w7, .ref 116]) (E' := E) (I' := I) (J' := J) (S' := S) am_e241 rfl rfl rfl rfl ?_
    refine w_st (i' := 58) (ls' := [.ref 99, .int t, .int p, .int w3, .int w7, .int w11, .int w14]) (st' := [.ref 108, .int w7, .ref 116]) (E' := E) (I' := I) (J' := J) (S' := S) am_e241 rfl rfl rfl rfl ?_
    refine w_st (i' := 59) (ls' := [.ref 99, .int t, .int p, .int w3, .int w7, .int w11, .int w14]) (st' := [.int w3, .ref 108, .int w7, .ref 116]) (E' := E) (I' := I) (J' := J) (S' := S) am_e241 rfl rfl rfl rfl ?_
    refine w_ia (k := 108) (n := 128) (jn := w3.toNatClampNeg) am_e241 rfl rfl (by decide) hv4 rfl ?_
    have hv15 := h.1
    replace h := h.2
    refine w_is (k := 116) (n := 51) (jn := w7.toNatClampNeg) am_e241 rfl rfl (by decide) hv15 rfl ?_
    show am_ww 241 61 [.ref 99, .int t, .int p, .int w3, .int w7, .int w11, .int w14] [] E (u_I I 116 (upd (I 116) w7.toNatClampNeg ((I 108) w3.toNatClampNeg))) J S _
    refine w_st (i' := 220) (ls' := [.ref 99, .int t, .int p, .int w3, .int w7, .int w11, .int w14]) (st' := []) (E' := E) (I' := (u_I I 116 (upd (I 116) w7.toNatClampNeg ((I 108) w3.toNatClampNeg)))) (J' := J) (S' := S) am_e241 rfl rfl rfl rfl ?_
    exact h
  by_cases c1 : ((I 106) w3.toNatClampNeg) = nI 1
  · replace h := h.2.1 c1
    rw [c1]
    show am_ww 241 62 _ _ _ _ _ _ _
    refine w_st (i' := 63) (ls' := [.ref 99, .int t, .int p, .int w3, .int w7, .int w11, .int w14]) (st' := [.ref 99]) (E' := E) (I' := I) (J' := J) (S' := S) am_e241 rfl rfl rfl rfl ?_
    refine w_st (i' := 64) (ls' := [.ref 99, .int t, .int p, .int w3, .int w7, .int w11, .int w14]) (st' := [.ref 116]) (E' := E) (I' := I) (J' := J) (S' := S) am_e241 rfl rfl rfl rfl ?_
    refine w_st (i' := 65) (ls' := [.ref 99, .int t, .int p, .int w3, .int w7, .int w11, .int w14]) (st' := [.int w7, .ref 116]) (E' := E) (I' := I) (J' := J) (S' := S) am_e241 rfl rfl rfl rfl ?_
    refine w_st (i' := 66) (ls' := [.ref 99, .int t, .int p, .int w3, .int w7, .int w11, .int w14]) (st' := [.ref 99, .int w7, .ref 116]) (E' := E) (I' := I) (J' := J) (S' := S) am_e241 rfl rfl rfl rfl ?_
    refine w_st (i' := 67) (ls' := [.ref 99, .int t, .int p, .int w3, .int w7, .int w11, .int w14]) (st' := [.ref 116, .int w7, .ref 116]) (E' := E) (I' := I) (J' := J) (S' := S) am_e241 rfl rfl rfl rfl ?_
    refine w_st (i' := 68) (ls' := [.ref 99, .int t, .int p, .int w3, .int w7, .int w11, .int w14]) (st' := [.ref 99, .ref 116, .int w7, .ref 116]) (E' := E) (I' := I) (J' := J) (S' := S) am_e241 rfl rfl rfl rfl ?_
    refine w_st (i' := 69) (ls' := [.ref 99, .int t, .int p, .int w3, .int w7, .int w11, .int w14]) (st' := [.ref 108, .ref 116, .int w7, .ref 116]) (E' := E) (I' := I) (J' := J) (S' := S) am_e241 rfl rfl rfl rfl ?_
    refine w_st (i' := 70) (ls' := [.ref 99, .int t, .int p, .int w3, .int w7, .int w11, .int w14]) (st' := [.int w3, .ref 108, .ref 116, .int w7, .ref 116]) (E' := E) (I' := I) (J' := J) (S' := S) am_e241 rfl rfl rfl rfl ?_
    refine w_ia (k := 108) (n := 128) (jn := w3.toNatClampNeg) am_e241 rfl rfl (by decide) hv4 rfl ?_
    have hv16 := h.1
    replace h := h.2
    refine w_ia (k := 116) (n := 51) (jn := ((I 108) w3.toNatClampNeg).toNatClampNeg) am_e241 rfl rfl (by decide) hv16 rfl ?_
    have hv17 := h.1
    replace h := h.2
    refine w_is (k := 116) (n := 51) (jn := w7.toNatClampNeg) am_e241 rfl rfl (by decide) hv17 rfl ?_
    show am_ww 241 73 [.ref 99, .int t, .int p, .int w3, .int w7, .int w11, .int w14] [] E (u_I I 116 (upd (I 116) w7.toNatClampNeg ((I 116) (((I 108) w3.toNatClampNeg).toNatClampNeg)))) J S _
    refine w_st (i' := 220) (ls' := [.ref 99, .int t, .int p, .int w3, .int w7, .int w11, .int w14]) (st' := []) (E' := E) (I' := (u_I I 116 (upd (I 116) w7.toNatClampNeg ((I 116) (((I 108) w3.toNatClampNeg).toNatClampNeg))))) (J' := J) (S' := S) am_e241 rfl rfl rfl rfl ?_
    exact h
  by_cases c2 : ((I 106) w3.toNatClampNeg) = nI 2
  · replace h := h.2.2.1 c2
    rw [c2]
    show am_ww 241 74 _ _ _ _ _ _ _
    refine w_st (i' := 75) (ls' := [.ref 99, .int t, .int p, .int w3, .int w7, .int w11, .int w14]) (st' := [.ref 99]) (E' := E) (I' := I) (J' := J) (S' := S) am_e241 rfl rfl rfl rfl ?_
    refine w_st (i' := 76) (ls' := [.ref 99, .int t, .int p, .int w3, .int w7, .int w11, .int w14]) (st' := [.ref 116]) (E' := E) (I' := I) (J' := J) (S' := S) am_e241 rfl rfl rfl rfl ?_
    refine w_st (i' := 77) (ls' := [.ref 99, .int t, .int p, .int w3, .int w7, .int w11, .int w14]) (st' := [.ref 99, .ref 116]) (E' := E) (I' := I) (J' := J) (S' := S) am_e241 rfl rfl rfl rfl ?_
    refine w_st (i' := 78) (ls' := [.ref 99, .int t, .int p, .int w3, .int w7, .int w11, .int w14]) (st' := [.ref 107, .ref 116]) (E' := E) (I' := I) (J' := J) (S' := S) am_e241 rfl rfl rfl rfl ?_
    refine w_st (i' := 79) (ls' := [.ref 99, .int t, .int p, .int w3, .int w7, .int w11, .int w14]) (st' := [.int w3, .ref 107, .ref 116]) (E' := E) (I' := I) (J' := J) (S' := S) am_e241 rfl rfl rfl rfl ?_
    refine w_ia (k := 107) (n := 128) (jn := w3.toNatClampNeg) am_e241 rfl rfl (by decide) hv4 rfl ?_
    refine w_st (i' := 81) (ls' := [.ref 99, .int t, .int p, .int w3, .int w7, .int w11, .int w14]) (st' := [.ref 99, .int ((I 107) w3.toNatClampNeg), .ref 116]) (E' := E) (I' := I) (J' := J) (S' := S) am_e241 rfl rfl rfl rfl ?_
    refine w_st (i' := 82) (ls' := [.ref 99, .int t, .int p, .int w3, .int w7, .int w11, .int w14]) (st' := [.ref 116, .int ((I 107) w3.toNatClampNeg), .ref 116]) (E' := E) (I' := I) (J' := J) (S' := S) am_e241 rfl rfl rfl rfl ?_
    refine w_st (i' := 83) (ls' := [.ref 99, .int t, .int p, .int w3, .int w7, .int w11, .int w14]) (st' := [.int w11, .ref 116, .int ((I 107) w3.toNatClampNeg), .ref 116]) (E' := E) (I' := I) (J' := J) (S' := S) am_e241 rfl rfl rfl rfl ?_
    have hv18 := h.1
    replace h := h.2
    refine w_ia (k := 116) (n := 51) (jn := w11.toNatClampNeg) am_e241 rfl rfl (by decide) hv18 rfl ?_
    have hv19 := h.1
    replace h := h.2
    refine w_is (k := 116) (n := 51) (jn := ((I 107) w3.toNatClampNeg).toNatClampNeg) am_e241 rfl rfl (by decide) hv19 rfl ?_
    show am_ww 241 85 [.ref 99, .int t, .int p, .int w3, .int w7, .int w11, .int w14] [] E (u_I I 116 (upd (I 116) (((I 107) w3.toNatClampNeg).toNatClampNeg) ((I 116) w11.toNatClampNeg))) J S _
    refine w_st (i' := 220) (ls' := [.ref 99, .int t, .int p, .int w3, .int w7, .int w11, .int w14]) (st' := []) (E' := E) (I' := (u_I I 116 (upd (I 116) (((I 107) w3.toNatClampNeg).toNatClampNeg) ((I 116) w11.toNatClampNeg)))) (J' := J) (S' := S) am_e241 rfl rfl rfl rfl ?_
    exact h
  by_cases c3 : ((I 106) w3.toNatClampNeg) = nI 3
  · replace h := h.2.2.2.1 c3
    rw [c3]
    show am_ww 241 86 _ _ _ _ _ _ _
    refine w_st (i' := 87) (ls' := [.ref 99, .int t, .int p, .int w3, .int w7, .int w11, .int w14]) (st' := [.ref 99]) (E' := E) (I' := I) (J' := J) (S' := S) am_e241 rfl rfl rfl rfl ?_
    refine w_st (i' := 88) (ls' := [.ref 99, .int t, .int p, .int w3, .int w7, .int w11, .int w14]) (st' := [.ref 116]) (E' := E) (I' := I) (J' := J) (S' := S) am_e241 rfl rfl rfl rfl ?_
    refine w_st (i' := 89) (ls' := [.ref 99, .int t, .int p, .int w3, .int w7, .int w11, .int w14]) (st' := [.int w7, .ref 116]) (E' := E) (I' := I) (J' := J) (S' := S) am_e241 rfl rfl rfl rfl ?_
    refine w_st (i' := 90) (ls' := [.ref 99, .int t, .int p, .int w3, .int w7, .int w11, .int w14]) (st' := [.int w7, .ref 116, .int w7, .ref 116]) (E' := E) (I' := I) (J' := J) (S' := S) am_e241 rfl rfl rfl rfl ?_
    have hv20 := h.1
    replace h := h.2
    refine w_ia (k := 116) (n := 51) (jn := w7.toNatClampNeg) am_e241 rfl rfl (by decide) hv20 rfl ?_
    refine w_st (i' := 92) (ls' := [.ref 99, .int t, .int p, .int w3, .int w7, .int w11, .int w14]) (st' := [.ref 99, .int ((I 116) w7.toNatClampNeg), .int w7, .ref 116]) (E' := E) (I' := I) (J' := J) (S' := S) am_e241 rfl rfl rfl rfl ?_
    refine w_st (i' := 93) (ls' := [.ref 99, .int t, .int p, .int w3, .int w7, .int w11, .int w14]) (st' := [.ref 116, .int ((I 116) w7.toNatClampNeg), .int w7, .ref 116]) (E' := E) (I' := I) (J' := J) (S' := S) am_e241 rfl rfl rfl rfl ?_
    refine w_st (i' := 94) (ls' := [.ref 99, .int t, .int p, .int w3, .int w7, .int w11, .int w14]) (st' := [.int w11, .ref 116, .int ((I 116) w7.toNatClampNeg), .int w7, .ref 116]) (E' := E) (I' := I) (J' := J) (S' := S) am_e241 rfl rfl rfl rfl ?_
    have hv21 := h.1
    replace h := h.2
    refine w_ia (k := 116) (n := 51) (jn := w11.toNatClampNeg) am_e241 rfl rfl (by decide) hv21 rfl ?_
    refine w_st (i' := 96) (ls' := [.ref 99, .int t, .int p, .int w3, .int w7, .int w11, .int w14]) (st' := [.int (((I 116) w7.toNatClampNeg) + ((I 116) w11.toNatClampNeg)), .int w7, .ref 116]) (E' := E) (I' := I) (J' := J) (S' := S) am_e241 rfl rfl rfl rfl ?_
    refine w_is (k := 116) (n := 51) (jn := w7.toNatClampNeg) am_e241 rfl rfl (by decide) hv20 rfl ?_
    show am_ww 241 97 [.ref 99, .int t, .int p, .int w3, .int w7, .int w11, .int w14] [] E (u_I I 116 (upd (I 116) w7.toNatClampNeg (((I 116) w7.toNatClampNeg) + ((I 116) w11.toNatClampNeg)))) J S _
    refine w_st (i' := 220) (ls' := [.ref 99, .int t, .int p, .int w3, .int w7, .int w11, .int w14]) (st' := []) (E' := E) (I' := (u_I I 116 (upd (I 116) w7.toNatClampNeg (((I 116) w7.toNatClampNeg) + ((I 116) w11.toNatClampNeg))))) (J' := J) (S' := S) am_e241 rfl rfl rfl rfl ?_
    exact h
  by_cases c4 : ((I 106) w3.toNatClampNeg) = nI 4
  · replace h := h.2.2.2.2.1 c4
    rw [c4]
    show am_ww 241 98 _ _ _ _ _ _ _
    refine w_st (i' := 99) (ls' := [.ref 99, .int t, .int p, .int w3, .int w7, .int w11, .int w14]) (st' := [.ref 99]) (E' := E) (I' := I) (J' := J) (S' := S) am_e241 rfl rfl rfl rfl ?_
    refine w_st (i' := 100) (ls' := [.ref 99, .int t, .int p, .int w3, .int w7, .int w11, .int w14]) (st' := [.ref 116]) (E' := E) (I' := I) (J' := J) (S' := S) am_e241 rfl rfl rfl rfl ?_
    refine w_st (i' := 101) (ls' := [.ref 99, .int t, .int p, .int w3, .int w7, .int w11, .int w14]) (st' := [.int w7, .ref 116]) (E' := E) (I' := I) (J' := J) (S' := S) am_e241 rfl rfl rfl rfl ?_
    refine w_st (i' := 102) (ls' := [.ref 99, .int t, .int p, .int w3, .int w7, .int w11, .int w14]) (st' := [.int w7, .ref 116, .int w7, .ref 116]) (E' := E) (I' := I) (J' := J) (S' := S) am_e241 rfl rfl rfl rfl ?_
    have hv22 := h.1
    replace h := h.2
    refine w_ia (k := 116) (n := 51) (jn := w7.toNatClampNeg) am_e241 rfl rfl (by decide) hv22 rfl ?_
    refine w_st (i' := 104) (ls' := [.ref 99, .int t, .int p, .int w3, .int w7, .int w11, .int w14]) (st' := [.ref 99, .int ((I 116) w7.toNatClampNeg), .int w7, .ref 116]) (E' := E) (I' := I) (J' := J) (S' := S) am_e241 rfl rfl rfl rfl ?_
    refine w_st (i' := 105) (ls' := [.ref 99, .int t, .int p, .int w3, .int w7, .int w11, .int w14]) (st' := [.ref 116, .int ((I 116) w7.toNatClampNeg), .int w7, .ref 116]) (E' := E) (I' := I) (J' := J) (S' := S) am_e241 rfl rfl rfl rfl ?_
    refine w_st (i' := 106) (ls' := [.ref 99, .int t, .int p, .int w3, .int w7, .int w11, .int w14]) (st' := [.int w11, .ref 116, .int ((I 116) w7.toNatClampNeg), .int w7, .ref 116]) (E' := E) (I' := I) (J' := J) (S' := S) am_e241 rfl rfl rfl rfl ?_
    have hv23 := h.1
    replace h := h.2
    refine w_ia (k := 116) (n := 51) (jn := w11.toNatClampNeg) am_e241 rfl rfl (by decide) hv23 rfl ?_
    refine w_st (i' := 108) (ls' := [.ref 99, .int t, .int p, .int w3, .int w7, .int w11, .int w14]) (st' := [.int (((I 116) w7.toNatClampNeg) - ((I 116) w11.toNatClampNeg)), .int w7, .ref 116]) (E' := E) (I' := I) (J' := J) (S' := S) am_e241 rfl rfl rfl rfl ?_
    refine w_is (k := 116) (n := 51) (jn := w7.toNatClampNeg) am_e241 rfl rfl (by decide) hv22 rfl ?_
    show am_ww 241 109 [.ref 99, .int t, .int p, .int w3, .int w7, .int w11, .int w14] [] E (u_I I 116 (upd (I 116) w7.toNatClampNeg (((I 116) w7.toNatClampNeg) - ((I 116) w11.toNatClampNeg)))) J S _
    refine w_st (i' := 220) (ls' := [.ref 99, .int t, .int p, .int w3, .int w7, .int w11, .int w14]) (st' := []) (E' := E) (I' := (u_I I 116 (upd (I 116) w7.toNatClampNeg (((I 116) w7.toNatClampNeg) - ((I 116) w11.toNatClampNeg))))) (J' := J) (S' := S) am_e241 rfl rfl rfl rfl ?_
    exact h
  by_cases c5 : ((I 106) w3.toNatClampNeg) = nI 5
  · replace h := h.2.2.2.2.2.1 c5
    rw [c5]
    show am_ww 241 110 _ _ _ _ _ _ _
    refine w_st (i' := 111) (ls' := [.ref 99, .int t, .int p, .int w3, .int w7, .int w11, .int w14]) (st' := [.ref 99]) (E' := E) (I' := I) (J' := J) (S' := S) am_e241 rfl rfl rfl rfl ?_
    refine w_st (i' := 112) (ls' := [.ref 99, .int t, .int p, .int w3, .int w7, .int w11, .int w14]) (st' := [.ref 116]) (E' := E) (I' := I) (J' := J) (S' := S) am_e241 rfl rfl rfl rfl ?_
    refine w_st (i' := 113) (ls' := [.ref 99, .int t, .int p, .int w3, .int w7, .int w11, .int w14]) (st' := [.int w7, .ref 116]) (E' := E) (I' := I) (J' := J) (S' := S) am_e241 rfl rfl rfl rfl ?_
    refine w_st (i' := 114) (ls' := [.ref 99, .int t, .int p, .int w3, .int w7, .int w11, .int w14]) (st' := [.int w7, .ref 116, .int w7, .ref 116]) (E' := E) (I' := I) (J' := J) (S' := S) am_e241 rfl rfl rfl rfl ?_
    have hv24 := h.1
    replace h := h.2
    refine w_ia (k := 116) (n := 51) (jn := w7.toNatClampNeg) am_e241 rfl rfl (by decide) hv24 rfl ?_
    refine w_st (i' := 116) (ls' := [.ref 99, .int t, .int p, .int w3, .int w7, .int w11, .int w14]) (st' := [.ref 99, .int ((I 116) w7.toNatClampNeg), .int w7, .ref 116]) (E' := E) (I' := I) (J' := J) (S' := S) am_e241 rfl rfl rfl rfl ?_
    refine w_st (i' := 117) (ls' := [.ref 99, .int t, .int p, .int w3, .int w7, .int w11, .int w14]) (st' := [.ref 116, .int ((I 116) w7.toNatClampNeg), .int w7, .ref 116]) (E' := E) (I' := I) (J' := J) (S' := S) am_e241 rfl rfl rfl rfl ?_
    refine w_st (i' := 118) (ls' := [.ref 99, .int t, .int p, .int w3, .int w7, .int w11, .int w14]) (st' := [.int w11, .ref 116, .int ((I 116) w7.toNatClampNeg), .int w7, .ref 116]) (E' := E) (I' := I) (J' := J) (S' := S) am_e241 rfl rfl rfl rfl ?_
    have hv25 := h.1
    replace h := h.2
    refine w_ia (k := 116) (n := 51) (jn := w11.toNatClampNeg) am_e241 rfl rfl (by decide) hv25 rfl ?_
    refine w_st (i' := 120) (ls' := [.ref 99, .int t, .int p, .int w3, .int w7, .int w11, .int w14]) (st' := [.int (((I 116) w7.toNatClampNeg) * ((I 116) w11.toNatClampNeg)), .int w7, .ref 116]) (E' := E) (I' := I) (J' := J) (S' := S) am_e241 rfl rfl rfl rfl ?_
    refine w_is (k := 116) (n := 51) (jn := w7.toNatClampNeg) am_e241 rfl rfl (by decide) hv24 rfl ?_
    show am_ww 241 121 [.ref 99, .int t, .int p, .int w3, .int w7, .int w11, .int w14] [] E (u_I I 116 (upd (I 116) w7.toNatClampNeg (((I 116) w7.toNatClampNeg) * ((I 116) w11.toNatClampNeg)))) J S _
    refine w_st (i' := 220) (ls' := [.ref 99, .int t, .int p, .int w3, .int w7, .int w11, .int w14]) (st' := []) (E' := E) (I' := (u_I I 116 (upd (I 116) w7.toNatClampNeg (((I 116) w7.toNatClampNeg) * ((I 116) w11.toNatClampNeg))))) (J' := J) (S' := S) am_e241 rfl rfl rfl rfl ?_
    exact h
  by_cases c6 : ((I 106) w3.toNatClampNeg) = nI 6
  · replace h := h.2.2.2.2.2.2.1 c6
    rw [c6]
    show am_ww 241 122 _ _ _ _ _ _ _
    refine w_st (i' := 123) (ls' := [.ref 99, .int t, .int p, .int w3, .int w7, .int w11, .int w14]) (st' := [.ref 99]) (E' := E) (I' := I) (J' := J) (S' := S) am_e241 rfl rfl rfl rfl ?_
    refine w_st (i' := 124) (ls' := [.ref 99, .int t, .int p, .int w3, .int w7, .int w11, .int w14]) (st' := [.ref 116]) (E' := E) (I' := I) (J' := J) (S' := S) am_e241 rfl rfl rfl rfl ?_
    refine w_st (i' := 125) (ls' := [.ref 99, .int t, .int p, .int w3, .int w7, .int w11, .int w14]) (st' := [.int w7, .ref 116]) (E' := E) (I' := I) (J' := J) (S' := S) am_e241 rfl rfl rfl rfl ?_
    refine w_st (i' := 126) (ls' := [.ref 99, .int t, .int p, .int w3, .int w7, .int w11, .int w14]) (st' := [.int p, .int w7, .ref 116]) (E' := E) (I' := I) (J' := J) (S' := S) am_e241 rfl rfl rfl rfl ?_
    have hv26 := h.1
    replace h := h.2
    refine w_is (k := 116) (n := 51) (jn := w7.toNatClampNeg) am_e241 rfl rfl (by decide) hv26 rfl ?_
    show am_ww 241 127 [.ref 99, .int t, .int p, .int w3, .int w7, .int w11, .int w14] [] E (u_I I 116 (upd (I 116) w7.toNatClampNeg p)) J S _
    refine w_st (i' := 128) (ls' := [.ref 99, .int t, .int p, .int w3, .int w7, .int w11, .int w14]) (st' := [.ref 99]) (E' := E) (I' := (u_I I 116 (upd (I 116) w7.toNatClampNeg p))) (J' := J) (S' := S) am_e241 rfl rfl rfl rfl ?_
    refine w_st (i' := 129) (ls' := [.ref 99, .int t, .int p, .int w3, .int w7, .int w11, .int w14]) (st' := [.ref 116]) (E' := E) (I' := (u_I I 116 (upd (I 116) w7.toNatClampNeg p))) (J' := J) (S' := S) am_e241 rfl rfl rfl rfl ?_
    refine w_st (i' := 130) (ls' := [.ref 99, .int t, .int p, .int w3, .int w7, .int w11, .int w14]) (st' := [.int (nI 48), .ref 116]) (E' := E) (I' := (u_I I 116 (upd (I 116) w7.toNatClampNeg p))) (J' := J) (S' := S) am_e241 rfl rfl rfl rfl ?_
    refine w_st (i' := 131) (ls' := [.ref 99, .int t, .int p, .int w3, .int w7, .int w11, .int w14]) (st' := [.ref 99, .int (nI 48), .ref 116]) (E' := E) (I' := (u_I I 116 (upd (I 116) w7.toNatClampNeg p))) (J' := J) (S' := S) am_e241 rfl rfl rfl rfl ?_
    refine w_st (i' := 132) (ls' := [.ref 99, .int t, .int p, .int w3, .int w7, .int w11, .int w14]) (st' := [.ref 108, .int (nI 48), .ref 116]) (E' := E) (I' := (u_I I 116 (upd (I 116) w7.toNatClampNeg p))) (J' := J) (S' := S) am_e241 rfl rfl rfl rfl ?_
    refine w_st (i' := 133) (ls' := [.ref 99, .int t, .int p, .int w3, .int w7, .int w11, .int w14]) (st' := [.int w3, .ref 108, .int (nI 48), .ref 116]) (E' := E) (I' := (u_I I 116 (upd (I 116) w7.toNatClampNeg p))) (J' := J) (S' := S) am_e241 rfl rfl rfl rfl ?_
    refine w_ia (k := 108) (n := 128) (jn := w3.toNatClampNeg) am_e241 rfl rfl (by decide) hv4 rfl ?_
    refine w_st (i' := 135) (ls' := [.ref 99, .int t, .int p, .int w3, .int w7, .int w11, .int w14]) (st' := [.int ((nI 48) + ((I 108) w3.toNatClampNeg)), .ref 116]) (E' := E) (I' := (u_I I 116 (upd (I 116) w7.toNatClampNeg p))) (J' := J) (S' := S) am_e241 rfl rfl rfl rfl ?_
    refine w_st (i' := 136) (ls' := [.ref 99, .int t, .int p, .int w3, .int w7, .int w11, .int w14]) (st' := [.int ((nI 48) + ((I 108) w3.toNatClampNeg)), .ref 116, .int ((nI 48) + ((I 108) w3.toNatClampNeg)), .ref 116]) (E' := E) (I' := (u_I I 116 (upd (I 116) w7.toNatClampNeg p))) (J' := J) (S' := S) am_e241 rfl rfl rfl rfl ?_
    have hv27 := h.1
    replace h := h.2
    refine w_ia (k := 116) (n := 51) (jn := ((nI 48) + ((I 108) w3.toNatClampNeg)).toNatClampNeg) am_e241 rfl rfl (by decide) hv27 rfl ?_
    show am_ww 241 137 [.ref 99, .int t, .int p, .int w3, .int w7, .int w11, .int w14] [.int ((upd (I 116) w7.toNatClampNeg p) (((nI 48) + ((I 108) w3.toNatClampNeg)).toNatClampNeg)), .int ((nI 48) + ((I 108) w3.toNatClampNeg)), .ref 116] E (u_I I 116 (upd (I 116) w7.toNatClampNeg p)) J S _
    refine w_st (i' := 138) (ls' := [.ref 99, .int t, .int p, .int w3, .int w7, .int w11, .int w14]) (st' := [.int (nI 1), .int ((upd (I 116) w7.toNatClampNeg p) (((nI 48) + ((I 108) w3.toNatClampNeg)).toNatClampNeg)), .int ((nI 48) + ((I 108) w3.toNatClampNeg)), .ref 116]) (E' := E) (I' := (u_I I 116 (upd (I 116) w7.toNatClampNeg p))) (J' := J) (S' := S) am_e241 rfl rfl rfl rfl ?_
    refine w_st (i' := 139) (ls' := [.ref 99, .int t, .int p, .int w3, .int w7, .int w11, .int w14]) (st' := [.int (((upd (I 116) w7.toNatClampNeg p) (((nI 48) + ((I 108) w3.toNatClampNeg)).toNatClampNeg)) + (nI 1)), .int ((nI 48) + ((I 108) w3.toNatClampNeg)), .ref 116]) (E' := E) (I' := (u_I I 116 (upd (I 116) w7.toNatClampNeg p))) (J' := J) (S' := S) am_e241 rfl rfl rfl rfl ?_
    refine w_is (k := 116) (n := 51) (jn := ((nI 48) + ((I 108) w3.toNatClampNeg)).toNatClampNeg) am_e241 rfl rfl (by decide) hv27 rfl ?_
    refine w_eI (uI_0 ..) ?_
    show am_ww 241 140 [.ref 99, .int t, .int p, .int w3, .int w7, .int w11, .int w14] [] E (u_I I 116 (upd (upd (I 116) w7.toNatClampNeg p) (((nI 48) + ((I 108) w3.toNatClampNeg)).toNatClampNeg) (((upd (I 116) w7.toNatClampNeg p) (((nI 48) + ((I 108) w3.toNatClampNeg)).toNatClampNeg)) + (nI 1)))) J S _
    refine w_st (i' := 220) (ls' := [.ref 99, .int t, .int p, .int w3, .int w7, .int w11, .int w14]) (st' := []) (E' := E) (I' := (u_I I 116 (upd (upd (I 116) w7.toNatClampNeg p) (((nI 48) + ((I 108) w3.toNatClampNeg)).toNatClampNeg) (((upd (I 116) w7.toNatClampNeg p) (((nI 48) + ((I 108) w3.toNatClampNeg)).toNatClampNeg)) + (nI 1))))) (J' := J) (S' := S) am_e241 rfl rfl rfl rfl ?_
    exact h
  by_cases c7 : ((I 106) w3.toNatClampNeg) = nI 7
  · replace h := h.2.2.2.2.2.2.2.1 c7
    rw [c7]
    show am_ww 241 141 _ _ _ _ _ _ _
    refine w_st (i' := 142) (ls' := [.ref 99, .int t, .int p, .int w3, .int w7, .int w11, .int w14]) (st' := [.ref 99]) (E' := E) (I' := I) (J' := J) (S' := S) am_e241 rfl rfl rfl rfl ?_
    refine w_st (i' := 143) (ls' := [.ref 99, .int t, .int p, .int w3, .int w7, .int w11, .int w14]) (st' := [.ref 116]) (E' := E) (I' := I) (J' := J) (S' := S) am_e241 rfl rfl rfl rfl ?_
    refine w_st (i' := 144) (ls' := [.ref 99, .int t, .int p, .int w3, .int w7, .int w11, .int w14]) (st' := [.int (nI 40), .ref 116]) (E' := E) (I' := I) (J' := J) (S' := S) am_e241 rfl rfl rfl rfl ?_
    refine w_st (i' := 145) (ls' := [.ref 99, .int t, .int p, .int w3, .int w7, .int w11, .int w14]) (st' := [.ref 99, .int (nI 40), .ref 116]) (E' := E) (I' := I) (J' := J) (S' := S) am_e241 rfl rfl rfl rfl ?_
    refine w_st (i' := 146) (ls' := [.ref 99, .int t, .int p, .int w3, .int w7, .int w11, .int w14]) (st' := [.ref 107, .int (nI 40), .ref 116]) (E' := E) (I' := I) (J' := J) (S' := S) am_e241 rfl rfl rfl rfl ?_
    refine w_st (i' := 147) (ls' := [.ref 99, .int t, .int p, .int w3, .int w7, .int w11, .int w14]) (st' := [.int w3, .ref 107, .int (nI 40), .ref 116]) (E' := E) (I' := I) (J' := J) (S' := S) am_e241 rfl rfl rfl rfl ?_
    refine w_ia (k := 107) (n := 128) (jn := w3.toNatClampNeg) am_e241 rfl rfl (by decide) hv4 rfl ?_
    refine w_st (i' := 149) (ls' := [.ref 99, .int t, .int p, .int w3, .int w7, .int w11, .int w14]) (st' := [.int ((nI 40) + ((I 107) w3.toNatClampNeg)), .ref 116]) (E' := E) (I' := I) (J' := J) (S' := S) am_e241 rfl rfl rfl rfl ?_
    refine w_st (i' := 150) (ls' := [.ref 99, .int t, .int p, .int w3, .int w7, .int w11, .int w14]) (st' := [.int t, .int ((nI 40) + ((I 107) w3.toNatClampNeg)), .ref 116]) (E' := E) (I' := I) (J' := J) (S' := S) am_e241 rfl rfl rfl rfl ?_
    have hv28 := h.1
    replace h := h.2
    refine w_is (k := 116) (n := 51) (jn := ((nI 40) + ((I 107) w3.toNatClampNeg)).toNatClampNeg) am_e241 rfl rfl (by decide) hv28 rfl ?_
    show am_ww 241 151 [.ref 99, .int t, .int p, .int w3, .int w7, .int w11, .int w14] [] E (u_I I 116 (upd (I 116) (((nI 40) + ((I 107) w3.toNatClampNeg)).toNatClampNeg) t)) J S _
    refine w_st (i' := 220) (ls' := [.ref 99, .int t, .int p, .int w3, .int w7, .int w11, .int w14]) (st' := []) (E' := E) (I' := (u_I I 116 (upd (I 116) (((nI 40) + ((I 107) w3.toNatClampNeg)).toNatClampNeg) t))) (J' := J) (S' := S) am_e241 rfl rfl rfl rfl ?_
    exact h
  by_cases c8 : ((I 106) w3.toNatClampNeg) = nI 8
  · replace h := h.2.2.2.2.2.2.2.2.1 c8
    rw [c8]
    show am_ww 241 152 _ _ _ _ _ _ _
    refine w_st (i' := 153) (ls' := [.ref 99, .int t, .int p, .int w3, .int w7, .int w11, .int w14]) (st' := [.ref 99]) (E' := E) (I' := I) (J' := J) (S' := S) am_e241 rfl rfl rfl rfl ?_
    refine w_st (i' := 154) (ls' := [.ref 99, .int t, .int p, .int w3, .int w7, .int w11, .int w14]) (st' := [.ref 116]) (E' := E) (I' := I) (J' := J) (S' := S) am_e241 rfl rfl rfl rfl ?_
    refine w_st (i' := 155) (ls' := [.ref 99, .int t, .int p, .int w3, .int w7, .int w11, .int w14]) (st' := [.int (nI 40), .ref 116]) (E' := E) (I' := I) (J' := J) (S' := S) am_e241 rfl rfl rfl rfl ?_
    refine w_st (i' := 156) (ls' := [.ref 99, .int t, .int p, .int w3, .int w7, .int w11, .int w14]) (st' := [.ref 99, .int (nI 40), .ref 116]) (E' := E) (I' := I) (J' := J) (S' := S) am_e241 rfl rfl rfl rfl ?_
    refine w_st (i' := 157) (ls' := [.ref 99, .int t, .int p, .int w3, .int w7, .int w11, .int w14]) (st' := [.ref 107, .int (nI 40), .ref 116]) (E' := E) (I' := I) (J' := J) (S' := S) am_e241 rfl rfl rfl rfl ?_
    refine w_st (i' := 158) (ls' := [.ref 99, .int t, .int p, .int w3, .int w7, .int w11, .int w14]) (st' := [.int w3, .ref 107, .int (nI 40), .ref 116]) (E' := E) (I' := I) (J' := J) (S' := S) am_e241 rfl rfl rfl rfl ?_
    refine w_ia (k := 107) (n := 128) (jn := w3.toNatClampNeg) am_e241 rfl rfl (by decide) hv4 rfl ?_
    refine w_st (i' := 160) (ls' := [.ref 99, .int t, .int p, .int w3, .int w7, .int w11, .int w14]) (st' := [.int ((nI 40) + ((I 107) w3.toNatClampNeg)), .ref 116]) (E' := E) (I' := I) (J' := J) (S' := S) am_e241 rfl rfl rfl rfl ?_
    refine w_st (i' := 161) (ls' := [.ref 99, .int t, .int p, .int w3, .int w7, .int w11, .int w14]) (st' := [.ref 99, .int ((nI 40) + ((I 107) w3.toNatClampNeg)), .ref 116]) (E' := E) (I' := I) (J' := J) (S' := S) am_e241 rfl rfl rfl rfl ?_
    refine w_st (i' := 162) (ls' := [.ref 99, .int t, .int p, .int w3, .int w7, .int w11, .int w14]) (st' := [.ref 116, .int ((nI 40) + ((I 107) w3.toNatClampNeg)), .ref 116]) (E' := E) (I' := I) (J' := J) (S' := S) am_e241 rfl rfl rfl rfl ?_
    refine w_st (i' := 163) (ls' := [.ref 99, .int t, .int p, .int w3, .int w7, .int w11, .int w14]) (st' := [.int (nI 40), .ref 116, .int ((nI 40) + ((I 107) w3.toNatClampNeg)), .ref 116]) (E' := E) (I' := I) (J' := J) (S' := S) am_e241 rfl rfl rfl rfl ?_
    refine w_st (i' := 164) (ls' := [.ref 99, .int t, .int p, .int w3, .int w7, .int w11, .int w14]) (st' := [.ref 99, .int (nI 40), .ref 116, .int ((nI 40) + ((I 107) w3.toNatClampNeg)), .ref 116]) (E' := E) (I' := I) (J' := J) (S' := S) am_e241 rfl rfl rfl rfl ?_
    refine w_st (i' := 165) (ls' := [.ref 99, .int t, .int p, .int w3, .int w7, .int w11, .int w14]) (st' := [.ref 107, .int (nI 40), .ref 116, .int ((nI 40) + ((I 107) w3.toNatClampNeg)), .ref 116]) (E' := E) (I' := I) (J' := J) (S' := S) am_e241 rfl rfl rfl rfl ?_
    refine w_st (i' := 166) (ls' := [.ref 99, .int t, .int p, .int w3, .int w7, .int w11, .int w14]) (st' := [.int w3, .ref 107, .int (nI 40), .ref 116, .int ((nI 40) + ((I 107) w3.toNatClampNeg)), .ref 116]) (E' := E) (I' := I) (J' := J) (S' := S) am_e241 rfl rfl rfl rfl ?_
    refine w_ia (k := 107) (n := 128) (jn := w3.toNatClampNeg) am_e241 rfl rfl (by decide) hv4 rfl ?_
    refine w_st (i' := 168) (ls' := [.ref 99, .int t, .int p, .int w3, .int w7, .int w11, .int w14]) (st' := [.int ((nI 40) + ((I 107) w3.toNatClampNeg)), .ref 116, .int ((nI 40) + ((I 107) w3.toNatClampNeg)), .ref 116]) (E' := E) (I' := I) (J' := J) (S' := S) am_e241 rfl rfl rfl rfl ?_
    have hv29 := h.1
    replace h := h.2
    refine w_ia (k := 116) (n := 51) (jn := ((nI 40) + ((I 107) w3.toNatClampNeg)).toNatClampNeg) am_e241 rfl rfl (by decide) hv29 rfl ?_
    refine w_st (i' := 170) (ls' := [.ref 99, .int t, .int p, .int w3, .int w7, .int w11, .int w14]) (st' := [.int t, .int ((I 116) (((nI 40) + ((I 107) w3.toNatClampNeg)).toNatClampNeg)), .int ((nI 40) + ((I 107) w3.toNatClampNeg)), .ref 116]) (E' := E) (I' := I) (J' := J) (S' := S) am_e241 rfl rfl rfl rfl ?_
    refine w_mg (i := 182) (ls' := [.ref 99, .int t, .int p, .int w3, .int w7, .int w11, .int w14]) (st' := [.int (if ((I 116) (((nI 40) + ((I 107) w3.toNatClampNeg)).toNatClampNeg)) = t then (-1) else ((I 116) (((nI 40) + ((I 107) w3.toNatClampNeg)).toNatClampNeg))), .int ((nI 40) + ((I 107) w3.toNatClampNeg)), .ref 116]) (fun hm => ?_) ?_
    · clear h
      refine w_if2 am_e241 rfl rfl (fun c => ?_) (fun c => ?_)
      · have m30 := (of_decide_eq_true c)
        refine w_st (i' := 174) (ls' := [.ref 99, .int t, .int p, .int w3, .int w7, .int w11, .int w14]) (st' := [.ref 99, .int ((nI 40) + ((I 107) w3.toNatClampNeg)), .ref 116]) (E' := E) (I' := I) (J' := J) (S' := S) am_e241 rfl rfl rfl rfl ?_
        refine w_st (i' := 175) (ls' := [.ref 99, .int t, .int p, .int w3, .int w7, .int w11, .int w14]) (st' := [.ref 116, .int ((nI 40) + ((I 107) w3.toNatClampNeg)), .ref 116]) (E' := E) (I' := I) (J' := J) (S' := S) am_e241 rfl rfl rfl rfl ?_
        refine w_st (i' := 176) (ls' := [.ref 99, .int t, .int p, .int w3, .int w7, .int w11, .int w14]) (st' := [.int (nI 40), .ref 116, .int ((nI 40) + ((I 107) w3.toNatClampNeg)), .ref 116]) (E' := E) (I' := I) (J' := J) (S' := S) am_e241 rfl rfl rfl rfl ?_
        refine w_st (i' := 177) (ls' := [.ref 99, .int t, .int p, .int w3, .int w7, .int w11, .int w14]) (st' := [.ref 99, .int (nI 40), .ref 116, .int ((nI 40) + ((I 107) w3.toNatClampNeg)), .ref 116]) (E' := E) (I' := I) (J' := J) (S' := S) am_e241 rfl rfl rfl rfl ?_
        refine w_st (i' := 178) (ls' := [.ref 99, .int t, .int p, .int w3, .int w7, .int w11, .int w14]) (st' := [.ref 107, .int (nI 40), .ref 116, .int ((nI 40) + ((I 107) w3.toNatClampNeg)), .ref 116]) (E' := E) (I' := I) (J' := J) (S' := S) am_e241 rfl rfl rfl rfl ?_
        refine w_st (i' := 179) (ls' := [.ref 99, .int t, .int p, .int w3, .int w7, .int w11, .int w14]) (st' := [.int w3, .ref 107, .int (nI 40), .ref 116, .int ((nI 40) + ((I 107) w3.toNatClampNeg)), .ref 116]) (E' := E) (I' := I) (J' := J) (S' := S) am_e241 rfl rfl rfl rfl ?_
        refine w_ia (k := 107) (n := 128) (jn := w3.toNatClampNeg) am_e241 rfl rfl (by decide) hv4 rfl ?_
        show am_ww 241 180 [.ref 99, .int t, .int p, .int w3, .int w7, .int w11, .int w14] [.int ((I 107) w3.toNatClampNeg), .int (nI 40), .ref 116, .int ((nI 40) + ((I 107) w3.toNatClampNeg)), .ref 116] E I J S _
        refine w_st (i' := 181) (ls' := [.ref 99, .int t, .int p, .int w3, .int w7, .int w11, .int w14]) (st' := [.int ((nI 40) + ((I 107) w3.toNatClampNeg)), .ref 116, .int ((nI 40) + ((I 107) w3.toNatClampNeg)), .ref 116]) (E' := E) (I' := I) (J' := J) (S' := S) am_e241 rfl rfl rfl rfl ?_
        refine w_ia (k := 116) (n := 51) (jn := ((nI 40) + ((I 107) w3.toNatClampNeg)).toNatClampNeg) am_e241 rfl rfl (by decide) hv29 rfl ?_
        show am_ww 241 182 [.ref 99, .int t, .int p, .int w3, .int w7, .int w11, .int w14] [.int ((I 116) (((nI 40) + ((I 107) w3.toNatClampNeg)).toNatClampNeg)), .int ((nI 40) + ((I 107) w3.toNatClampNeg)), .ref 116] E I J S _
        simp only [if_neg m30] at hm
        exact hm
      · have m30 := (Decidable.not_not.mp (of_decide_eq_false c))
        refine w_st (i' := 172) (ls' := [.ref 99, .int t, .int p, .int w3, .int w7, .int w11, .int w14]) (st' := [.int (-1), .int ((nI 40) + ((I 107) w3.toNatClampNeg)), .ref 116]) (E' := E) (I' := I) (J' := J) (S' := S) am_e241 rfl rfl rfl rfl ?_
        refine w_st (i' := 182) (ls' := [.ref 99, .int t, .int p, .int w3, .int w7, .int w11, .int w14]) (st' := [.int (-1), .int ((nI 40) + ((I 107) w3.toNatClampNeg)), .ref 116]) (E' := E) (I' := I) (J' := J) (S' := S) am_e241 rfl rfl rfl rfl ?_
        simp only [if_pos m30] at hm
        exact hm
    refine w_var (fun w31 => am_ww 241 182 [.ref 99, .int t, .int p, .int w3, .int w7, .int w11, .int w14] [.int w31, .int ((nI 40) + ((I 107) w3.toNatClampNeg)), .ref 116] E I J S _) (if ((I 116) (((nI 40) + ((I 107) w3.toNatClampNeg)).toNatClampNeg)) = t then (-1) else ((I 116) (((nI 40) + ((I 107) w3.toNatClampNeg)).toNatClampNeg))) (fun w31 hw31 => ?_)
    replace h := h w31 hw31
    refine w_is (k := 116) (n := 51) (jn := ((nI 40) + ((I 107) w3.toNatClampNeg)).toNatClampNeg) am_e241 rfl rfl (by decide) hv29 rfl ?_
    show am_ww 241 183 [.ref 99, .int t, .int p, .int w3, .int w7, .int w11, .int w14] [] E (u_I I 116 (upd (I 116) (((nI 40) + ((I 107) w3.toNatClampNeg)).toNatClampNeg) w31)) J S _
    refine w_st (i' := 220) (ls' := [.ref 99, .int t, .int p, .int w3, .int w7, .int w11, .int w14]) (st' := []) (E' := E) (I' := (u_I I 116 (upd (I 116) (((nI 40) + ((I 107) w3.toNatClampNeg)).toNatClampNeg) w31))) (J' := J) (S' := S) am_e241 rfl rfl rfl rfl ?_
    exact h
  by_cases c9 : ((I 106) w3.toNatClampNeg) = nI 9
  · replace h := h.2.2.2.2.2.2.2.2.2.1 c9
    rw [c9]
    show am_ww 241 184 _ _ _ _ _ _ _
    refine w_st (i' := 185) (ls' := [.ref 99, .int t, .int p, .int w3, .int w7, .int w11, .int w14]) (st' := [.ref 99]) (E' := E) (I' := I) (J' := J) (S' := S) am_e241 rfl rfl rfl rfl ?_
    refine w_st (i' := 186) (ls' := [.ref 99, .int t, .int p, .int w3, .int w7, .int w11, .int w14]) (st' := [.ref 109]) (E' := E) (I' := I) (J' := J) (S' := S) am_e241 rfl rfl rfl rfl ?_
    refine w_st (i' := 187) (ls' := [.ref 99, .int t, .int p, .int w3, .int w7, .int w11, .int w14]) (st' := [.int w3, .ref 109]) (E' := E) (I' := I) (J' := J) (S' := S) am_e241 rfl rfl rfl rfl ?_
    refine w_ia (k := 109) (n := 128) (jn := w3.toNatClampNeg) am_e241 rfl rfl (by decide) hv4 rfl ?_
    refine w_st (i' := 189) (ls' := [.ref 99, .int t, .int p, .int w3, .int w7, .int w11, .int ((I 109) w3.toNatClampNeg)]) (st' := []) (E' := E) (I' := I) (J' := J) (S' := S) am_e241 rfl rfl rfl rfl ?_
    refine w_st (i' := 220) (ls' := [.ref 99, .int t, .int p, .int w3, .int w7, .int w11, .int ((I 109) w3.toNatClampNeg)]) (st' := []) (E' := E) (I' := I) (J' := J) (S' := S) am_e241 rfl rfl rfl rfl ?_
    exact h
  by_cases c10 : ((I 106) w3.toNatClampNeg) = nI 10
  · replace h := h.2.2.2.2.2.2.2.2.2.2.1 c10
    rw [c10]
    show am_ww 241 190 _ _ _ _ _ _ _
    refine w_st (i' := 191) (ls' := [.ref 99, .int t, .int p, .int w3, .int w7, .int w11, .int w14]) (st' := [.ref 99]) (E' := E) (I' := I) (J' := J) (S' := S) am_e241 rfl rfl rfl rfl ?_
    refine w_st (i' := 192) (ls' := [.ref 99, .int t, .int p, .int w3, .int w7, .int w11, .int w14]) (st' := [.ref 116]) (E' := E) (I' := I) (J' := J) (S' := S) am_e241 rfl rfl rfl rfl ?_
    refine w_st (i' := 193) (ls' := [.ref 99, .int t, .int p, .int w3, .int w7, .int w11, .int w14]) (st' := [.int w7, .ref 116]) (E' := E) (I' := I) (J' := J) (S' := S) am_e241 rfl rfl rfl rfl ?_
    have hv32 := h.1
    replace h := h.2
    refine w_ia (k := 116) (n := 51) (jn := w7.toNatClampNeg) am_e241 rfl rfl (by decide) hv32 rfl ?_
    refine w_mg (i := 201) (ls' := [.ref 99, .int t, .int p, .int w3, .int w7, .int w11, .int w14]) (st' := [.int (if ((I 116) w7.toNatClampNeg) = 0 then ((I 109) w3.toNatClampNeg) else w14)]) (fun hm => ?_) ?_
    · clear h
      refine w_if1 am_e241 rfl rfl (fun c => ?_) (fun c => ?_)
      · have m33 := (of_decide_eq_true c)
        refine w_st (i' := 201) (ls' := [.ref 99, .int t, .int p, .int w3, .int w7, .int w11, .int w14]) (st' := [.int w14]) (E' := E) (I' := I) (J' := J) (S' := S) am_e241 rfl rfl rfl rfl ?_
        simp only [if_neg m33] at hm
        exact hm
      · have m33 := (Decidable.not_not.mp (of_decide_eq_false c))
        refine w_st (i' := 196) (ls' := [.ref 99, .int t, .int p, .int w3, .int w7, .int w11, .int w14]) (st' := [.ref 99]) (E' := E) (I' := I) (J' := J) (S' := S) am_e241 rfl rfl rfl rfl ?_
        refine w_st (i' := 197) (ls' := [.ref 99, .int t, .int p, .int w3, .int w7, .int w11, .int w14]) (st' := [.ref 109]) (E' := E) (I' := I) (J' := J) (S' := S) am_e241 rfl rfl rfl rfl ?_
        refine w_st (i' := 198) (ls' := [.ref 99, .int t, .int p, .int w3, .int w7, .int w11, .int w14]) (st' := [.int w3, .ref 109]) (E' := E) (I' := I) (J' := J) (S' := S) am_e241 rfl rfl rfl rfl ?_
        refine w_ia (k := 109) (n := 128) (jn := w3.toNatClampNeg) am_e241 rfl rfl (by decide) hv4 rfl ?_
        show am_ww 241 199 [.ref 99, .int t, .int p, .int w3, .int w7, .int w11, .int w14] [.int ((I 109) w3.toNatClampNeg)] E I J S _
        refine w_st (i' := 201) (ls' := [.ref 99, .int t, .int p, .int w3, .int w7, .int w11, .int w14]) (st' := [.int ((I 109) w3.toNatClampNeg)]) (E' := E) (I' := I) (J' := J) (S' := S) am_e241 rfl rfl rfl rfl ?_
        simp only [if_pos m33] at hm
        exact hm
    refine w_var (fun w34 => am_ww 241 201 [.ref 99, .int t, .int p, .int w3, .int w7, .int w11, .int w14] [.int w34] E I J S _) (if ((I 116) w7.toNatClampNeg) = 0 then ((I 109) w3.toNatClampNeg) else w14) (fun w34 hw34 => ?_)
    replace h := h w34 hw34
    refine w_st (i' := 202) (ls' := [.ref 99, .int t, .int p, .int w3, .int w7, .int w11, .int w34]) (st' := []) (E' := E) (I' := I) (J' := J) (S' := S) am_e241 rfl rfl rfl rfl ?_
    refine w_st (i' := 220) (ls' := [.ref 99, .int t, .int p, .int w3, .int w7, .int w11, .int w34]) (st' := []) (E' := E) (I' := I) (J' := J) (S' := S) am_e241 rfl rfl rfl rfl ?_
    exact h
  by_cases c11 : ((I 106) w3.toNatClampNeg) = nI 11
  · replace h := h.2.2.2.2.2.2.2.2.2.2.2.1 c11
    rw [c11]
    show am_ww 241 203 _ _ _ _ _ _ _
    refine w_st (i' := 204) (ls' := [.ref 99, .int t, .int p, .int w3, .int w7, .int w11, .int w14]) (st' := [.ref 99]) (E' := E) (I' := I) (J' := J) (S' := S) am_e241 rfl rfl rfl rfl ?_
    refine w_st (i' := 205) (ls' := [.ref 99, .int t, .int p, .int w3, .int w7, .int w11, .int w14]) (st' := [.ref 116]) (E' := E) (I' := I) (J' := J) (S' := S) am_e241 rfl rfl rfl rfl ?_
    refine w_st (i' := 206) (ls' := [.ref 99, .int t, .int p, .int w3, .int w7, .int w11, .int w14]) (st' := [.int w7, .ref 116]) (E' := E) (I' := I) (J' := J) (S' := S) am_e241 rfl rfl rfl rfl ?_
    have hv35 := h.1
    replace h := h.2
    refine w_ia (k := 116) (n := 51) (jn := w7.toNatClampNeg) am_e241 rfl rfl (by decide) hv35 rfl ?_
    refine w_st (i' := 208) (ls' := [.ref 99, .int t, .int p, .int w3, .int w7, .int w11, .int w14]) (st' := [.ref 99, .int ((I 116) w7.toNatClampNeg)]) (E' := E) (I' := I) (J' := J) (S' := S) am_e241 rfl rfl rfl rfl ?_
    refine w_st (i' := 209) (ls' := [.ref 99, .int t, .int p, .int w3, .int w7, .int w11, .int w14]) (st' := [.ref 116, .int ((I 116) w7.toNatClampNeg)]) (E' := E) (I' := I) (J' := J) (S' := S) am_e241 rfl rfl rfl rfl ?_
    refine w_st (i' := 210) (ls' := [.ref 99, .int t, .int p, .int w3, .int w7, .int w11, .int w14]) (st' := [.int w11, .ref 116, .int ((I 116) w7.toNatClampNeg)]) (E' := E) (I' := I) (J' := J) (S' := S) am_e241 rfl rfl rfl rfl ?_
    have hv36 := h.1
    replace h := h.2
    refine w_ia (k := 116) (n := 51) (jn := w11.toNatClampNeg) am_e241 rfl rfl (by decide) hv36 rfl ?_
    refine w_mg (i := 218) (ls' := [.ref 99, .int t, .int p, .int w3, .int w7, .int w11, .int w14]) (st' := [.int (if ((I 116) w11.toNatClampNeg) ≤ ((I 116) w7.toNatClampNeg) then w14 else ((I 109) w3.toNatClampNeg))]) (fun hm => ?_) ?_
    · clear h
      refine w_if2 am_e241 rfl rfl (fun c => ?_) (fun c => ?_)
      · have m37 := (of_decide_eq_true c)
        refine w_st (i' := 218) (ls' := [.ref 99, .int t, .int p, .int w3, .int w7, .int w11, .int w14]) (st' := [.int w14]) (E' := E) (I' := I) (J' := J) (S' := S) am_e241 rfl rfl rfl rfl ?_
        simp only [if_pos m37] at hm
        exact hm
      · have m37 := (of_decide_eq_false c)
        refine w_st (i' := 213) (ls' := [.ref 99, .int t, .int p, .int w3, .int w7, .int w11, .int w14]) (st' := [.ref 99]) (E' := E) (I' := I) (J' := J) (S' := S) am_e241 rfl rfl rfl rfl ?_
        refine w_st (i' := 214) (ls' := [.ref 99, .int t, .int p, .int w3, .int w7, .int w11, .int w14]) (st' := [.ref 109]) (E' := E) (I' := I) (J' := J) (S' := S) am_e241 rfl rfl rfl rfl ?_
        refine w_st (i' := 215) (ls' := [.ref 99, .int t, .int p, .int w3, .int w7, .int w11, .int w14]) (st' := [.int w3, .ref 109]) (E' := E) (I' := I) (J' := J) (S' := S) am_e241 rfl rfl rfl rfl ?_
        refine w_ia (k := 109) (n := 128) (jn := w3.toNatClampNeg) am_e241 rfl rfl (by decide) hv4 rfl ?_
        show am_ww 241 216 [.ref 99, .int t, .int p, .int w3, .int w7, .int w11, .int w14] [.int ((I 109) w3.toNatClampNeg)] E I J S _
        refine w_st (i' := 218) (ls' := [.ref 99, .int t, .int p, .int w3, .int w7, .int w11, .int w14]) (st' := [.int ((I 109) w3.toNatClampNeg)]) (E' := E) (I' := I) (J' := J) (S' := S) am_e241 rfl rfl rfl rfl ?_
        simp only [if_neg m37] at hm
        exact hm
    refine w_var (fun w38 => am_ww 241 218 [.ref 99, .int t, .int p, .int w3, .int w7, .int w11, .int w14] [.int w38] E I J S _) (if ((I 116) w11.toNatClampNeg) ≤ ((I 116) w7.toNatClampNeg) then w14 else ((I 109) w3.toNatClampNeg)) (fun w38 hw38 => ?_)
    replace h := h w38 hw38
    refine w_st (i' := 219) (ls' := [.ref 99, .int t, .int p, .int w3, .int w7, .int w11, .int w38]) (st' := []) (E' := E) (I' := I) (J' := J) (S' := S) am_e241 rfl rfl rfl rfl ?_
    refine w_st (i' := 220) (ls' := [.ref 99, .int t, .int p, .int w3, .int w7, .int w11, .int w38]) (st' := []) (E' := E) (I' := I) (J' := J) (S' := S) am_e241 rfl rfl rfl rfl ?_
    exact h
  replace h := h.2.2.2.2.2.2.2.2.2.2.2.2 c0 c1 c2 c3 c4 c5 c6 c7 c8 c9 c10 c11
  rw [am_tb_out (lo := 0) (up := 11) (by intro q h1 h2; have : q = 0 ∨ q = 1 ∨ q = 2 ∨ q = 3 ∨ q = 4 ∨ q = 5 ∨ q = 6 ∨ q = 7 ∨ q = 8 ∨ q = 9 ∨ q = 10 ∨ q = 11 := (by omega); rcases this with rfl | rfl | rfl | rfl | rfl | rfl | rfl | rfl | rfl | rfl | rfl | rfl <;> assumption)]
  show am_ww 241 220 _ _ _ _ _ _ _
  exact h
theorem g241_220 {x1 : Int32} {v2 : Value} {x3 : Int32} {v4 : Value} {v5 : Value} {x6 : Int32} {E : am_Ev} {I : Nat → Nat → Int32} {J : Nat → Nat → Int64} {S : Nat → Nat → Option Nat} {Q : am_Qt} (hv2 : am_isL v2 = false) (hv4 : am_isL v4 = false) (hv5 : am_isL v5 = false) (h : ∀ w1 : Int32, w1 = (((nI 16) + ((nI 6) * x1)) + (nI 5)) → (vp_in w1 51 ∧ (vp_in x3 128 ∧ ((((I 106) x3.toNatClampNeg) < (nI 9) → (∀ w4 : Int32, w4 = (((nI 16) + ((nI 6) * x1)) + (nI 4)) → (vp_in w4 51 ∧ (Q (.inl none) E (u_I I 116 (upd (upd (I 116) w1.toNatClampNeg (((I 116) w1.toNatClampNeg) + (nI 0))) w4.toNatClampNeg x6)) J S)))) ∧ (¬ ((I 106) x3.toNatClampNeg) < (nI 9) → (((nI 11) < ((I 106) x3.toNatClampNeg) → (∀ w6 : Int32, w6 = (((nI 16) + ((nI 6) * x1)) + (nI 4)) → (vp_in w6 51 ∧ (Q (.inl none) E (u_I I 116 (upd (upd (I 116) w1.toNatClampNeg (((I 116) w1.toNatClampNeg) + (nI 0))) w6.toNatClampNeg x6)) J S)))) ∧ (¬ (nI 11) < ((I 106) x3.toNatClampNeg) → (∀ w8 : Int32, w8 = (((nI 16) + ((nI 6) * x1)) + (nI 4)) → (vp_in w8 51 ∧ (Q (.inl none) E (u_I I 116 (upd (upd (I 116) w1.toNatClampNeg (((I 116) w1.toNatClampNeg) + (nI 1))) w8.toNatClampNeg x6)) J S)))))))))) : am_ww 241 220 [.ref 99, .int x1, v2, .int x3, v4, v5, .int x6] [] E I J S Q := by
  refine w_st (i' := 221) (ls' := [.ref 99, .int x1, v2, .int x3, v4, v5, .int x6]) (st' := [.ref 99]) (E' := E) (I' := I) (J' := J) (S' := S) am_e241 rfl rfl rfl rfl ?_
  refine w_st (i' := 222) (ls' := [.ref 99, .int x1, v2, .int x3, v4, v5, .int x6]) (st' := [.ref 116]) (E' := E) (I' := I) (J' := J) (S' := S) am_e241 rfl rfl rfl rfl ?_
  refine w_st (i' := 223) (ls' := [.ref 99, .int x1, v2, .int x3, v4, v5, .int x6]) (st' := [.int x1, .ref 116]) (E' := E) (I' := I) (J' := J) (S' := S) am_e241 rfl rfl rfl rfl ?_
  refine w_st (i' := 224) (ls' := [.ref 99, .int x1, v2, .int x3, v4, v5, .int x6]) (st' := [.int (nI 5), .int x1, .ref 116]) (E' := E) (I' := I) (J' := J) (S' := S) am_e241 rfl rfl rfl rfl ?_
  refine w_cI am_e241 rfl rfl (as := [.int x1, .int (nI 5)]) (rest := [.ref 116]) rfl rfl ?_
  show am_ww 222 0 [.int x1, .int (nI 5)] [] E I J S _
  refine w_st (i' := 1) (ls' := [.int x1, .int (nI 5)]) (st' := [.int (nI 16)]) (E' := E) (I' := I) (J' := J) (S' := S) am_e222 rfl rfl rfl rfl ?_
  refine w_st (i' := 2) (ls' := [.int x1, .int (nI 5)]) (st' := [.int (nI 6), .int (nI 16)]) (E' := E) (I' := I) (J' := J) (S' := S) am_e222 rfl rfl rfl rfl ?_
  refine w_st (i' := 3) (ls' := [.int x1, .int (nI 5)]) (st' := [.int x1, .int (nI 6), .int (nI 16)]) (E' := E) (I' := I) (J' := J) (S' := S) am_e222 rfl rfl rfl rfl ?_
  refine w_st (i' := 4) (ls' := [.int x1, .int (nI 5)]) (st' := [.int ((nI 6) * x1), .int (nI 16)]) (E' := E) (I' := I) (J' := J) (S' := S) am_e222 rfl rfl rfl rfl ?_
  refine w_st (i' := 5) (ls' := [.int x1, .int (nI 5)]) (st' := [.int ((nI 16) + ((nI 6) * x1))]) (E' := E) (I' := I) (J' := J) (S' := S) am_e222 rfl rfl rfl rfl ?_
  refine w_st (i' := 6) (ls' := [.int x1, .int (nI 5)]) (st' := [.int (nI 5), .int ((nI 16) + ((nI 6) * x1))]) (E' := E) (I' := I) (J' := J) (S' := S) am_e222 rfl rfl rfl rfl ?_
  refine w_st (i' := 7) (ls' := [.int x1, .int (nI 5)]) (st' := [.int (((nI 16) + ((nI 6) * x1)) + (nI 5))]) (E' := E) (I' := I) (J' := J) (S' := S) am_e222 rfl rfl rfl rfl ?_
  refine w_ri am_e222 rfl rfl (q_mkI ?_)
  show am_ww 241 225 [.ref 99, .int x1, v2, .int x3, v4, v5, .int x6] [.int (((nI 16) + ((nI 6) * x1)) + (nI 5)), .ref 116] E I J S _
  refine w_var (fun w1 => am_ww 241 225 [.ref 99, .int x1, v2, .int x3, v4, v5, .int x6] [.int w1, .ref 116] E I J S _) (((nI 16) + ((nI 6) * x1)) + (nI 5)) (fun w1 hw1 => ?_)
  replace h := h w1 hw1
  refine w_st (i' := 226) (ls' := [.ref 99, .int x1, v2, .int x3, v4, v5, .int x6]) (st' := [.int w1, .ref 116, .int w1, .ref 116]) (E' := E) (I' := I) (J' := J) (S' := S) am_e241 rfl rfl rfl rfl ?_
  have hv2 := h.1
  replace h := h.2
  refine w_ia (k := 116) (n := 51) (jn := w1.toNatClampNeg) am_e241 rfl rfl (by decide) hv2 rfl ?_
  refine w_st (i' := 228) (ls' := [.ref 99, .int x1, v2, .int x3, v4, v5, .int x6]) (st' := [.ref 99, .int ((I 116) w1.toNatClampNeg), .int w1, .ref 116]) (E' := E) (I' := I) (J' := J) (S' := S) am_e241 rfl rfl rfl rfl ?_
  refine w_st (i' := 229) (ls' := [.ref 99, .int x1, v2, .int x3, v4, v5, .int x6]) (st' := [.ref 106, .int ((I 116) w1.toNatClampNeg), .int w1, .ref 116]) (E' := E) (I' := I) (J' := J) (S' := S) am_e241 rfl rfl rfl rfl ?_
  refine w_st (i' := 230) (ls' := [.ref 99, .int x1, v2, .int x3, v4, v5, .int x6]) (st' := [.int x3, .ref 106, .int ((I 116) w1.toNatClampNeg), .int w1, .ref 116]) (E' := E) (I' := I) (J' := J) (S' := S) am_e241 rfl rfl rfl rfl ?_
  have hv3 := h.1
  replace h := h.2
  refine w_ia (k := 106) (n := 128) (jn := x3.toNatClampNeg) am_e241 rfl rfl (by decide) hv3 rfl ?_
  refine w_st (i' := 232) (ls' := [.ref 99, .int x1, v2, .int x3, v4, v5, .int x6]) (st' := [.int (nI 9), .int ((I 106) x3.toNatClampNeg), .int ((I 116) w1.toNatClampNeg), .int w1, .ref 116]) (E' := E) (I' := I) (J' := J) (S' := S) am_e241 rfl rfl rfl rfl ?_
  refine w_st (i' := 233) (ls' := [.ref 99, .int x1, v2, .int x3, v4, v5, .int x6]) (st' := [.int (nI 11), .int (nI 9), .int ((I 106) x3.toNatClampNeg), .int ((I 116) w1.toNatClampNeg), .int w1, .ref 116]) (E' := E) (I' := I) (J' := J) (S' := S) am_e241 rfl rfl rfl rfl ?_
  refine w_cI am_e241 rfl rfl (as := [.int ((I 106) x3.toNatClampNeg), .int (nI 9), .int (nI 11)]) (rest := [.int ((I 116) w1.toNatClampNeg), .int w1, .ref 116]) rfl rfl ?_
  show am_ww 232 0 [.int ((I 106) x3.toNatClampNeg), .int (nI 9), .int (nI 11)] [] E I J S _
  refine w_st (i' := 1) (ls' := [.int ((I 106) x3.toNatClampNeg), .int (nI 9), .int (nI 11)]) (st' := [.int ((I 106) x3.toNatClampNeg)]) (E' := E) (I' := I) (J' := J) (S' := S) am_e232 rfl rfl rfl rfl ?_
  refine w_st (i' := 2) (ls' := [.int ((I 106) x3.toNatClampNeg), .int (nI 9), .int (nI 11)]) (st' := [.int (nI 9), .int ((I 106) x3.toNatClampNeg)]) (E' := E) (I' := I) (J' := J) (S' := S) am_e232 rfl rfl rfl rfl ?_
  refine w_if2 am_e232 rfl rfl (fun c => ?_) (fun c => ?_)
  · replace h := h.1 (of_decide_eq_true c)
    refine w_st (i' := 9) (ls' := [.int ((I 106) x3.toNatClampNeg), .int (nI 9), .int (nI 11)]) (st' := [.int (nI 0)]) (E' := E) (I' := I) (J' := J) (S' := S) am_e232 rfl rfl rfl rfl ?_
    refine w_end (E' := E) (I' := I) (J' := J) (S' := S) am_e232 rfl rfl rfl (q_mkI ?_)
    show am_ww 241 234 [.ref 99, .int x1, v2, .int x3, v4, v5, .int x6] [.int (nI 0), .int ((I 116) w1.toNatClampNeg), .int w1, .ref 116] E I J S _
    refine w_st (i' := 237) (ls' := [.ref 99, .int x1, v2, .int x3, v4, v5, .int x6]) (st' := [.int ((I 116) w1.toNatClampNeg), .int w1, .ref 116]) (E' := E) (I' := I) (J' := J) (S' := S) am_e241 rfl rfl rfl rfl ?_
    refine w_st (i' := 238) (ls' := [.ref 99, .int x1, v2, .int x3, v4, v5, .int x6]) (st' := [.int (nI 0), .int ((I 116) w1.toNatClampNeg), .int w1, .ref 116]) (E' := E) (I' := I) (J' := J) (S' := S) am_e241 rfl rfl rfl rfl ?_
    refine w_st (i' := 239) (ls' := [.ref 99, .int x1, v2, .int x3, v4, v5, .int x6]) (st' := [.int (((I 116) w1.toNatClampNeg) + (nI 0)), .int w1, .ref 116]) (E' := E) (I' := I) (J' := J) (S' := S) am_e241 rfl rfl rfl rfl ?_
    refine w_is (k := 116) (n := 51) (jn := w1.toNatClampNeg) am_e241 rfl rfl (by decide) hv2 rfl ?_
    show am_ww 241 240 [.ref 99, .int x1, v2, .int x3, v4, v5, .int x6] [] E (u_I I 116 (upd (I 116) w1.toNatClampNeg (((I 116) w1.toNatClampNeg) + (nI 0)))) J S _
    refine w_st (i' := 241) (ls' := [.ref 99, .int x1, v2, .int x3, v4, v5, .int x6]) (st' := [.ref 99]) (E' := E) (I' := (u_I I 116 (upd (I 116) w1.toNatClampNeg (((I 116) w1.toNatClampNeg) + (nI 0))))) (J' := J) (S' := S) am_e241 rfl rfl rfl rfl ?_
    refine w_st (i' := 242) (ls' := [.ref 99, .int x1, v2, .int x3, v4, v5, .int x6]) (st' := [.ref 116]) (E' := E) (I' := (u_I I 116 (upd (I 116) w1.toNatClampNeg (((I 116) w1.toNatClampNeg) + (nI 0))))) (J' := J) (S' := S) am_e241 rfl rfl rfl rfl ?_
    refine w_st (i' := 243) (ls' := [.ref 99, .int x1, v2, .int x3, v4, v5, .int x6]) (st' := [.int x1, .ref 116]) (E' := E) (I' := (u_I I 116 (upd (I 116) w1.toNatClampNeg (((I 116) w1.toNatClampNeg) + (nI 0))))) (J' := J) (S' := S) am_e241 rfl rfl rfl rfl ?_
    refine w_st (i' := 244) (ls' := [.ref 99, .int x1, v2, .int x3, v4, v5, .int x6]) (st' := [.int (nI 4), .int x1, .ref 116]) (E' := E) (I' := (u_I I 116 (upd (I 116) w1.toNatClampNeg (((I 116) w1.toNatClampNeg) + (nI 0))))) (J' := J) (S' := S) am_e241 rfl rfl rfl rfl ?_
    refine w_cI am_e241 rfl rfl (as := [.int x1, .int (nI 4)]) (rest := [.ref 116]) rfl rfl ?_
    show am_ww 222 0 [.int x1, .int (nI 4)] [] E (u_I I 116 (upd (I 116) w1.toNatClampNeg (((I 116) w1.toNatClampNeg) + (nI 0)))) J S _
    refine w_st (i' := 1) (ls' := [.int x1, .int (nI 4)]) (st' := [.int (nI 16)]) (E' := E) (I' := (u_I I 116 (upd (I 116) w1.toNatClampNeg (((I 116) w1.toNatClampNeg) + (nI 0))))) (J' := J) (S' := S) am_e222 rfl rfl rfl rfl ?_
    refine w_st (i' := 2) (ls' := [.int x1, .int (nI 4)]) (st' := [.int (nI 6), .int (nI 16)]) (E' := E) (I' := (u_I I 116 (upd (I 116) w1.toNatClampNeg (((I 116) w1.toNatClampNeg) + (nI 0))))) (J' := J) (S' := S) am_e222 rfl rfl rfl rfl ?_
    refine w_st (i' := 3) (ls' := [.int x1, .int (nI 4)]) (st' := [.int x1, .int (nI 6), .int (nI 16)]) (E' := E) (I' := (u_I I 116 (upd (I 116) w1.toNatClampNeg (((I 116) w1.toNatClampNeg) + (nI 0))))) (J' := J) (S' := S) am_e222 rfl rfl rfl rfl ?_
    refine w_st (i' := 4) (ls' := [.int x1, .int (nI 4)]) (st' := [.int ((nI 6) * x1), .int (nI 16)]) (E' := E) (I' := (u_I I 116 (upd (I 116) w1.toNatClampNeg (((I 116) w1.toNatClampNeg) + (nI 0))))) (J' := J) (S' := S) am_e222 rfl rfl rfl rfl ?_
    refine w_st (i' := 5) (ls' := [.int x1, .int (nI 4)]) (st' := [.int ((nI 16) + ((nI 6) * x1))]) (E' := E) (I' := (u_I I 116 (upd (I 116) w1.toNatClampNeg (((I 116) w1.toNatClampNeg) + (nI 0))))) (J' := J) (S' := S) am_e222 rfl rfl rfl rfl ?_
    refine w_st (i' := 6) (ls' := [.int x1, .int (nI 4)]) (st' := [.int (nI 4), .int ((nI 16) + ((nI 6) * x1))]) (E' := E) (I' := (u_I I 116 (upd (I 116) w1.toNatClampNeg (((I 116) w1.toNatClampNeg) + (nI 0))))) (J' := J) (S' := S) am_e222 rfl rfl rfl rfl ?_
    refine w_st (i' := 7) (ls' := [.int x1, .int (nI 4)]) (st' := [.int (((nI 16) + ((nI 6) * x1)) + (nI 4))]) (E' := E) (I' := (u_I I 116 (upd (I 116) w1.toNatClampNeg (((I 116) w1.toNatClampNeg) + (nI 0))))) (J' := J) (S' := S) am_e222 rfl rfl rfl rfl ?_
    refine w_ri am_e222 rfl rfl (q_mkI ?_)
    show am_ww 241 245 [.ref 99, .int x1, v2, .int x3, v4, v5, .int x6] [.int (((nI 16) + ((nI 6) * x1)) + (nI 4)), .ref 116] E (u_I I 116 (upd (I 116) w1.toNatClampNeg (((I 116) w1.toNatClampNeg) + (nI 0)))) J S _
    refine w_var (fun w4 => am_ww 241 245 [.ref 99, .int x1, v2, .int x3, v4, v5, .int x6] [.int w4, .ref 116] E (u_I I 116 (upd (I 116) w1.toNatClampNeg (((I 116) w1.toNatClampNeg) + (nI 0)))) J S _) (((nI 16) + ((nI 6) * x1)) + (nI 4)) (fun w4 hw4 => ?_)
    replace h := h w4 hw4
    refine w_st (i' := 246) (ls' := [.ref 99, .int x1, v2, .int x3, v4, v5, .int x6]) (st' := [.int x6, .int w4, .ref 116]) (E' := E) (I' := (u_I I 116 (upd (I 116) w1.toNatClampNeg (((I 116) w1.toNatClampNeg) + (nI 0))))) (J' := J) (S' := S) am_e241 rfl rfl rfl rfl ?_
    have hv5 := h.1
    replace h := h.2
    refine w_is (k := 116) (n := 51) (jn := w4.toNatClampNeg) am_e241 rfl rfl (by decide) hv5 rfl ?_
    refine w_eI (uI_0 ..) ?_
    show am_ww 241 247 [.ref 99, .int x1, v2, .int x3, v4, v5, .int x6] [] E (u_I I 116 (upd (upd (I 116) w1.toNatClampNeg (((I 116) w1.toNatClampNeg) + (nI 0))) w4.toNatClampNeg x6)) J S _
    exact w_end am_e241 rfl rfl rfl h
  · replace h := h.2 (of_decide_eq_false c)
    refine w_st (i' := 4) (ls' := [.int ((I 106) x3.toNatClampNeg), .int (nI 9), .int (nI 11)]) (st' := [.int ((I 106) x3.toNatClampNeg)]) (E' := E) (I' := I) (J' := J) (S' := S) am_e232 rfl rfl rfl rfl ?_
    refine w_st (i' := 5) (ls' := [.int ((I 106) x3.toNatClampNeg), .int (nI 9), .int (nI 11)]) (st' := [.int (nI 11), .int ((I 106) x3.toNatClampNeg)]) (E' := E) (I' := I) (J' := J) (S' := S) am_e232 rfl rfl rfl rfl ?_
    refine w_if2 am_e232 rfl rfl (fun c => ?_) (fun c => ?_)
    · replace h := h.1 (of_decide_eq_true c)
      refine w_st (i' := 9) (ls' := [.int ((I 106) x3.toNatClampNeg), .int (nI 9), .int (nI 11)]) (st' := [.int (nI 0)]) (E' := E) (I' := I) (J' := J) (S' := S) am_e232 rfl rfl rfl rfl ?_
      refine w_end (E' := E) (I' := I) (J' := J) (S' := S) am_e232 rfl rfl rfl (q_mkI ?_)
      show am_ww 241 234 [.ref 99, .int x1, v2, .int x3, v4, v5, .int x6] [.int (nI 0), .int ((I 116) w1.toNatClampNeg), .int w1, .ref 116] E I J S _
      refine w_st (i' := 237) (ls' := [.ref 99, .int x1, v2, .int x3, v4, v5, .int x6]) (st' := [.int ((I 116) w1.toNatClampNeg), .int w1, .ref 116]) (E' := E) (I' := I) (J' := J) (S' := S) am_e241 rfl rfl rfl rfl ?_
      refine w_st (i' := 238) (ls' := [.ref 99, .int x1, v2, .int x3, v4, v5, .int x6]) (st' := [.int (nI 0), .int ((I 116) w1.toNatClampNeg), .int w1, .ref 116]) (E' := E) (I' := I) (J' := J) (S' := S) am_e241 rfl rfl rfl rfl ?_
      refine w_st (i' := 239) (ls' := [.ref 99, .int x1, v2, .int x3, v4, v5, .int x6]) (st' := [.int (((I 116) w1.toNatClampNeg) + (nI 0)), .int w1, .ref 116]) (E' := E) (I' := I) (J' := J) (S' := S) am_e241 rfl rfl rfl rfl ?_
      refine w_is (k := 116) (n := 51) (jn := w1.toNatClampNeg) am_e241 rfl rfl (by decide) hv2 rfl ?_
      show am_ww 241 240 [.ref 99, .int x1, v2, .int x3, v4, v5, .int x6] [] E (u_I I 116 (upd (I 116) w1.toNatClampNeg (((I 116) w1.toNatClampNeg) + (nI 0)))) J S _
      refine w_st (i' := 241) (ls' := [.ref 99, .int x1, v2, .int x3, v4, v5, .int x6]) (st' := [.ref 99]) (E' := E) (I' := (u_I I 116 (upd (I 116) w1.toNatClampNeg (((I 116) w1.toNatClampNeg) + (nI 0))))) (J' := J) (S' := S) am_e241 rfl rfl rfl rfl ?_
      refine w_st (i' := 242) (ls' := [.ref 99, .int x1, v2, .int x3, v4, v5, .int x6]) (st' := [.ref 116]) (E' := E) (I' := (u_I I 116 (upd (I 116) w1.toNatClampNeg (((I 116) w1.toNatClampNeg) + (nI 0))))) (J' := J) (S' := S) am_e241 rfl rfl rfl rfl ?_
      refine w_st (i' := 243) (ls' := [.ref 99, .int x1, v2, .int x3, v4, v5, .int x6]) (st' := [.int x1, .ref 116]) (E' := E) (I' := (u_I I 116 (upd (I 116) w1.toNatClampNeg (((I 116) w1.toNatClampNeg) + (nI 0))))) (J' := J) (S' := S) am_e241 rfl rfl rfl rfl ?_
      refine w_st (i' := 244) (ls' := [.ref 99, .int x1, v2, .int x3, v4, v5, .int x6]) (st' := [.int (nI 4), .int x1, .ref 116]) (E' := E) (I' := (u_I I 116 (upd (I 116) w1.toNatClampNeg (((I 116) w1.toNatClampNeg) + (nI 0))))) (J' := J) (S' := S) am_e241 rfl rfl rfl rfl ?_
      refine w_cI am_e241 rfl rfl (as := [.int x1, .int (nI 4)]) (rest := [.ref 116]) rfl rfl ?_
      show am_ww 222 0 [.int x1, .int (nI 4)] [] E (u_I I 116 (upd (I 116) w1.toNatClampNeg (((I 116) w1.toNatClampNeg) + (nI 0)))) J S _
      refine w_st (i' := 1) (ls' := [.int x1, .int (nI 4)]) (st' := [.int (nI 16)]) (E' := E) (I' := (u_I I 116 (upd (I 116) w1.toNatClampNeg (((I 116) w1.toNatClampNeg) + (nI 0))))) (J' := J) (S' := S) am_e222 rfl rfl rfl rfl ?_
      refine w_st (i' := 2) (ls' := [.int x1, .int (nI 4)]) (st' := [.int (nI 6), .int (nI 16)]) (E' := E) (I' := (u_I I 116 (upd (I 116) w1.toNatClampNeg (((I 116) w1.toNatClampNeg) + (nI 0))))) (J' := J) (S' := S) am_e222 rfl rfl rfl rfl ?_
      refine w_st (i' := 3) (ls' := [.int x1, .int (nI 4)]) (st' := [.int x1, .int (nI 6), .int (nI 16)]) (E' := E) (I' := (u_I I 116 (upd (I 116) w1.toNatClampNeg (((I 116) w1.toNatClampNeg) + (nI 0))))) (J' := J) (S' := S) am_e222 rfl rfl rfl rfl ?_
      refine w_st (i' := 4) (ls' := [.int x1, .int (nI 4)]) (st' := [.int ((nI 6) * x1), .int (nI 16)]) (E' := E) (I' := (u_I I 116 (upd (I 116) w1.toNatClampNeg (((I 116) w1.toNatClampNeg) + (nI 0))))) (J' := J) (S' := S) am_e222 rfl rfl rfl rfl ?_
      refine w_st (i' := 5) (ls' := [.int x1, .int (nI 4)]) (st' := [.int ((nI 16) + ((nI 6) * x1))]) (E' := E) (I' := (u_I I 116 (upd (I 116) w1.toNatClampNeg (((I 116) w1.toNatClampNeg) + (nI 0))))) (J' := J) (S' := S) am_e222 rfl rfl rfl rfl ?_
      refine w_st (i' := 6) (ls' := [.int x1, .int (nI 4)]) (st' := [.int (nI 4), .int ((nI 16) + ((nI 6) * x1))]) (E' := E) (I' := (u_I I 116 (upd (I 116) w1.toNatClampNeg (((I 116) w1.toNatClampNeg) + (nI 0))))) (J' := J) (S' := S) am_e222 rfl rfl rfl rfl ?_
      refine w_st (i' := 7) (ls' := [.int x1, .int (nI 4)]) (st' := [.int (((nI 16) + ((nI 6) * x1)) + (nI 4))]) (E' := E) (I' := (u_I I 116 (upd (I 116) w1.toNatClampNeg (((I 116) w1.toNatClampNeg) + (nI 0))))) (J' := J) (S' := S) am_e222 rfl rfl rfl rfl ?_
      refine w_ri am_e222 rfl rfl (q_mkI ?_)
      show am_ww 241 245 [.ref 99, .int x1, v2, .int x3, v4, v5, .int x6] [.int (((nI 16) + ((nI 6) * x1)) + (nI 4)), .ref 116] E (u_I I 116 (upd (I 116) w1.toNatClampNeg (((I 116) w1.toNatClampNeg) + (nI 0)))) J S _
      refine w_var (fun w6 => am_ww 241 245 [.ref 99, .int x1, v2, .int x3, v4, v5, .int x6] [.int w6, .ref 116] E (u_I I 116 (upd (I 116) w1.toNatClampNeg (((I 116) w1.toNatClampNeg) + (nI 0)))) J S _) (((nI 16) + ((nI 6) * x1)) + (nI 4)) (fun w6 hw6 => ?_)
      replace h := h w6 hw6
      refine w_st (i' := 246) (ls' := [.ref 99, .int x1, v2, .int x3, v4, v5, .int x6]) (st' := [.int x6, .int w6, .ref 116]) (E' := E) (I' := (u_I I 116 (upd (I 116) w1.toNatClampNeg (((I 116) w1.toNatClampNeg) + (nI 0))))) (J' := J) (S' := S) am_e241 rfl rfl rfl rfl ?_
      have hv7 := h.1
      replace h := h.2
      refine w_is (k := 116) (n := 51) (jn := w6.toNatClampNeg) am_e241 rfl rfl (by decide) hv7 rfl ?_
      refine w_eI (uI_0 ..) ?_
      show am_ww 241 247 [.ref 99, .int x1, v2, .int x3, v4, v5, .int x6] [] E (u_I I 116 (upd (upd (I 116) w1.toNatClampNeg (((I 116) w1.toNatClampNeg) + (nI 0))) w6.toNatClampNeg x6)) J S _
      exact w_end am_e241 rfl rfl rfl h
    · replace h := h.2 (of_decide_eq_false c)
      refine w_st (i' := 7) (ls' := [.int ((I 106) x3.toNatClampNeg), .int (nI 9), .int (nI 11)]) (st' := [.int (nI 1)]) (E' := E) (I' := I) (J' := J) (S' := S) am_e232 rfl rfl rfl rfl ?_
      refine w_st (i' := 9) (ls' := [.int ((I 106) x3.toNatClampNeg), .int (nI 9), .int (nI 11)]) (st' := [.int (nI 1)]) (E' := E) (I' := I) (J' := J) (S' := S) am_e232 rfl rfl rfl rfl ?_
      refine w_end (E' := E) (I' := I) (J' := J) (S' := S) am_e232 rfl rfl rfl (q_mkI ?_)
      show am_ww 241 234 [.ref 99, .int x1, v2, .int x3, v4, v5, .int x6] [.int (nI 1), .int ((I 116) w1.toNatClampNeg), .int w1, .ref 116] E I J S _
      refine w_st (i' := 235) (ls' := [.ref 99, .int x1, v2, .int x3, v4, v5, .int x6]) (st' := [.int ((I 116) w1.toNatClampNeg), .int w1, .ref 116]) (E' := E) (I' := I) (J' := J) (S' := S) am_e241 rfl rfl rfl rfl ?_
      refine w_st (i' := 236) (ls' := [.ref 99, .int x1, v2, .int x3, v4, v5, .int x6]) (st' := [.int (nI 1), .int ((I 116) w1.toNatClampNeg), .int w1, .ref 116]) (E' := E) (I' := I) (J' := J) (S' := S) am_e241 rfl rfl rfl rfl ?_
      refine w_st (i' := 238) (ls' := [.ref 99, .int x1, v2, .int x3, v4, v5, .int x6]) (st' := [.int (nI 1), .int ((I 116) w1.toNatClampNeg), .int w1, .ref 116]) (E' := E) (I' := I) (J' := J) (S' := S) am_e241 rfl rfl rfl rfl ?_
      refine w_st (i' := 239) (ls' := [.ref 99, .int x1, v2, .int x3, v4, v5, .int x6]) (st' := [.int (((I 116) w1.toNatClampNeg) + (nI 1)), .int w1, .ref 116]) (E' := E) (I' := I) (J' := J) (S' := S) am_e241 rfl rfl rfl rfl ?_
      refine w_is (k := 116) (n := 51) (jn := w1.toNatClampNeg) am_e241 rfl rfl (by decide) hv2 rfl ?_
      show am_ww 241 240 [.ref 99, .int x1, v2, .int x3, v4, v5, .int x6] [] E (u_I I 116 (upd (I 116) w1.toNatClampNeg (((I 116) w1.toNatClampNeg) + (nI 1)))) J S _
      refine w_st (i' := 241) (ls' := [.ref 99, .int x1, v2, .int x3, v4, v5, .int x6]) (st' := [.ref 99]) (E' := E) (I' := (u_I I 116 (upd (I 116) w1.toNatClampNeg (((I 116) w1.toNatClampNeg) + (nI 1))))) (J' := J) (S' := S) am_e241 rfl rfl rfl rfl ?_
      refine w_st (i' := 242) (ls' := [.ref 99, .int x1, v2, .int x3, v4, v5, .int x6]) (st' := [.ref 116]) (E' := E) (I' := (u_I I 116 (upd (I 116) w1.toNatClampNeg (((I 116) w1.toNatClampNeg) + (nI 1))))) (J' := J) (S' := S) am_e241 rfl rfl rfl rfl ?_
      refine w_st (i' := 243) (ls' := [.ref 99, .int x1, v2, .int x3, v4, v5, .int x6]) (st' := [.int x1, .ref 116]) (E' := E) (I' := (u_I I 116 (upd (I 116) w1.toNatClampNeg (((I 116) w1.toNatClampNeg) + (nI 1))))) (J' := J) (S' := S) am_e241 rfl rfl rfl rfl ?_
      refine w_st (i' := 244) (ls' := [.ref 99, .int x1, v2, .int x3, v4, v5, .int x6]) (st' := [.int (nI 4), .int x1, .ref 116]) (E' := E) (I' := (u_I I 116 (upd (I 116) w1.toNatClampNeg (((I 116) w1.toNatClampNeg) + (nI 1))))) (J' := J) (S' := S) am_e241 rfl rfl rfl rfl ?_
      refine w_cI am_e241 rfl rfl (as := [.int x1, .int (nI 4)]) (rest := [.ref 116]) rfl rfl ?_
      show am_ww 222 0 [.int x1, .int (nI 4)] [] E (u_I I 116 (upd (I 116) w1.toNatClampNeg (((I 116) w1.toNatClampNeg) + (nI 1)))) J S _
      refine w_st (i' := 1) (ls' := [.int x1, .int (nI 4)]) (st' := [.int (nI 16)]) (E' := E) (I' := (u_I I 116 (upd (I 116) w1.toNatClampNeg (((I 116) w1.toNatClampNeg) + (nI 1))))) (J' := J) (S' := S) am_e222 rfl rfl rfl rfl ?_
      refine w_st (i' := 2) (ls' := [.int x1, .int (nI 4)]) (st' := [.int (nI 6), .int (nI 16)]) (E' := E) (I' := (u_I I 116 (upd (I 116) w1.toNatClampNeg (((I 116) w1.toNatClampNeg) + (nI 1))))) (J' := J) (S' := S) am_e222 rfl rfl rfl rfl ?_
      refine w_st (i' := 3) (ls' := [.int x1, .int (nI 4)]) (st' := [.int x1, .int (nI 6), .int (nI 16)]) (E' := E) (I' := (u_I I 116 (upd (I 116) w1.toNatClampNeg (((I 116) w1.toNatClampNeg) + (nI 1))))) (J' := J) (S' := S) am_e222 rfl rfl rfl rfl ?_
      refine w_st (i' := 4) (ls' := [.int x1, .int (nI 4)]) (st' := [.int ((nI 6) * x1), .int (nI 16)]) (E' := E) (I' := (u_I I 116 (upd (I 116) w1.toNatClampNeg (((I 116) w1.toNatClampNeg) + (nI 1))))) (J' := J) (S' := S) am_e222 rfl rfl rfl rfl ?_
      refine w_st (i' := 5) (ls' := [.int x1, .int (nI 4)]) (st' := [.int ((nI 16) + ((nI 6) * x1))]) (E' := E) (I' := (u_I I 116 (upd (I 116) w1.toNatClampNeg (((I 116) w1.toNatClampNeg) + (nI 1))))) (J' := J) (S' := S) am_e222 rfl rfl rfl rfl ?_
      refine w_st (i' := 6) (ls' := [.int x1, .int (nI 4)]) (st' := [.int (nI 4), .int ((nI 16) + ((nI 6) * x1))]) (E' := E) (I' := (u_I I 116 (upd (I 116) w1.toNatClampNeg (((I 116) w1.toNatClampNeg) + (nI 1))))) (J' := J) (S' := S) am_e222 rfl rfl rfl rfl ?_
      refine w_st (i' := 7) (ls' := [.int x1, .int (nI 4)]) (st' := [.int (((nI 16) + ((nI 6) * x1)) + (nI 4))]) (E' := E) (I' := (u_I I 116 (upd (I 116) w1.toNatClampNeg (((I 116) w1.toNatClampNeg) + (nI 1))))) (J' := J) (S' := S) am_e222 rfl rfl rfl rfl ?_
      refine w_ri am_e222 rfl rfl (q_mkI ?_)
      show am_ww 241 245 [.ref 99, .int x1, v2, .int x3, v4, v5, .int x6] [.int (((nI 16) + ((nI 6) * x1)) + (nI 4)), .ref 116] E (u_I I 116 (upd (I 116) w1.toNatClampNeg (((I 116) w1.toNatClampNeg) + (nI 1)))) J S _
      refine w_var (fun w8 => am_ww 241 245 [.ref 99, .int x1, v2, .int x3, v4, v5, .int x6] [.int w8, .ref 116] E (u_I I 116 (upd (I 116) w1.toNatClampNeg (((I 116) w1.toNatClampNeg) + (nI 1)))) J S _) (((nI 16) + ((nI 6) * x1)) + (nI 4)) (fun w8 hw8 => ?_)
      replace h := h w8 hw8
      refine w_st (i' := 246) (ls' := [.ref 99, .int x1, v2, .int x3, v4, v5, .int x6]) (st' := [.int x6, .int w8, .ref 116]) (E' := E) (I' := (u_I I 116 (upd (I 116) w1.toNatClampNeg (((I 116) w1.toNatClampNeg) + (nI 1))))) (J' := J) (S' := S) am_e241 rfl rfl rfl rfl ?_
      have hv9 := h.1
      replace h := h.2
      refine w_is (k := 116) (n := 51) (jn := w8.toNatClampNeg) am_e241 rfl rfl (by decide) hv9 rfl ?_
      refine w_eI (uI_0 ..) ?_
      show am_ww 241 247 [.ref 99, .int x1, v2, .int x3, v4, v5, .int x6] [] E (u_I I 116 (upd (upd (I 116) w1.toNatClampNeg (((I 116) w1.toNatClampNeg) + (nI 1))) w8.toNatClampNeg x6)) J S _
      exact w_end am_e241 rfl rfl rfl h
