/-! rows of the law, by program -/
set_option maxRecDepth 12000 in
theorem g291_13 {x4 : Int32} {d5 : Value} {d6 : Value} {E : am_Ev} {I : Nat → Nat → Int32} {J : Nat → Nat → Int64} {S : Nat → Nat → Option Nat} {Q : am_Qt} (hd5 : am_isL d5 = false) (hd6 : am_isL d6 = false) (h : (((nI E.2.2.1) - (nI 6)) < x4 → (Q (.inl (some (.int (nI 1)))) E I J S)) ∧ (¬ ((nI E.2.2.1) - (nI 6)) < x4 → (vp_in x4 E.2.2.1 ∧ ((((E.2.2.2 x4.toNatClampNeg) &&& (nI 31)) = nI 0 → (am_ww 291 25 [.ref 1000000, .ref 0, .ref 99, .ref 145, .int x4, d5, d6] [] E I J S Q)) ∧ (((E.2.2.2 x4.toNatClampNeg) &&& (nI 31)) = nI 1 → (am_ww 291 82 [.ref 1000000, .ref 0, .ref 99, .ref 145, .int x4, d5, d6] [] E I J S Q)) ∧ (((E.2.2.2 x4.toNatClampNeg) &&& (nI 31)) = nI 2 → (am_ww 291 117 [.ref 1000000, .ref 0, .ref 99, .ref 145, .int x4, d5, d6] [] E I J S Q)) ∧ (((E.2.2.2 x4.toNatClampNeg) &&& (nI 31)) = nI 3 → (am_ww 291 124 [.ref 1000000, .ref 0, .ref 99, .ref 145, .int x4, d5, d6] [] E I J S Q)) ∧ (((E.2.2.2 x4.toNatClampNeg) &&& (nI 31)) = nI 4 → (am_ww 291 159 [.ref 1000000, .ref 0, .ref 99, .ref 145, .int x4, d5, d6] [] E I J S Q)) ∧ (((E.2.2.2 x4.toNatClampNeg) &&& (nI 31)) = nI 5 → (am_ww 291 194 [.ref 1000000, .ref 0, .ref 99, .ref 145, .int x4, d5, d6] [] E I J S Q)) ∧ (((E.2.2.2 x4.toNatClampNeg) &&& (nI 31)) = nI 6 → (am_ww 291 211 [.ref 1000000, .ref 0, .ref 99, .ref 145, .int x4, d5, d6] [] E I J S Q)) ∧ (((E.2.2.2 x4.toNatClampNeg) &&& (nI 31)) = nI 7 → (am_ww 291 238 [.ref 1000000, .ref 0, .ref 99, .ref 145, .int x4, d5, d6] [] E I J S Q)) ∧ (((E.2.2.2 x4.toNatClampNeg) &&& (nI 31)) = nI 8 → (am_ww 291 245 [.ref 1000000, .ref 0, .ref 99, .ref 145, .int x4, d5, d6] [] E I J S Q)) ∧ (((E.2.2.2 x4.toNatClampNeg) &&& (nI 31)) = nI 9 → (am_ww 291 290 [.ref 1000000, .ref 0, .ref 99, .ref 145, .int x4, d5, d6] [] E I J S Q)) ∧ (((E.2.2.2 x4.toNatClampNeg) &&& (nI 31)) = nI 10 → (am_ww 291 335 [.ref 1000000, .ref 0, .ref 99, .ref 145, .int x4, d5, d6] [] E I J S Q)) ∧ (((E.2.2.2 x4.toNatClampNeg) &&& (nI 31)) = nI 11 → (am_ww 291 370 [.ref 1000000, .ref 0, .ref 99, .ref 145, .int x4, d5, d6] [] E I J S Q)) ∧ (((E.2.2.2 x4.toNatClampNeg) &&& (nI 31)) = nI 12 → (am_ww 291 405 [.ref 1000000, .ref 0, .ref 99, .ref 145, .int x4, d5, d6] [] E I J S Q)) ∧ (((E.2.2.2 x4.toNatClampNeg) &&& (nI 31)) = nI 13 → (am_ww 291 440 [.ref 1000000, .ref 0, .ref 99, .ref 145, .int x4, d5, d6] [] E I J S Q)) ∧ (((E.2.2.2 x4.toNatClampNeg) &&& (nI 31)) = nI 14 → (am_ww 291 475 [.ref 1000000, .ref 0, .ref 99, .ref 145, .int x4, d5, d6] [] E I J S Q)) ∧ (((E.2.2.2 x4.toNatClampNeg) &&& (nI 31)) = nI 15 → (am_ww 291 520 [.ref 1000000, .ref 0, .ref 99, .ref 145, .int x4, d5, d6] [] E I J S Q)) ∧ (((E.2.2.2 x4.toNatClampNeg) &&& (nI 31)) = nI 16 → (am_ww 291 555 [.ref 1000000, .ref 0, .ref 99, .ref 145, .int x4, d5, d6] [] E I J S Q)) ∧ (((E.2.2.2 x4.toNatClampNeg) &&& (nI 31)) = nI 17 → (am_ww 291 562 [.ref 1000000, .ref 0, .ref 99, .ref 145, .int x4, d5, d6] [] E I J S Q)) ∧ (((E.2.2.2 x4.toNatClampNeg) &&& (nI 31)) = nI 18 → (am_ww 291 607 [.ref 1000000, .ref 0, .ref 99, .ref 145, .int x4, d5, d6] [] E I J S Q)) ∧ (((E.2.2.2 x4.toNatClampNeg) &&& (nI 31)) = nI 19 → (am_ww 291 652 [.ref 1000000, .ref 0, .ref 99, .ref 145, .int x4, d5, d6] [] E I J S Q)) ∧ (((E.2.2.2 x4.toNatClampNeg) &&& (nI 31)) = nI 20 → (am_ww 291 697 [.ref 1000000, .ref 0, .ref 99, .ref 145, .int x4, d5, d6] [] E I J S Q)) ∧ (((E.2.2.2 x4.toNatClampNeg) &&& (nI 31)) = nI 21 → (am_ww 291 732 [.ref 1000000, .ref 0, .ref 99, .ref 145, .int x4, d5, d6] [] E I J S Q)) ∧ (((E.2.2.2 x4.toNatClampNeg) &&& (nI 31)) = nI 22 → (am_ww 291 767 [.ref 1000000, .ref 0, .ref 99, .ref 145, .int x4, d5, d6] [] E I J S Q)) ∧ (((E.2.2.2 x4.toNatClampNeg) &&& (nI 31)) = nI 23 → (am_ww 291 802 [.ref 1000000, .ref 0, .ref 99, .ref 145, .int x4, d5, d6] [] E I J S Q)) ∧ (((E.2.2.2 x4.toNatClampNeg) &&& (nI 31)) = nI 24 → (am_ww 291 847 [.ref 1000000, .ref 0, .ref 99, .ref 145, .int x4, d5, d6] [] E I J S Q)) ∧ (((E.2.2.2 x4.toNatClampNeg) &&& (nI 31)) = nI 25 → (am_ww 291 882 [.ref 1000000, .ref 0, .ref 99, .ref 145, .int x4, d5, d6] [] E I J S Q)) ∧ (((E.2.2.2 x4.toNatClampNeg) &&& (nI 31)) = nI 26 → (am_ww 291 927 [.ref 1000000, .ref 0, .ref 99, .ref 145, .int x4, d5, d6] [] E I J S Q)) ∧ (((E.2.2.2 x4.toNatClampNeg) &&& (nI 31)) = nI 27 → (am_ww 291 992 [.ref 1000000, .ref 0, .ref 99, .ref 145, .int x4, d5, d6] [] E I J S Q)) ∧ (((E.2.2.2 x4.toNatClampNeg) &&& (nI 31)) = nI 28 → (am_ww 291 1027 [.ref 1000000, .ref 0, .ref 99, .ref 145, .int x4, d5, d6] [] E I J S Q)) ∧ (((E.2.2.2 x4.toNatClampNeg) &&& (nI 31)) = nI 29 → (am_ww 291 1072 [.ref 1000000, .ref 0, .ref 99, .ref 145, .int x4, d5, d6] [] E I J S Q)) ∧ (((E.2.2.2 x4.toNatClampNeg) &&& (nI 31)) = nI 30 → (am_ww 291 1117 [.ref 1000000, .ref 0, .ref 99, .ref 145, .int x4, d5, d6] [] E I J S Q)) ∧ (((E.2.2.2 x4.toNatClampNeg) &&& (nI 31)) = nI 31 → (am_ww 291 1122 [.ref 1000000, .ref 0, .ref 99, .ref 145, .int x4, d5, d6] [] E I J S Q)) ∧ (¬ ((E.2.2.2 x4.toNatClampNeg) &&& (nI 31)) = nI 0 → ¬ ((E.2.2.2 x4.toNatClampNeg) &&& (nI 31)) = nI 1 → ¬ ((E.2.2.2 x4.toNatClampNeg) &&& (nI 31)) = nI 2 → ¬ ((E.2.2.2 x4.toNatClampNeg) &&& (nI 31)) = nI 3 → ¬ ((E.2.2.2 x4.toNatClampNeg) &&& (nI 31)) = nI 4 → ¬ ((E.2.2.2 x4.toNatClampNeg) &&& (nI 31)) = nI 5 → ¬ ((E.2.2.2 x4.toNatClampNeg) &&& (nI 31)) = nI 6 → ¬ ((E.2.2.2 x4.toNatClampNeg) &&& (nI 31)) = nI 7 → ¬ ((E.2.2.2 x4.toNatClampNeg) &&& (nI 31)) = nI 8 → ¬ ((E.2.2.2 x4.toNatClampNeg) &&& (nI 31)) = nI 9 → ¬ ((E.2.2.2 x4.toNatClampNeg) &&& (nI 31)) = nI 10 → ¬ ((E.2.2.2 x4.toNatClampNeg) &&& (nI 31)) = nI 11 → ¬ ((E.2.2.2 x4.toNatClampNeg) &&& (nI 31)) = nI 12 → ¬ ((E.2.2.2 x4.toNatClampNeg) &&& (nI 31)) = nI 13 → ¬ ((E.2.2.2 x4.toNatClampNeg) &&& (nI 31)) = nI 14 → ¬ ((E.2.2.2 x4.toNatClampNeg) &&& (nI 31)) = nI 15 → ¬ ((E.2.2.2 x4.toNatClampNeg) &&& (nI 31)) = nI 16 → ¬ ((E.2.2.2 x4.toNatClampNeg) &&& (nI 31)) = nI 17 → ¬ ((E.2.2.2 x4.toNatClampNeg) &&& (nI 31)) = nI 18 → ¬ ((E.2.2.2 x4.toNatClampNeg) &&& (nI 31)) = nI 19 → ¬ ((E.2.2.2 x4.toNatClampNeg) &&& (nI 31)) = nI 20 → ¬ ((E.2.2.2 x4.toNatClampNeg) &&& (nI 31)) = nI 21 → ¬ ((E.2.2.2 x4.toNatClampNeg) &&& (nI 31)) = nI 22 → ¬ ((E.2.2.2 x4.toNatClampNeg) &&& (nI 31)) = nI 23 → ¬ ((E.2.2.2 x4.toNatClampNeg) &&& (nI 31)) = nI 24 → ¬ ((E.2.2.2 x4.toNatClampNeg) &&& (nI 31)) = nI 25 → ¬ ((E.2.2.2 x4.toNatClampNeg) &&& (nI 31)) = nI 26 → ¬ ((E.2.2.2 x4.toNatClampNeg) &&& (nI 31)) = nI 27 → ¬ ((E.2.2.2 x4.toNatClampNeg) &&& (nI 31)) = nI 28 → ¬ ((E.2.2.2 x4.toNatClampNeg) &&& (nI 31)) = nI 29 → ¬ ((E.2.2.2 x4.toNatClampNeg) &&& (nI 31)) = nI 30 → ¬ ((E.2.2.2 x4.toNatClampNeg) &&& (nI 31)) = nI 31 → (am_ww 291 1129 [.ref 1000000, .ref 0, .ref 99, .ref 145, .int x4, d5, d6] [] E I J S Q)))))) : am_ww 291 13 [.ref 1000000, .ref 0, .ref 99, .ref 145, .int x4, d5, d6] [] E I J S Q := by
  refine w_st (i' := 14) (ls' := [.ref 1000000, .ref 0, .ref 99, .ref 145, .int x4, d5, d6]) (st' := [.int x4]) (E' := E) (I' := I) (J' := J) (S' := S) am_e291 rfl rfl rfl rfl ?_
  refine w_st (i' := 15) (ls' := [.ref 1000000, .ref 0, .ref 99, .ref 145, .int x4, d5, d6]) (st' := [.ref 1000000, .int x4]) (E' := E) (I' := I) (J' := J) (S' := S) am_e291 rfl rfl rfl rfl ?_
  refine w_st (i' := 16) (ls' := [.ref 1000000, .ref 0, .ref 99, .ref 145, .int x4, d5, d6]) (st' := [.int (nI E.2.2.1), .int x4]) (E' := E) (I' := I) (J' := J) (S' := S) am_e291 rfl rfl rfl rfl ?_
  refine w_st (i' := 17) (ls' := [.ref 1000000, .ref 0, .ref 99, .ref 145, .int x4, d5, d6]) (st' := [.int (nI 6), .int (nI E.2.2.1), .int x4]) (E' := E) (I' := I) (J' := J) (S' := S) am_e291 rfl rfl rfl rfl ?_
  refine w_st (i' := 18) (ls' := [.ref 1000000, .ref 0, .ref 99, .ref 145, .int x4, d5, d6]) (st' := [.int ((nI E.2.2.1) - (nI 6)), .int x4]) (E' := E) (I' := I) (J' := J) (S' := S) am_e291 rfl rfl rfl rfl ?_
  refine w_if2 am_e291 rfl rfl (fun c => ?_) (fun c => ?_)
  · replace h := h.1 (of_decide_eq_true c)
    refine w_st (i' := 1132) (ls' := [.ref 1000000, .ref 0, .ref 99, .ref 145, .int x4, d5, d6]) (st' := [.int (nI 1)]) (E' := E) (I' := I) (J' := J) (S' := S) am_e291 rfl rfl rfl rfl ?_
    exact w_end am_e291 rfl rfl rfl h
  · replace h := h.2 (of_decide_eq_false c)
    refine w_st (i' := 20) (ls' := [.ref 1000000, .ref 0, .ref 99, .ref 145, .int x4, d5, d6]) (st' := [.ref 1000000]) (E' := E) (I' := I) (J' := J) (S' := S) am_e291 rfl rfl rfl rfl ?_
    refine w_st (i' := 21) (ls' := [.ref 1000000, .ref 0, .ref 99, .ref 145, .int x4, d5, d6]) (st' := [.int x4, .ref 1000000]) (E' := E) (I' := I) (J' := J) (S' := S) am_e291 rfl rfl rfl rfl ?_
    refine w_sa am_e291 rfl h.1 ?_
    replace h := h.2
    refine w_st (i' := 23) (ls' := [.ref 1000000, .ref 0, .ref 99, .ref 145, .int x4, d5, d6]) (st' := [.int (nI 31), .int (E.2.2.2 x4.toNatClampNeg)]) (E' := E) (I' := I) (J' := J) (S' := S) am_e291 rfl rfl rfl rfl ?_
    refine w_st (i' := 24) (ls' := [.ref 1000000, .ref 0, .ref 99, .ref 145, .int x4, d5, d6]) (st' := [.int ((E.2.2.2 x4.toNatClampNeg) &&& (nI 31))]) (E' := E) (I' := I) (J' := J) (S' := S) am_e291 rfl rfl rfl rfl ?_
    refine w_tb am_e291 rfl ?_
    by_cases c0 : ((E.2.2.2 x4.toNatClampNeg) &&& (nI 31)) = nI 0
    · replace h := h.1 c0
      refine w_to (i2 := 25) (by rw [c0]; first | done | rfl) ?_
      exact h
    by_cases c1 : ((E.2.2.2 x4.toNatClampNeg) &&& (nI 31)) = nI 1
    · replace h := h.2.1 c1
      refine w_to (i2 := 82) (by rw [c1]; first | done | rfl) ?_
      exact h
    by_cases c2 : ((E.2.2.2 x4.toNatClampNeg) &&& (nI 31)) = nI 2
    · replace h := h.2.2.1 c2
      refine w_to (i2 := 117) (by rw [c2]; first | done | rfl) ?_
      exact h
    by_cases c3 : ((E.2.2.2 x4.toNatClampNeg) &&& (nI 31)) = nI 3
    · replace h := h.2.2.2.1 c3
      refine w_to (i2 := 124) (by rw [c3]; first | done | rfl) ?_
      exact h
    by_cases c4 : ((E.2.2.2 x4.toNatClampNeg) &&& (nI 31)) = nI 4
    · replace h := h.2.2.2.2.1 c4
      refine w_to (i2 := 159) (by rw [c4]; first | done | rfl) ?_
      exact h
    by_cases c5 : ((E.2.2.2 x4.toNatClampNeg) &&& (nI 31)) = nI 5
    · replace h := h.2.2.2.2.2.1 c5
      refine w_to (i2 := 194) (by rw [c5]; first | done | rfl) ?_
      exact h
    by_cases c6 : ((E.2.2.2 x4.toNatClampNeg) &&& (nI 31)) = nI 6
    · replace h := h.2.2.2.2.2.2.1 c6
      refine w_to (i2 := 211) (by rw [c6]; first | done | rfl) ?_
      exact h
    by_cases c7 : ((E.2.2.2 x4.toNatClampNeg) &&& (nI 31)) = nI 7
    · replace h := h.2.2.2.2.2.2.2.1 c7
      refine w_to (i2 := 238) (by rw [c7]; first | done | rfl) ?_
      exact h
    by_cases c8 : ((E.2.2.2 x4.toNatClampNeg) &&& (nI 31)) = nI 8
    · replace h := h.2.2.2.2.2.2.2.2.1 c8
      refine w_to (i2 := 245) (by rw [c8]; first | done | rfl) ?_
      exact h
    by_cases c9 : ((E.2.2.2 x4.toNatClampNeg) &&& (nI 31)) = nI 9
    · replace h := h.2.2.2.2.2.2.2.2.2.1 c9
      refine w_to (i2 := 290) (by rw [c9]; first | done | rfl) ?_
      exact h
    by_cases c10 : ((E.2.2.2 x4.toNatClampNeg) &&& (nI 31)) = nI 10
    · replace h := h.2.2.2.2.2.2.2.2.2.2.1 c10
      refine w_to (i2 := 335) (by rw [c10]; first | done | rfl) ?_
      exact h
    by_cases c11 : ((E.2.2.2 x4.toNatClampNeg) &&& (nI 31)) = nI 11
    · replace h := h.2.2.2.2.2.2.2.2.2.2.2.1 c11
      refine w_to (i2 := 370) (by rw [c11]; first | done | rfl) ?_
      exact h
    by_cases c12 : ((E.2.2.2 x4.toNatClampNeg) &&& (nI 31)) = nI 12
    · replace h := h.2.2.2.2.2.2.2.2.2.2.2.2.1 c12
      refine w_to (i2 := 405) (by rw [c12]; first | done | rfl) ?_
      exact h
    by_cases c13 : ((E.2.2.2 x4.toNatClampNeg) &&& (nI 31)) = nI 13
    · replace h := h.2.2.2.2.2.2.2.2.2.2.2.2.2.1 c13
      refine w_to (i2 := 440) (by rw [c13]; first | done | rfl) ?_
      exact h
    by_cases c14 : ((E.2.2.2 x4.toNatClampNeg) &&& (nI 31)) = nI 14
    · replace h := h.2.2.2.2.2.2.2.2.2.2.2.2.2.2.1 c14
      refine w_to (i2 := 475) (by rw [c14]; first | done | rfl) ?_
      exact h
    by_cases c15 : ((E.2.2.2 x4.toNatClampNeg) &&& (nI 31)) = nI 15
    · replace h := h.2.2.2.2.2.2.2.2.2.2.2.2.2.2.2.1 c15
      refine w_to (i2 := 520) (by rw [c15]; first | done | rfl) ?_
      exact h
    by_cases c16 : ((E.2.2.2 x4.toNatClampNeg) &&& (nI 31)) = nI 16
    · replace h := h.2.2.2.2.2.2.2.2.2.2.2.2.2.2.2.2.1 c16
      refine w_to (i2 := 555) (by rw [c16]; first | done | rfl) ?_
      exact h
    by_cases c17 : ((E.2.2.2 x4.toNatClampNeg) &&& (nI 31)) = nI 17
    · replace h := h.2.2.2.2.2.2.2.2.2.2.2.2.2.2.2.2.2.1 c17
      refine w_to (i2 := 562) (by rw [c17]; first | done | rfl) ?_
      exact h
    by_cases c18 : ((E.2.2.2 x4.toNatClampNeg) &&& (nI 31)) = nI 18
    · replace h := h.2.2.2.2.2.2.2.2.2.2.2.2.2.2.2.2.2.2.1 c18
      refine w_to (i2 := 607) (by rw [c18]; first | done | rfl) ?_
      exact h
    by_cases c19 : ((E.2.2.2 x4.toNatClampNeg) &&& (nI 31)) = nI 19
    · replace h := h.2.2.2.2.2.2.2.2.2.2.2.2.2.2.2.2.2.2.2.1 c19
      refine w_to (i2 := 652) (by rw [c19]; first | done | rfl) ?_
      exact h
    by_cases c20 : ((E.2.2.2 x4.toNatClampNeg) &&& (nI 31)) = nI 20
    · replace h := h.2.2.2.2.2.2.2.2.2.2.2.2.2.2.2.2.2.2.2.2.1 c20
      refine w_to (i2 := 697) (by rw [c20]; first | done | rfl) ?_
      exact h
    by_cases c21 : ((E.2.2.2 x4.toNatClampNeg) &&& (nI 31)) = nI 21
    · replace h := h.2.2.2.2.2.2.2.2.2.2.2.2.2.2.2.2.2.2.2.2.2.1 c21
      refine w_to (i2 := 732) (by rw [c21]; first | done | rfl) ?_
      exact h
    by_cases c22 : ((E.2.2.2 x4.toNatClampNeg) &&& (nI 31)) = nI 22
    · replace h := h.2.2.2.2.2.2.2.2.2.2.2.2.2.2.2.2.2.2.2.2.2.2.1 c22
      refine w_to (i2 := 767) (by rw [c22]; first | done | rfl) ?_
      exact h
    by_cases c23 : ((E.2.2.2 x4.toNatClampNeg) &&& (nI 31)) = nI 23
    · replace h := h.2.2.2.2.2.2.2.2.2.2.2.2.2.2.2.2.2.2.2.2.2.2.2.1 c23
      refine w_to (i2 := 802) (by rw [c23]; first | done | rfl) ?_
      exact h
    by_cases c24 : ((E.2.2.2 x4.toNatClampNeg) &&& (nI 31)) = nI 24
    · replace h := h.2.2.2.2.2.2.2.2.2.2.2.2.2.2.2.2.2.2.2.2.2.2.2.2.1 c24
      refine w_to (i2 := 847) (by rw [c24]; first | done | rfl) ?_
      exact h
    by_cases c25 : ((E.2.2.2 x4.toNatClampNeg) &&& (nI 31)) = nI 25
    · replace h := h.2.2.2.2.2.2.2.2.2.2.2.2.2.2.2.2.2.2.2.2.2.2.2.2.2.1 c25
      refine w_to (i2 := 882) (by rw [c25]; first | done | rfl) ?_
      exact h
    by_cases c26 : ((E.2.2.2 x4.toNatClampNeg) &&& (nI 31)) = nI 26
    · replace h := h.2.2.2.2.2.2.2.2.2.2.2.2.2.2.2.2.2.2.2.2.2.2.2.2.2.2.1 c26
      refine w_to (i2 := 927) (by rw [c26]; first | done | rfl) ?_
      exact h
    by_cases c27 : ((E.2.2.2 x4.toNatClampNeg) &&& (nI 31)) = nI 27
    · replace h := h.2.2.2.2.2.2.2.2.2.2.2.2.2.2.2.2.2.2.2.2.2.2.2.2.2.2.2.1 c27
      refine w_to (i2 := 992) (by rw [c27]; first | done | rfl) ?_
      exact h
    by_cases c28 : ((E.2.2.2 x4.toNatClampNeg) &&& (nI 31)) = nI 28
    · replace h := h.2.2.2.2.2.2.2.2.2.2.2.2.2.2.2.2.2.2.2.2.2.2.2.2.2.2.2.2.1 c28
      refine w_to (i2 := 1027) (by rw [c28]; first | done | rfl) ?_
      exact h
    by_cases c29 : ((E.2.2.2 x4.toNatClampNeg) &&& (nI 31)) = nI 29
    · replace h := h.2.2.2.2.2.2.2.2.2.2.2.2.2.2.2.2.2.2.2.2.2.2.2.2.2.2.2.2.2.1 c29
      refine w_to (i2 := 1072) (by rw [c29]; first | done | rfl) ?_
      exact h
    by_cases c30 : ((E.2.2.2 x4.toNatClampNeg) &&& (nI 31)) = nI 30
    · replace h := h.2.2.2.2.2.2.2.2.2.2.2.2.2.2.2.2.2.2.2.2.2.2.2.2.2.2.2.2.2.2.1 c30
      refine w_to (i2 := 1117) (by rw [c30]; first | done | rfl) ?_
      exact h
    by_cases c31 : ((E.2.2.2 x4.toNatClampNeg) &&& (nI 31)) = nI 31
    · replace h := h.2.2.2.2.2.2.2.2.2.2.2.2.2.2.2.2.2.2.2.2.2.2.2.2.2.2.2.2.2.2.2.1 c31
      refine w_to (i2 := 1122) (by rw [c31]; first | done | rfl) ?_
      exact h
    replace h := h.2.2.2.2.2.2.2.2.2.2.2.2.2.2.2.2.2.2.2.2.2.2.2.2.2.2.2.2.2.2.2.2 c0 c1 c2 c3 c4 c5 c6 c7 c8 c9 c10 c11 c12 c13 c14 c15 c16 c17 c18 c19 c20 c21 c22 c23 c24 c25 c26 c27 c28 c29 c30 c31
    refine w_to (i2 := 1129) (am_tb_out (lo := 0) (up := 31) (by intro q h1 h2; have : q = 0 ∨ q = 1 ∨ q = 2 ∨ q = 3 ∨ q = 4 ∨ q = 5 ∨ q = 6 ∨ q = 7 ∨ q = 8 ∨ q = 9 ∨ q = 10 ∨ q = 11 ∨ q = 12 ∨ q = 13 ∨ q = 14 ∨ q = 15 ∨ q = 16 ∨ q = 17 ∨ q = 18 ∨ q = 19 ∨ q = 20 ∨ q = 21 ∨ q = 22 ∨ q = 23 ∨ q = 24 ∨ q = 25 ∨ q = 26 ∨ q = 27 ∨ q = 28 ∨ q = 29 ∨ q = 30 ∨ q = 31 := (by omega); rcases this with rfl | rfl | rfl | rfl | rfl | rfl | rfl | rfl | rfl | rfl | rfl | rfl | rfl | rfl | rfl | rfl | rfl | rfl | rfl | rfl | rfl | rfl | rfl | rfl | rfl | rfl | rfl | rfl | rfl | rfl | rfl | rfl <;> assumption)) ?_
    exact h
set_option maxRecDepth 12000 in
theorem g291_25 {x4 : Int32} {d5 : Value} {d6 : Value} {E : am_Ev} {I : Nat → Nat → Int32} {J : Nat → Nat → Int64} {S : Nat → Nat → Option Nat} {Q : am_Qt} (hd5 : am_isL d5 = false) (hd6 : am_isL d6 = false) (h : vp_in (x4 + (nI 1)) E.2.2.1 ∧ (vp_in (x4 + (nI 2)) E.2.2.1 ∧ (vp_in (x4 + (nI 3)) E.2.2.1 ∧ (vp_in (x4 + (nI 4)) E.2.2.1 ∧ (vp_in (x4 + (nI 5)) E.2.2.1 ∧ (am_cl 18 [.ref 0, .int (E.2.2.2 (x4 + (nI 1)).toNatClampNeg), .int (E.2.2.2 (x4 + (nI 2)).toNatClampNeg), .int (E.2.2.2 (x4 + (nI 3)).toNatClampNeg), .int (E.2.2.2 (x4 + (nI 4)).toNatClampNeg), .int (E.2.2.2 (x4 + (nI 5)).toNatClampNeg)] E I J S (q_I fun v1 E1 I1 J1 S1 => vp_in (x4 + (nI 1)) E1.2.2.1 ∧ (vp_in (x4 + (nI 2)) E1.2.2.1 ∧ (vp_in (x4 + (nI 3)) E1.2.2.1 ∧ (vp_in (x4 + (nI 4)) E1.2.2.1 ∧ (vp_in (x4 + (nI 5)) E1.2.2.1 ∧ (am_cl 187 [.ref 99, .int (E1.2.2.2 (x4 + (nI 1)).toNatClampNeg), .int (E1.2.2.2 (x4 + (nI 2)).toNatClampNeg), .int (E1.2.2.2 (x4 + (nI 3)).toNatClampNeg), .int (E1.2.2.2 (x4 + (nI 4)).toNatClampNeg), .int (E1.2.2.2 (x4 + (nI 5)).toNatClampNeg)] E1 I1 J1 S1 (q_I fun v2 E2 I2 J2 S2 => (v1 = v2 → (am_ww 291 1129 [.ref 1000000, .ref 0, .ref 99, .ref 145, .int x4, d5, d6] [] E2 I2 J2 S2 Q)) ∧ (¬ v1 = v2 → (Q (.inl (some (.int (nI 0)))) E2 I2 J2 S2))))))))))))))) : am_ww 291 25 [.ref 1000000, .ref 0, .ref 99, .ref 145, .int x4, d5, d6] [] E I J S Q := by
  refine w_st (i' := 26) (ls' := [.ref 1000000, .ref 0, .ref 99, .ref 145, .int x4, d5, d6]) (st' := [.ref 0]) (E' := E) (I' := I) (J' := J) (S' := S) am_e291 rfl rfl rfl rfl ?_
  refine w_st (i' := 27) (ls' := [.ref 1000000, .ref 0, .ref 99, .ref 145, .int x4, d5, d6]) (st' := [.ref 1000000, .ref 0]) (E' := E) (I' := I) (J' := J) (S' := S) am_e291 rfl rfl rfl rfl ?_
  refine w_st (i' := 28) (ls' := [.ref 1000000, .ref 0, .ref 99, .ref 145, .int x4, d5, d6]) (st' := [.int x4, .ref 1000000, .ref 0]) (E' := E) (I' := I) (J' := J) (S' := S) am_e291 rfl rfl rfl rfl ?_
  refine w_st (i' := 29) (ls' := [.ref 1000000, .ref 0, .ref 99, .ref 145, .int x4, d5, d6]) (st' := [.int (nI 1), .int x4, .ref 1000000, .ref 0]) (E' := E) (I' := I) (J' := J) (S' := S) am_e291 rfl rfl rfl rfl ?_
  refine w_st (i' := 30) (ls' := [.ref 1000000, .ref 0, .ref 99, .ref 145, .int x4, d5, d6]) (st' := [.int (x4 + (nI 1)), .ref 1000000, .ref 0]) (E' := E) (I' := I) (J' := J) (S' := S) am_e291 rfl rfl rfl rfl ?_
  refine w_sa am_e291 rfl h.1 ?_
  replace h := h.2
  refine w_st (i' := 32) (ls' := [.ref 1000000, .ref 0, .ref 99, .ref 145, .int x4, d5, d6]) (st' := [.ref 1000000, .int (E.2.2.2 (x4 + (nI 1)).toNatClampNeg), .ref 0]) (E' := E) (I' := I) (J' := J) (S' := S) am_e291 rfl rfl rfl rfl ?_
  refine w_st (i' := 33) (ls' := [.ref 1000000, .ref 0, .ref 99, .ref 145, .int x4, d5, d6]) (st' := [.int x4, .ref 1000000, .int (E.2.2.2 (x4 + (nI 1)).toNatClampNeg), .ref 0]) (E' := E) (I' := I) (J' := J) (S' := S) am_e291 rfl rfl rfl rfl ?_
  refine w_st (i' := 34) (ls' := [.ref 1000000, .ref 0, .ref 99, .ref 145, .int x4, d5, d6]) (st' := [.int (nI 2), .int x4, .ref 1000000, .int (E.2.2.2 (x4 + (nI 1)).toNatClampNeg), .ref 0]) (E' := E) (I' := I) (J' := J) (S' := S) am_e291 rfl rfl rfl rfl ?_
  refine w_st (i' := 35) (ls' := [.ref 1000000, .ref 0, .ref 99, .ref 145, .int x4, d5, d6]) (st' := [.int (x4 + (nI 2)), .ref 1000000, .int (E.2.2.2 (x4 + (nI 1)).toNatClampNeg), .ref 0]) (E' := E) (I' := I) (J' := J) (S' := S) am_e291 rfl rfl rfl rfl ?_
  refine w_sa am_e291 rfl h.1 ?_
  replace h := h.2
  refine w_st (i' := 37) (ls' := [.ref 1000000, .ref 0, .ref 99, .ref 145, .int x4, d5, d6]) (st' := [.ref 1000000, .int (E.2.2.2 (x4 + (nI 2)).toNatClampNeg), .int (E.2.2.2 (x4 + (nI 1)).toNatClampNeg), .ref 0]) (E' := E) (I' := I) (J' := J) (S' := S) am_e291 rfl rfl rfl rfl ?_
  refine w_st (i' := 38) (ls' := [.ref 1000000, .ref 0, .ref 99, .ref 145, .int x4, d5, d6]) (st' := [.int x4, .ref 1000000, .int (E.2.2.2 (x4 + (nI 2)).toNatClampNeg), .int (E.2.2.2 (x4 + (nI 1)).toNatClampNeg), .ref 0]) (E' := E) (I' := I) (J' := J) (S' := S) am_e291 rfl rfl rfl rfl ?_
  refine w_st (i' := 39) (ls' := [.ref 1000000, .ref 0, .ref 99, .ref 145, .int x4, d5, d6]) (st' := [.int (nI 3), .int x4, .ref 1000000, .int (E.2.2.2 (x4 + (nI 2)).toNatClampNeg), .int (E.2.2.2 (x4 + (nI 1)).toNatClampNeg), .ref 0]) (E' := E) (I' := I) (J' := J) (S' := S) am_e291 rfl rfl rfl rfl ?_
  refine w_st (i' := 40) (ls' := [.ref 1000000, .ref 0, .ref 99, .ref 145, .int x4, d5, d6]) (st' := [.int (x4 + (nI 3)), .ref 1000000, .int (E.2.2.2 (x4 + (nI 2)).toNatClampNeg), .int (E.2.2.2 (x4 + (nI 1)).toNatClampNeg), .ref 0]) (E' := E) (I' := I) (J' := J) (S' := S) am_e291 rfl rfl rfl rfl ?_
  refine w_sa am_e291 rfl h.1 ?_
  replace h := h.2
  refine w_st (i' := 42) (ls' := [.ref 1000000, .ref 0, .ref 99, .ref 145, .int x4, d5, d6]) (st' := [.ref 1000000, .int (E.2.2.2 (x4 + (nI 3)).toNatClampNeg), .int (E.2.2.2 (x4 + (nI 2)).toNatClampNeg), .int (E.2.2.2 (x4 + (nI 1)).toNatClampNeg), .ref 0]) (E' := E) (I' := I) (J' := J) (S' := S) am_e291 rfl rfl rfl rfl ?_
  refine w_st (i' := 43) (ls' := [.ref 1000000, .ref 0, .ref 99, .ref 145, .int x4, d5, d6]) (st' := [.int x4, .ref 1000000, .int (E.2.2.2 (x4 + (nI 3)).toNatClampNeg), .int (E.2.2.2 (x4 + (nI 2)).toNatClampNeg), .int (E.2.2.2 (x4 + (nI 1)).toNatClampNeg), .ref 0]) (E' := E) (I' := I) (J' := J) (S' := S) am_e291 rfl rfl rfl rfl ?_
  refine w_st (i' := 44) (ls' := [.ref 1000000, .ref 0, .ref 99, .ref 145, .int x4, d5, d6]) (st' := [.int (nI 4), .int x4, .ref 1000000, .int (E.2.2.2 (x4 + (nI 3)).toNatClampNeg), .int (E.2.2.2 (x4 + (nI 2)).toNatClampNeg), .int (E.2.2.2 (x4 + (nI 1)).toNatClampNeg), .ref 0]) (E' := E) (I' := I) (J' := J) (S' := S) am_e291 rfl rfl rfl rfl ?_
  refine w_st (i' := 45) (ls' := [.ref 1000000, .ref 0, .ref 99, .ref 145, .int x4, d5, d6]) (st' := [.int (x4 + (nI 4)), .ref 1000000, .int (E.2.2.2 (x4 + (nI 3)).toNatClampNeg), .int (E.2.2.2 (x4 + (nI 2)).toNatClampNeg), .int (E.2.2.2 (x4 + (nI 1)).toNatClampNeg), .ref 0]) (E' := E) (I' := I) (J' := J) (S' := S) am_e291 rfl rfl rfl rfl ?_
  refine w_sa am_e291 rfl h.1 ?_
  replace h := h.2
  refine w_st (i' := 47) (ls' := [.ref 1000000, .ref 0, .ref 99, .ref 145, .int x4, d5, d6]) (st' := [.ref 1000000, .int (E.2.2.2 (x4 + (nI 4)).toNatClampNeg), .int (E.2.2.2 (x4 + (nI 3)).toNatClampNeg), .int (E.2.2.2 (x4 + (nI 2)).toNatClampNeg), .int (E.2.2.2 (x4 + (nI 1)).toNatClampNeg), .ref 0]) (E' := E) (I' := I) (J' := J) (S' := S) am_e291 rfl rfl rfl rfl ?_
  refine w_st (i' := 48) (ls' := [.ref 1000000, .ref 0, .ref 99, .ref 145, .int x4, d5, d6]) (st' := [.int x4, .ref 1000000, .int (E.2.2.2 (x4 + (nI 4)).toNatClampNeg), .int (E.2.2.2 (x4 + (nI 3)).toNatClampNeg), .int (E.2.2.2 (x4 + (nI 2)).toNatClampNeg), .int (E.2.2.2 (x4 + (nI 1)).toNatClampNeg), .ref 0]) (E' := E) (I' := I) (J' := J) (S' := S) am_e291 rfl rfl rfl rfl ?_
  refine w_st (i' := 49) (ls' := [.ref 1000000, .ref 0, .ref 99, .ref 145, .int x4, d5, d6]) (st' := [.int (nI 5), .int x4, .ref 1000000, .int (E.2.2.2 (x4 + (nI 4)).toNatClampNeg), .int (E.2.2.2 (x4 + (nI 3)).toNatClampNeg), .int (E.2.2.2 (x4 + (nI 2)).toNatClampNeg), .int (E.2.2.2 (x4 + (nI 1)).toNatClampNeg), .ref 0]) (E' := E) (I' := I) (J' := J) (S' := S) am_e291 rfl rfl rfl rfl ?_
  refine w_st (i' := 50) (ls' := [.ref 1000000, .ref 0, .ref 99, .ref 145, .int x4, d5, d6]) (st' := [.int (x4 + (nI 5)), .ref 1000000, .int (E.2.2.2 (x4 + (nI 4)).toNatClampNeg), .int (E.2.2.2 (x4 + (nI 3)).toNatClampNeg), .int (E.2.2.2 (x4 + (nI 2)).toNatClampNeg), .int (E.2.2.2 (x4 + (nI 1)).toNatClampNeg), .ref 0]) (E' := E) (I' := I) (J' := J) (S' := S) am_e291 rfl rfl rfl rfl ?_
  refine w_sa am_e291 rfl h.1 ?_
  replace h := h.2
  refine w_cI am_e291 rfl rfl (as := [.ref 0, .int (E.2.2.2 (x4 + (nI 1)).toNatClampNeg), .int (E.2.2.2 (x4 + (nI 2)).toNatClampNeg), .int (E.2.2.2 (x4 + (nI 3)).toNatClampNeg), .int (E.2.2.2 (x4 + (nI 4)).toNatClampNeg), .int (E.2.2.2 (x4 + (nI 5)).toNatClampNeg)]) (rest := []) rfl rfl (am_ww.mono h ?_)
  rintro _ E1 I1 J1 S1 ⟨v1, rfl, h⟩
  refine q_mkI ?_
  refine w_st (i' := 53) (ls' := [.ref 1000000, .ref 0, .ref 99, .ref 145, .int x4, d5, d6]) (st' := [.ref 99, .int v1]) (E' := E1) (I' := I1) (J' := J1) (S' := S1) am_e291 rfl rfl rfl rfl ?_
  refine w_st (i' := 54) (ls' := [.ref 1000000, .ref 0, .ref 99, .ref 145, .int x4, d5, d6]) (st' := [.ref 1000000, .ref 99, .int v1]) (E' := E1) (I' := I1) (J' := J1) (S' := S1) am_e291 rfl rfl rfl rfl ?_
  refine w_st (i' := 55) (ls' := [.ref 1000000, .ref 0, .ref 99, .ref 145, .int x4, d5, d6]) (st' := [.int x4, .ref 1000000, .ref 99, .int v1]) (E' := E1) (I' := I1) (J' := J1) (S' := S1) am_e291 rfl rfl rfl rfl ?_
  refine w_st (i' := 56) (ls' := [.ref 1000000, .ref 0, .ref 99, .ref 145, .int x4, d5, d6]) (st' := [.int (nI 1), .int x4, .ref 1000000, .ref 99, .int v1]) (E' := E1) (I' := I1) (J' := J1) (S' := S1) am_e291 rfl rfl rfl rfl ?_
  refine w_st (i' := 57) (ls' := [.ref 1000000, .ref 0, .ref 99, .ref 145, .int x4, d5, d6]) (st' := [.int (x4 + (nI 1)), .ref 1000000, .ref 99, .int v1]) (E' := E1) (I' := I1) (J' := J1) (S' := S1) am_e291 rfl rfl rfl rfl ?_
  refine w_sa am_e291 rfl h.1 ?_
  replace h := h.2
  refine w_st (i' := 59) (ls' := [.ref 1000000, .ref 0, .ref 99, .ref 145, .int x4, d5, d6]) (st' := [.ref 1000000, .int (E1.2.2.2 (x4 + (nI 1)).toNatClampNeg), .ref 99, .int v1]) (E' := E1) (I' := I1) (J' := J1) (S' := S1) am_e291 rfl rfl rfl rfl ?_
  refine w_st (i' := 60) (ls' := [.ref 1000000, .ref 0, .ref 99, .ref 145, .int x4, d5, d6]) (st' := [.int x4, .ref 1000000, .int (E1.2.2.2 (x4 + (nI 1)).toNatClampNeg), .ref 99, .int v1]) (E' := E1) (I' := I1) (J' := J1) (S' := S1) am_e291 rfl rfl rfl rfl ?_
  refine w_st (i' := 61) (ls' := [.ref 1000000, .ref 0, .ref 99, .ref 145, .int x4, d5, d6]) (st' := [.int (nI 2), .int x4, .ref 1000000, .int (E1.2.2.2 (x4 + (nI 1)).toNatClampNeg), .ref 99, .int v1]) (E' := E1) (I' := I1) (J' := J1) (S' := S1) am_e291 rfl rfl rfl rfl ?_
  refine w_st (i' := 62) (ls' := [.ref 1000000, .ref 0, .ref 99, .ref 145, .int x4, d5, d6]) (st' := [.int (x4 + (nI 2)), .ref 1000000, .int (E1.2.2.2 (x4 + (nI 1)).toNatClampNeg), .ref 99, .int v1]) (E' := E1) (I' := I1) (J' := J1) (S' := S1) am_e291 rfl rfl rfl rfl ?_
  refine w_sa am_e291 rfl h.1 ?_
  replace h := h.2
  refine w_st (i' := 64) (ls' := [.ref 1000000, .ref 0, .ref 99, .ref 145, .int x4, d5, d6]) (st' := [.ref 1000000, .int (E1.2.2.2 (x4 + (nI 2)).toNatClampNeg), .int (E1.2.2.2 (x4 + (nI 1)).toNatClampNeg), .ref 99, .int v1]) (E' := E1) (I' := I1) (J' := J1) (S' := S1) am_e291 rfl rfl rfl rfl ?_
  refine w_st (i' := 65) (ls' := [.ref 1000000, .ref 0, .ref 99, .ref 145, .int x4, d5, d6]) (st' := [.int x4, .ref 1000000, .int (E1.2.2.2 (x4 + (nI 2)).toNatClampNeg), .int (E1.2.2.2 (x4 + (nI 1)).toNatClampNeg), .ref 99, .int v1]) (E' := E1) (I' := I1) (J' := J1) (S' := S1) am_e291 rfl rfl rfl rfl ?_
  refine w_st (i' := 66) (ls' := [.ref 1000000, .ref 0, .ref 99, .ref 145, .int x4, d5, d6]) (st' := [.int (nI 3), .int x4, .ref 1000000, .int (E1.2.2.2 (x4 + (nI 2)).toNatClampNeg), .int (E1.2.2.2 (x4 + (nI 1)).toNatClampNeg), .ref 99, .int v1]) (E' := E1) (I' := I1) (J' := J1) (S' := S1) am_e291 rfl rfl rfl rfl ?_
  refine w_st (i' := 67) (ls' := [.ref 1000000, .ref 0, .ref 99, .ref 145, .int x4, d5, d6]) (st' := [.int (x4 + (nI 3)), .ref 1000000, .int (E1.2.2.2 (x4 + (nI 2)).toNatClampNeg), .int (E1.2.2.2 (x4 + (nI 1)).toNatClampNeg), .ref 99, .int v1]) (E' := E1) (I' := I1) (J' := J1) (S' := S1) am_e291 rfl rfl rfl rfl ?_
  refine w_sa am_e291 rfl h.1 ?_
  replace h := h.2
  refine w_st (i' := 69) (ls' := [.ref 1000000, .ref 0, .ref 99, .ref 145, .int x4, d5, d6]) (st' := [.ref 1000000, .int (E1.2.2.2 (x4 + (nI 3)).toNatClampNeg), .int (E1.2.2.2 (x4 + (nI 2)).toNatClampNeg), .int (E1.2.2.2 (x4 + (nI 1)).toNatClampNeg), .ref 99, .int v1]) (E' := E1) (I' := I1) (J' := J1) (S' := S1) am_e291 rfl rfl rfl rfl ?_
  refine w_st (i' := 70) (ls' := [.ref 1000000, .ref 0, .ref 99, .ref 145, .int x4, d5, d6]) (st' := [.int x4, .ref 1000000, .int (E1.2.2.2 (x4 + (nI 3)).toNatClampNeg), .int (E1.2.2.2 (x4 + (nI 2)).toNatClampNeg), .int (E1.2.2.2 (x4 + (nI 1)).toNatClampNeg), .ref 99, .int v1]) (E' := E1) (I' := I1) (J' := J1) (S' := S1) am_e291 rfl rfl rfl rfl ?_
  refine w_st (i' := 71) (ls' := [.ref 1000000, .ref 0, .ref 99, .ref 145, .int x4, d5, d6]) (st' := [.int (nI 4), .int x4, .ref 1000000, .int (E1.2.2.2 (x4 + (nI 3)).toNatClampNeg), .int (E1.2.2.2 (x4 + (nI 2)).toNatClampNeg), .int (E1.2.2.2 (x4 + (nI 1)).toNatClampNeg), .ref 99, .int v1]) (E' := E1) (I' := I1) (J' := J1) (S' := S1) am_e291 rfl rfl rfl rfl ?_
  refine w_st (i' := 72) (ls' := [.ref 1000000, .ref 0, .ref 99, .ref 145, .int x4, d5, d6]) (st' := [.int (x4 + (nI 4)), .ref 1000000, .int (E1.2.2.2 (x4 + (nI 3)).toNatClampNeg), .int (E1.2.2.2 (x4 + (nI 2)).toNatClampNeg), .int (E1.2.2.2 (x4 + (nI 1)).toNatClampNeg), .ref 99, .int v1]) (E' := E1) (I' := I1) (J' := J1) (S' := S1) am_e291 rfl rfl rfl rfl ?_
  refine w_sa am_e291 rfl h.1 ?_
  replace h := h.2
  refine w_st (i' := 74) (ls' := [.ref 1000000, .ref 0, .ref 99, .ref 145, .int x4, d5, d6]) (st' := [.ref 1000000, .int (E1.2.2.2 (x4 + (nI 4)).toNatClampNeg), .int (E1.2.2.2 (x4 + (nI 3)).toNatClampNeg), .int (E1.2.2.2 (x4 + (nI 2)).toNatClampNeg), .int (E1.2.2.2 (x4 + (nI 1)).toNatClampNeg), .ref 99, .int v1]) (E' := E1) (I' := I1) (J' := J1) (S' := S1) am_e291 rfl rfl rfl rfl ?_
  refine w_st (i' := 75) (ls' := [.ref 1000000, .ref 0, .ref 99, .ref 145, .int x4, d5, d6]) (st' := [.int x4, .ref 1000000, .int (E1.2.2.2 (x4 + (nI 4)).toNatClampNeg), .int (E1.2.2.2 (x4 + (nI 3)).toNatClampNeg), .int (E1.2.2.2 (x4 + (nI 2)).toNatClampNeg), .int (E1.2.2.2 (x4 + (nI 1)).toNatClampNeg), .ref 99, .int v1]) (E' := E1) (I' := I1) (J' := J1) (S' := S1) am_e291 rfl rfl rfl rfl ?_
  refine w_st (i' := 76) (ls' := [.ref 1000000, .ref 0, .ref 99, .ref 145, .int x4, d5, d6]) (st' := [.int (nI 5), .int x4, .ref 1000000, .int (E1.2.2.2 (x4 + (nI 4)).toNatClampNeg), .int (E1.2.2.2 (x4 + (nI 3)).toNatClampNeg), .int (E1.2.2.2 (x4 + (nI 2)).toNatClampNeg), .int (E1.2.2.2 (x4 + (nI 1)).toNatClampNeg), .ref 99, .int v1]) (E' := E1) (I' := I1) (J' := J1) (S' := S1) am_e291 rfl rfl rfl rfl ?_
  refine w_st (i' := 77) (ls' := [.ref 1000000, .ref 0, .ref 99, .ref 145, .int x4, d5, d6]) (st' := [.int (x4 + (nI 5)), .ref 1000000, .int (E1.2.2.2 (x4 + (nI 4)).toNatClampNeg), .int (E1.2.2.2 (x4 + (nI 3)).toNatClampNeg), .int (E1.2.2.2 (x4 + (nI 2)).toNatClampNeg), .int (E1.2.2.2 (x4 + (nI 1)).toNatClampNeg), .ref 99, .int v1]) (E' := E1) (I' := I1) (J' := J1) (S' := S1) am_e291 rfl rfl rfl rfl ?_
  refine w_sa am_e291 rfl h.1 ?_
  replace h := h.2
  refine w_cI am_e291 rfl rfl (as := [.ref 99, .int (E1.2.2.2 (x4 + (nI 1)).toNatClampNeg), .int (E1.2.2.2 (x4 + (nI 2)).toNatClampNeg), .int (E1.2.2.2 (x4 + (nI 3)).toNatClampNeg), .int (E1.2.2.2 (x4 + (nI 4)).toNatClampNeg), .int (E1.2.2.2 (x4 + (nI 5)).toNatClampNeg)]) (rest := [.int v1]) rfl rfl (am_ww.mono h ?_)
  rintro _ E2 I2 J2 S2 ⟨v2, rfl, h⟩
  refine q_mkI ?_
  refine w_if2 am_e291 rfl rfl (fun c => ?_) (fun c => ?_)
  · replace h := h.1 (of_decide_eq_true c)
    exact h
  · replace h := h.2 (of_decide_eq_false c)
    refine w_st (i' := 81) (ls' := [.ref 1000000, .ref 0, .ref 99, .ref 145, .int x4, d5, d6]) (st' := [.int (nI 0)]) (E' := E2) (I' := I2) (J' := J2) (S' := S2) am_e291 rfl rfl rfl rfl ?_
    exact w_end am_e291 rfl rfl rfl h
set_option maxRecDepth 12000 in
theorem g291_82 {x4 : Int32} {d5 : Value} {d6 : Value} {E : am_Ev} {I : Nat → Nat → Int32} {J : Nat → Nat → Int64} {S : Nat → Nat → Option Nat} {Q : am_Qt} (hd5 : am_isL d5 = false) (hd6 : am_isL d6 = false) (h : vp_in (x4 + (nI 1)) E.2.2.1 ∧ (am_cl 58 [.ref 0, .int (E.2.2.2 (x4 + (nI 1)).toNatClampNeg), .ref 145] E I J S (q_I fun v1 E1 I1 J1 S1 => vp_in (x4 + (nI 1)) E1.2.2.1 ∧ (am_cl 188 [.ref 99, .int (E1.2.2.2 (x4 + (nI 1)).toNatClampNeg)] E1 I1 J1 S1 (q_I fun v2 E2 I2 J2 S2 => (((I2 99) 3) = v1 → ((v1 = 0 → (((lg_cmp ((J2 145) 0) v2.toInt64) = 0 → (am_ww 291 1129 [.ref 1000000, .ref 0, .ref 99, .ref 145, .int x4, .int v1, .int v2] [] E2 I2 J2 S2 Q)) ∧ (¬ (lg_cmp ((J2 145) 0) v2.toInt64) = 0 → (Q (.inl (some (.int (nI 0)))) E2 I2 J2 S2)))) ∧ (¬ v1 = 0 → (am_ww 291 1129 [.ref 1000000, .ref 0, .ref 99, .ref 145, .int x4, .int v1, .int v2] [] E2 I2 J2 S2 Q)))) ∧ (¬ ((I2 99) 3) = v1 → (Q (.inl (some (.int (nI 0)))) E2 I2 J2 S2))))))) : am_ww 291 82 [.ref 1000000, .ref 0, .ref 99, .ref 145, .int x4, d5, d6] [] E I J S Q := by
  refine w_st (i' := 83) (ls' := [.ref 1000000, .ref 0, .ref 99, .ref 145, .int x4, d5, d6]) (st' := [.ref 0]) (E' := E) (I' := I) (J' := J) (S' := S) am_e291 rfl rfl rfl rfl ?_
  refine w_st (i' := 84) (ls' := [.ref 1000000, .ref 0, .ref 99, .ref 145, .int x4, d5, d6]) (st' := [.ref 1000000, .ref 0]) (E' := E) (I' := I) (J' := J) (S' := S) am_e291 rfl rfl rfl rfl ?_
  refine w_st (i' := 85) (ls' := [.ref 1000000, .ref 0, .ref 99, .ref 145, .int x4, d5, d6]) (st' := [.int x4, .ref 1000000, .ref 0]) (E' := E) (I' := I) (J' := J) (S' := S) am_e291 rfl rfl rfl rfl ?_
  refine w_st (i' := 86) (ls' := [.ref 1000000, .ref 0, .ref 99, .ref 145, .int x4, d5, d6]) (st' := [.int (nI 1), .int x4, .ref 1000000, .ref 0]) (E' := E) (I' := I) (J' := J) (S' := S) am_e291 rfl rfl rfl rfl ?_
  refine w_st (i' := 87) (ls' := [.ref 1000000, .ref 0, .ref 99, .ref 145, .int x4, d5, d6]) (st' := [.int (x4 + (nI 1)), .ref 1000000, .ref 0]) (E' := E) (I' := I) (J' := J) (S' := S) am_e291 rfl rfl rfl rfl ?_
  refine w_sa am_e291 rfl h.1 ?_
  replace h := h.2
  refine w_st (i' := 89) (ls' := [.ref 1000000, .ref 0, .ref 99, .ref 145, .int x4, d5, d6]) (st' := [.ref 145, .int (E.2.2.2 (x4 + (nI 1)).toNatClampNeg), .ref 0]) (E' := E) (I' := I) (J' := J) (S' := S) am_e291 rfl rfl rfl rfl ?_
  refine w_cI am_e291 rfl rfl (as := [.ref 0, .int (E.2.2.2 (x4 + (nI 1)).toNatClampNeg), .ref 145]) (rest := []) rfl rfl (am_ww.mono h ?_)
  rintro _ E1 I1 J1 S1 ⟨v1, rfl, h⟩
  refine q_mkI ?_
  refine w_st (i' := 91) (ls' := [.ref 1000000, .ref 0, .ref 99, .ref 145, .int x4, .int v1, d6]) (st' := []) (E' := E1) (I' := I1) (J' := J1) (S' := S1) am_e291 rfl rfl rfl rfl ?_
  refine w_st (i' := 92) (ls' := [.ref 1000000, .ref 0, .ref 99, .ref 145, .int x4, .int v1, d6]) (st' := [.ref 99]) (E' := E1) (I' := I1) (J' := J1) (S' := S1) am_e291 rfl rfl rfl rfl ?_
  refine w_st (i' := 93) (ls' := [.ref 1000000, .ref 0, .ref 99, .ref 145, .int x4, .int v1, d6]) (st' := [.ref 1000000, .ref 99]) (E' := E1) (I' := I1) (J' := J1) (S' := S1) am_e291 rfl rfl rfl rfl ?_
  refine w_st (i' := 94) (ls' := [.ref 1000000, .ref 0, .ref 99, .ref 145, .int x4, .int v1, d6]) (st' := [.int x4, .ref 1000000, .ref 99]) (E' := E1) (I' := I1) (J' := J1) (S' := S1) am_e291 rfl rfl rfl rfl ?_
  refine w_st (i' := 95) (ls' := [.ref 1000000, .ref 0, .ref 99, .ref 145, .int x4, .int v1, d6]) (st' := [.int (nI 1), .int x4, .ref 1000000, .ref 99]) (E' := E1) (I' := I1) (J' := J1) (S' := S1) am_e291 rfl rfl rfl rfl ?_
  refine w_st (i' := 96) (ls' := [.ref 1000000, .ref 0, .ref 99, .ref 145, .int x4, .int v1, d6]) (st' := [.int (x4 + (nI 1)), .ref 1000000, .ref 99]) (E' := E1) (I' := I1) (J' := J1) (S' := S1) am_e291 rfl rfl rfl rfl ?_
  refine w_sa am_e291 rfl h.1 ?_
  replace h := h.2
  refine w_cI am_e291 rfl rfl (as := [.ref 99, .int (E1.2.2.2 (x4 + (nI 1)).toNatClampNeg)]) (rest := []) rfl rfl (am_ww.mono h ?_)
  rintro _ E2 I2 J2 S2 ⟨v2, rfl, h⟩
  refine q_mkI ?_
  refine w_st (i' := 99) (ls' := [.ref 1000000, .ref 0, .ref 99, .ref 145, .int x4, .int v1, .int v2]) (st' := []) (E' := E2) (I' := I2) (J' := J2) (S' := S2) am_e291 rfl rfl rfl rfl ?_
  refine w_st (i' := 100) (ls' := [.ref 1000000, .ref 0, .ref 99, .ref 145, .int x4, .int v1, .int v2]) (st' := [.ref 99]) (E' := E2) (I' := I2) (J' := J2) (S' := S2) am_e291 rfl rfl rfl rfl ?_
  refine w_cI am_e291 rfl rfl (as := [.ref 99]) (rest := []) rfl rfl ?_
  show am_ww 186 0 [.ref 99] [] E2 I2 J2 S2 _
  refine w_st (i' := 1) (ls' := [.ref 99]) (st' := [.ref 99]) (E' := E2) (I' := I2) (J' := J2) (S' := S2) am_e186 rfl rfl rfl rfl ?_
  refine w_st (i' := 2) (ls' := [.ref 99]) (st' := [.int ((I2 99) 3)]) (E' := E2) (I' := I2) (J' := J2) (S' := S2) am_e186 rfl rfl rfl rfl ?_
  refine w_ri am_e186 rfl rfl (q_mkI ?_)
  show am_ww 291 101 [.ref 1000000, .ref 0, .ref 99, .ref 145, .int x4, .int v1, .int v2] [.int ((I2 99) 3)] E2 I2 J2 S2 _
  refine w_st (i' := 102) (ls' := [.ref 1000000, .ref 0, .ref 99, .ref 145, .int x4, .int v1, .int v2]) (st' := [.int v1, .int ((I2 99) 3)]) (E' := E2) (I' := I2) (J' := J2) (S' := S2) am_e291 rfl rfl rfl rfl ?_
  refine w_if2 am_e291 rfl rfl (fun c => ?_) (fun c => ?_)
  · replace h := h.1 (of_decide_eq_true c)
    refine w_st (i' := 106) (ls' := [.ref 1000000, .ref 0, .ref 99, .ref 145, .int x4, .int v1, .int v2]) (st' := [.int v1]) (E' := E2) (I' := I2) (J' := J2) (S' := S2) am_e291 rfl rfl rfl rfl ?_
    refine w_if1 am_e291 rfl rfl (fun c => ?_) (fun c => ?_)
    · replace h := h.2 (of_decide_eq_true c)
      refine w_st (i' := 1129) (ls' := [.ref 1000000, .ref 0, .ref 99, .ref 145, .int x4, .int v1, .int v2]) (st' := []) (E' := E2) (I' := I2) (J' := J2) (S' := S2) am_e291 rfl rfl rfl rfl ?_
      exact h
    · replace h := h.1 (Decidable.not_not.mp (of_decide_eq_false c))
      refine w_st (i' := 108) (ls' := [.ref 1000000, .ref 0, .ref 99, .ref 145, .int x4, .int v1, .int v2]) (st' := [.ref 145]) (E' := E2) (I' := I2) (J' := J2) (S' := S2) am_e291 rfl rfl rfl rfl ?_
      refine w_st (i' := 109) (ls' := [.ref 1000000, .ref 0, .ref 99, .ref 145, .int x4, .int v1, .int v2]) (st' := [.int (nI 0), .ref 145]) (E' := E2) (I' := I2) (J' := J2) (S' := S2) am_e291 rfl rfl rfl rfl ?_
      refine w_la (k := 145) (n := 1) (jn := 0) am_e291 rfl rfl (by decide) (vp_in_nI (by decide) (by decide)) rfl ?_
      show am_ww 291 110 [.ref 1000000, .ref 0, .ref 99, .ref 145, .int x4, .int v1, .int v2] [.long ((J2 145) 0)] E2 I2 J2 S2 _
      refine w_st (i' := 111) (ls' := [.ref 1000000, .ref 0, .ref 99, .ref 145, .int x4, .int v1, .int v2]) (st' := [.int v2, .long ((J2 145) 0)]) (E' := E2) (I' := I2) (J' := J2) (S' := S2) am_e291 rfl rfl rfl rfl ?_
      refine w_st (i' := 112) (ls' := [.ref 1000000, .ref 0, .ref 99, .ref 145, .int x4, .int v1, .int v2]) (st' := [.long v2.toInt64, .long ((J2 145) 0)]) (E' := E2) (I' := I2) (J' := J2) (S' := S2) am_e291 rfl rfl rfl rfl ?_
      refine w_st (i' := 113) (ls' := [.ref 1000000, .ref 0, .ref 99, .ref 145, .int x4, .int v1, .int v2]) (st' := [.int (lg_cmp ((J2 145) 0) v2.toInt64)]) (E' := E2) (I' := I2) (J' := J2) (S' := S2) am_e291 rfl rfl rfl rfl ?_
      refine w_if1 am_e291 rfl rfl (fun c => ?_) (fun c => ?_)
      · replace h := h.1 (of_decide_eq_true c)
        refine w_st (i' := 1129) (ls' := [.ref 1000000, .ref 0, .ref 99, .ref 145, .int x4, .int v1, .int v2]) (st' := []) (E' := E2) (I' := I2) (J' := J2) (S' := S2) am_e291 rfl rfl rfl rfl ?_
        exact h
      · replace h := h.2 (of_decide_eq_false c)
        refine w_st (i' := 115) (ls' := [.ref 1000000, .ref 0, .ref 99, .ref 145, .int x4, .int v1, .int v2]) (st' := [.int (nI 0)]) (E' := E2) (I' := I2) (J' := J2) (S' := S2) am_e291 rfl rfl rfl rfl ?_
        exact w_end am_e291 rfl rfl rfl h
  · replace h := h.2 (of_decide_eq_false c)
    refine w_st (i' := 104) (ls' := [.ref 1000000, .ref 0, .ref 99, .ref 145, .int x4, .int v1, .int v2]) (st' := [.int (nI 0)]) (E' := E2) (I' := I2) (J' := J2) (S' := S2) am_e291 rfl rfl rfl rfl ?_
    exact w_end am_e291 rfl rfl rfl h
set_option maxRecDepth 12000 in
theorem g291_117 {x4 : Int32} {d5 : Value} {d6 : Value} {E : am_Ev} {I : Nat → Nat → Int32} {J : Nat → Nat → Int64} {S : Nat → Nat → Option Nat} {Q : am_Qt} (hd5 : am_isL d5 = false) (hd6 : am_isL d6 = false) (h : am_cl 20 [.ref 0] E I J S (q_I fun v1 E1 I1 J1 S1 => am_cl 215 [.ref 99] E1 I1 J1 S1 (q_I fun v2 E2 I2 J2 S2 => (v1 = v2 → (am_ww 291 1129 [.ref 1000000, .ref 0, .ref 99, .ref 145, .int x4, d5, d6] [] E2 I2 J2 S2 Q)) ∧ (¬ v1 = v2 → (Q (.inl (some (.int (nI 0)))) E2 I2 J2 S2))))) : am_ww 291 117 [.ref 1000000, .ref 0, .ref 99, .ref 145, .int x4, d5, d6] [] E I J S Q := by
  refine w_st (i' := 118) (ls' := [.ref 1000000, .ref 0, .ref 99, .ref 145, .int x4, d5, d6]) (st' := [.ref 0]) (E' := E) (I' := I) (J' := J) (S' := S) am_e291 rfl rfl rfl rfl ?_
  refine w_cI am_e291 rfl rfl (as := [.ref 0]) (rest := []) rfl rfl (am_ww.mono h ?_)
  rintro _ E1 I1 J1 S1 ⟨v1, rfl, h⟩
  refine q_mkI ?_
  refine w_st (i' := 120) (ls' := [.ref 1000000, .ref 0, .ref 99, .ref 145, .int x4, d5, d6]) (st' := [.ref 99, .int v1]) (E' := E1) (I' := I1) (J' := J1) (S' := S1) am_e291 rfl rfl rfl rfl ?_
  refine w_cI am_e291 rfl rfl (as := [.ref 99]) (rest := [.int v1]) rfl rfl (am_ww.mono h ?_)
  rintro _ E2 I2 J2 S2 ⟨v2, rfl, h⟩
  refine q_mkI ?_
  refine w_if2 am_e291 rfl rfl (fun c => ?_) (fun c => ?_)
  · replace h := h.1 (of_decide_eq_true c)
    exact h
  · replace h := h.2 (of_decide_eq_false c)
    refine w_st (i' := 123) (ls' := [.ref 1000000, .ref 0, .ref 99, .ref 145, .int x4, d5, d6]) (st' := [.int (nI 0)]) (E' := E2) (I' := I2) (J' := J2) (S' := S2) am_e291 rfl rfl rfl rfl ?_
    exact w_end am_e291 rfl rfl rfl h
set_option maxRecDepth 12000 in
theorem g291_124 {x4 : Int32} {d5 : Value} {d6 : Value} {E : am_Ev} {I : Nat → Nat → Int32} {J : Nat → Nat → Int64} {S : Nat → Nat → Option Nat} {Q : am_Qt} (hd5 : am_isL d5 = false) (hd6 : am_isL d6 = false) (h : vp_in (x4 + (nI 1)) E.2.2.1 ∧ (am_cl 97 [.ref 0, .int (E.2.2.2 (x4 + (nI 1)).toNatClampNeg), .ref 145] E I J S (q_I fun v1 E1 I1 J1 S1 => vp_in (x4 + (nI 1)) E1.2.2.1 ∧ (am_cl 216 [.ref 99, .int (E1.2.2.2 (x4 + (nI 1)).toNatClampNeg)] E1 I1 J1 S1 (q_I fun v2 E2 I2 J2 S2 => (((I2 99) 3) = v1 → ((v1 = 0 → (((lg_cmp ((J2 145) 0) v2.toInt64) = 0 → (am_ww 291 1129 [.ref 1000000, .ref 0, .ref 99, .ref 145, .int x4, .int v1, .int v2] [] E2 I2 J2 S2 Q)) ∧ (¬ (lg_cmp ((J2 145) 0) v2.toInt64) = 0 → (Q (.inl (some (.int (nI 0)))) E2 I2 J2 S2)))) ∧ (¬ v1 = 0 → (am_ww 291 1129 [.ref 1000000, .ref 0, .ref 99, .ref 145, .int x4, .int v1, .int v2] [] E2 I2 J2 S2 Q)))) ∧ (¬ ((I2 99) 3) = v1 → (Q (.inl (some (.int (nI 0)))) E2 I2 J2 S2))))))) : am_ww 291 124 [.ref 1000000, .ref 0, .ref 99, .ref 145, .int x4, d5, d6] [] E I J S Q := by
  refine w_st (i' := 125) (ls' := [.ref 1000000, .ref 0, .ref 99, .ref 145, .int x4, d5, d6]) (st' := [.ref 0]) (E' := E) (I' := I) (J' := J) (S' := S) am_e291 rfl rfl rfl rfl ?_
  refine w_st (i' := 126) (ls' := [.ref 1000000, .ref 0, .ref 99, .ref 145, .int x4, d5, d6]) (st' := [.ref 1000000, .ref 0]) (E' := E) (I' := I) (J' := J) (S' := S) am_e291 rfl rfl rfl rfl ?_
  refine w_st (i' := 127) (ls' := [.ref 1000000, .ref 0, .ref 99, .ref 145, .int x4, d5, d6]) (st' := [.int x4, .ref 1000000, .ref 0]) (E' := E) (I' := I) (J' := J) (S' := S) am_e291 rfl rfl rfl rfl ?_
  refine w_st (i' := 128) (ls' := [.ref 1000000, .ref 0, .ref 99, .ref 145, .int x4, d5, d6]) (st' := [.int (nI 1), .int x4, .ref 1000000, .ref 0]) (E' := E) (I' := I) (J' := J) (S' := S) am_e291 rfl rfl rfl rfl ?_
  refine w_st (i' := 129) (ls' := [.ref 1000000, .ref 0, .ref 99, .ref 145, .int x4, d5, d6]) (st' := [.int (x4 + (nI 1)), .ref 1000000, .ref 0]) (E' := E) (I' := I) (J' := J) (S' := S) am_e291 rfl rfl rfl rfl ?_
  refine w_sa am_e291 rfl h.1 ?_
  replace h := h.2
  refine w_st (i' := 131) (ls' := [.ref 1000000, .ref 0, .ref 99, .ref 145, .int x4, d5, d6]) (st' := [.ref 145, .int (E.2.2.2 (x4 + (nI 1)).toNatClampNeg), .ref 0]) (E' := E) (I' := I) (J' := J) (S' := S) am_e291 rfl rfl rfl rfl ?_
  refine w_cI am_e291 rfl rfl (as := [.ref 0, .int (E.2.2.2 (x4 + (nI 1)).toNatClampNeg), .ref 145]) (rest := []) rfl rfl (am_ww.mono h ?_)
  rintro _ E1 I1 J1 S1 ⟨v1, rfl, h⟩
  refine q_mkI ?_
  refine w_st (i' := 133) (ls' := [.ref 1000000, .ref 0, .ref 99, .ref 145, .int x4, .int v1, d6]) (st' := []) (E' := E1) (I' := I1) (J' := J1) (S' := S1) am_e291 rfl rfl rfl rfl ?_
  refine w_st (i' := 134) (ls' := [.ref 1000000, .ref 0, .ref 99, .ref 145, .int x4, .int v1, d6]) (st' := [.ref 99]) (E' := E1) (I' := I1) (J' := J1) (S' := S1) am_e291 rfl rfl rfl rfl ?_
  refine w_st (i' := 135) (ls' := [.ref 1000000, .ref 0, .ref 99, .ref 145, .int x4, .int v1, d6]) (st' := [.ref 1000000, .ref 99]) (E' := E1) (I' := I1) (J' := J1) (S' := S1) am_e291 rfl rfl rfl rfl ?_
  refine w_st (i' := 136) (ls' := [.ref 1000000, .ref 0, .ref 99, .ref 145, .int x4, .int v1, d6]) (st' := [.int x4, .ref 1000000, .ref 99]) (E' := E1) (I' := I1) (J' := J1) (S' := S1) am_e291 rfl rfl rfl rfl ?_
  refine w_st (i' := 137) (ls' := [.ref 1000000, .ref 0, .ref 99, .ref 145, .int x4, .int v1, d6]) (st' := [.int (nI 1), .int x4, .ref 1000000, .ref 99]) (E' := E1) (I' := I1) (J' := J1) (S' := S1) am_e291 rfl rfl rfl rfl ?_
  refine w_st (i' := 138) (ls' := [.ref 1000000, .ref 0, .ref 99, .ref 145, .int x4, .int v1, d6]) (st' := [.int (x4 + (nI 1)), .ref 1000000, .ref 99]) (E' := E1) (I' := I1) (J' := J1) (S' := S1) am_e291 rfl rfl rfl rfl ?_
  refine w_sa am_e291 rfl h.1 ?_
  replace h := h.2
  refine w_cI am_e291 rfl rfl (as := [.ref 99, .int (E1.2.2.2 (x4 + (nI 1)).toNatClampNeg)]) (rest := []) rfl rfl (am_ww.mono h ?_)
  rintro _ E2 I2 J2 S2 ⟨v2, rfl, h⟩
  refine q_mkI ?_
  refine w_st (i' := 141) (ls' := [.ref 1000000, .ref 0, .ref 99, .ref 145, .int x4, .int v1, .int v2]) (st' := []) (E' := E2) (I' := I2) (J' := J2) (S' := S2) am_e291 rfl rfl rfl rfl ?_
  refine w_st (i' := 142) (ls' := [.ref 1000000, .ref 0, .ref 99, .ref 145, .int x4, .int v1, .int v2]) (st' := [.ref 99]) (E' := E2) (I' := I2) (J' := J2) (S' := S2) am_e291 rfl rfl rfl rfl ?_
  refine w_cI am_e291 rfl rfl (as := [.ref 99]) (rest := []) rfl rfl ?_
  show am_ww 186 0 [.ref 99] [] E2 I2 J2 S2 _
  refine w_st (i' := 1) (ls' := [.ref 99]) (st' := [.ref 99]) (E' := E2) (I' := I2) (J' := J2) (S' := S2) am_e186 rfl rfl rfl rfl ?_
  refine w_st (i' := 2) (ls' := [.ref 99]) (st' := [.int ((I2 99) 3)]) (E' := E2) (I' := I2) (J' := J2) (S' := S2) am_e186 rfl rfl rfl rfl ?_
  refine w_ri am_e186 rfl rfl (q_mkI ?_)
  show am_ww 291 143 [.ref 1000000, .ref 0, .ref 99, .ref 145, .int x4, .int v1, .int v2] [.int ((I2 99) 3)] E2 I2 J2 S2 _
  refine w_st (i' := 144) (ls' := [.ref 1000000, .ref 0, .ref 99, .ref 145, .int x4, .int v1, .int v2]) (st' := [.int v1, .int ((I2 99) 3)]) (E' := E2) (I' := I2) (J' := J2) (S' := S2) am_e291 rfl rfl rfl rfl ?_
  refine w_if2 am_e291 rfl rfl (fun c => ?_) (fun c => ?_)
  · replace h := h.1 (of_decide_eq_true c)
    refine w_st (i' := 148) (ls' := [.ref 1000000, .ref 0, .ref 99, .ref 145, .int x4, .int v1, .int v2]) (st' := [.int v1]) (E' := E2) (I' := I2) (J' := J2) (S' := S2) am_e291 rfl rfl rfl rfl ?_
    refine w_if1 am_e291 rfl rfl (fun c => ?_) (fun c => ?_)
    · replace h := h.2 (of_decide_eq_true c)
      refine w_st (i' := 1129) (ls' := [.ref 1000000, .ref 0, .ref 99, .ref 145, .int x4, .int v1, .int v2]) (st' := []) (E' := E2) (I' := I2) (J' := J2) (S' := S2) am_e291 rfl rfl rfl rfl ?_
      exact h
    · replace h := h.1 (Decidable.not_not.mp (of_decide_eq_false c))
      refine w_st (i' := 150) (ls' := [.ref 1000000, .ref 0, .ref 99, .ref 145, .int x4, .int v1, .int v2]) (st' := [.ref 145]) (E' := E2) (I' := I2) (J' := J2) (S' := S2) am_e291 rfl rfl rfl rfl ?_
      refine w_st (i' := 151) (ls' := [.ref 1000000, .ref 0, .ref 99, .ref 145, .int x4, .int v1, .int v2]) (st' := [.int (nI 0), .ref 145]) (E' := E2) (I' := I2) (J' := J2) (S' := S2) am_e291 rfl rfl rfl rfl ?_
      refine w_la (k := 145) (n := 1) (jn := 0) am_e291 rfl rfl (by decide) (vp_in_nI (by decide) (by decide)) rfl ?_
      show am_ww 291 152 [.ref 1000000, .ref 0, .ref 99, .ref 145, .int x4, .int v1, .int v2] [.long ((J2 145) 0)] E2 I2 J2 S2 _
      refine w_st (i' := 153) (ls' := [.ref 1000000, .ref 0, .ref 99, .ref 145, .int x4, .int v1, .int v2]) (st' := [.int v2, .long ((J2 145) 0)]) (E' := E2) (I' := I2) (J' := J2) (S' := S2) am_e291 rfl rfl rfl rfl ?_
      refine w_st (i' := 154) (ls' := [.ref 1000000, .ref 0, .ref 99, .ref 145, .int x4, .int v1, .int v2]) (st' := [.long v2.toInt64, .long ((J2 145) 0)]) (E' := E2) (I' := I2) (J' := J2) (S' := S2) am_e291 rfl rfl rfl rfl ?_
      refine w_st (i' := 155) (ls' := [.ref 1000000, .ref 0, .ref 99, .ref 145, .int x4, .int v1, .int v2]) (st' := [.int (lg_cmp ((J2 145) 0) v2.toInt64)]) (E' := E2) (I' := I2) (J' := J2) (S' := S2) am_e291 rfl rfl rfl rfl ?_
      refine w_if1 am_e291 rfl rfl (fun c => ?_) (fun c => ?_)
      · replace h := h.1 (of_decide_eq_true c)
        refine w_st (i' := 1129) (ls' := [.ref 1000000, .ref 0, .ref 99, .ref 145, .int x4, .int v1, .int v2]) (st' := []) (E' := E2) (I' := I2) (J' := J2) (S' := S2) am_e291 rfl rfl rfl rfl ?_
        exact h
      · replace h := h.2 (of_decide_eq_false c)
        refine w_st (i' := 157) (ls' := [.ref 1000000, .ref 0, .ref 99, .ref 145, .int x4, .int v1, .int v2]) (st' := [.int (nI 0)]) (E' := E2) (I' := I2) (J' := J2) (S' := S2) am_e291 rfl rfl rfl rfl ?_
        exact w_end am_e291 rfl rfl rfl h
  · replace h := h.2 (of_decide_eq_false c)
    refine w_st (i' := 146) (ls' := [.ref 1000000, .ref 0, .ref 99, .ref 145, .int x4, .int v1, .int v2]) (st' := [.int (nI 0)]) (E' := E2) (I' := I2) (J' := J2) (S' := S2) am_e291 rfl rfl rfl rfl ?_
    exact w_end am_e291 rfl rfl rfl h
set_option maxRecDepth 12000 in
theorem g291_159 {x4 : Int32} {d5 : Value} {d6 : Value} {E : am_Ev} {I : Nat → Nat → Int32} {J : Nat → Nat → Int64} {S : Nat → Nat → Option Nat} {Q : am_Qt} (hd5 : am_isL d5 = false) (hd6 : am_isL d6 = false) (h : vp_in (x4 + (nI 1)) E.2.2.1 ∧ (am_cl 109 [.ref 0, .int (E.2.2.2 (x4 + (nI 1)).toNatClampNeg), .ref 145] E I J S (q_I fun v1 E1 I1 J1 S1 => vp_in (x4 + (nI 1)) E1.2.2.1 ∧ (am_cl 231 [.ref 99, .int (E1.2.2.2 (x4 + (nI 1)).toNatClampNeg)] E1 I1 J1 S1 (q_I fun v2 E2 I2 J2 S2 => (((I2 99) 3) = v1 → ((v1 = 0 → (((lg_cmp ((J2 145) 0) v2.toInt64) = 0 → (am_ww 291 1129 [.ref 1000000, .ref 0, .ref 99, .ref 145, .int x4, .int v1, .int v2] [] E2 I2 J2 S2 Q)) ∧ (¬ (lg_cmp ((J2 145) 0) v2.toInt64) = 0 → (Q (.inl (some (.int (nI 0)))) E2 I2 J2 S2)))) ∧ (¬ v1 = 0 → (am_ww 291 1129 [.ref 1000000, .ref 0, .ref 99, .ref 145, .int x4, .int v1, .int v2] [] E2 I2 J2 S2 Q)))) ∧ (¬ ((I2 99) 3) = v1 → (Q (.inl (some (.int (nI 0)))) E2 I2 J2 S2))))))) : am_ww 291 159 [.ref 1000000, .ref 0, .ref 99, .ref 145, .int x4, d5, d6] [] E I J S Q := by
  refine w_st (i' := 160) (ls' := [.ref 1000000, .ref 0, .ref 99, .ref 145, .int x4, d5, d6]) (st' := [.ref 0]) (E' := E) (I' := I) (J' := J) (S' := S) am_e291 rfl rfl rfl rfl ?_
  refine w_st (i' := 161) (ls' := [.ref 1000000, .ref 0, .ref 99, .ref 145, .int x4, d5, d6]) (st' := [.ref 1000000, .ref 0]) (E' := E) (I' := I) (J' := J) (S' := S) am_e291 rfl rfl rfl rfl ?_
  refine w_st (i' := 162) (ls' := [.ref 1000000, .ref 0, .ref 99, .ref 145, .int x4, d5, d6]) (st' := [.int x4, .ref 1000000, .ref 0]) (E' := E) (I' := I) (J' := J) (S' := S) am_e291 rfl rfl rfl rfl ?_
  refine w_st (i' := 163) (ls' := [.ref 1000000, .ref 0, .ref 99, .ref 145, .int x4, d5, d6]) (st' := [.int (nI 1), .int x4, .ref 1000000, .ref 0]) (E' := E) (I' := I) (J' := J) (S' := S) am_e291 rfl rfl rfl rfl ?_
  refine w_st (i' := 164) (ls' := [.ref 1000000, .ref 0, .ref 99, .ref 145, .int x4, d5, d6]) (st' := [.int (x4 + (nI 1)), .ref 1000000, .ref 0]) (E' := E) (I' := I) (J' := J) (S' := S) am_e291 rfl rfl rfl rfl ?_
  refine w_sa am_e291 rfl h.1 ?_
  replace h := h.2
  refine w_st (i' := 166) (ls' := [.ref 1000000, .ref 0, .ref 99, .ref 145, .int x4, d5, d6]) (st' := [.ref 145, .int (E.2.2.2 (x4 + (nI 1)).toNatClampNeg), .ref 0]) (E' := E) (I' := I) (J' := J) (S' := S) am_e291 rfl rfl rfl rfl ?_
  refine w_cI am_e291 rfl rfl (as := [.ref 0, .int (E.2.2.2 (x4 + (nI 1)).toNatClampNeg), .ref 145]) (rest := []) rfl rfl (am_ww.mono h ?_)
  rintro _ E1 I1 J1 S1 ⟨v1, rfl, h⟩
  refine q_mkI ?_
  refine w_st (i' := 168) (ls' := [.ref 1000000, .ref 0, .ref 99, .ref 145, .int x4, .int v1, d6]) (st' := []) (E' := E1) (I' := I1) (J' := J1) (S' := S1) am_e291 rfl rfl rfl rfl ?_
  refine w_st (i' := 169) (ls' := [.ref 1000000, .ref 0, .ref 99, .ref 145, .int x4, .int v1, d6]) (st' := [.ref 99]) (E' := E1) (I' := I1) (J' := J1) (S' := S1) am_e291 rfl rfl rfl rfl ?_
  refine w_st (i' := 170) (ls' := [.ref 1000000, .ref 0, .ref 99, .ref 145, .int x4, .int v1, d6]) (st' := [.ref 1000000, .ref 99]) (E' := E1) (I' := I1) (J' := J1) (S' := S1) am_e291 rfl rfl rfl rfl ?_
  refine w_st (i' := 171) (ls' := [.ref 1000000, .ref 0, .ref 99, .ref 145, .int x4, .int v1, d6]) (st' := [.int x4, .ref 1000000, .ref 99]) (E' := E1) (I' := I1) (J' := J1) (S' := S1) am_e291 rfl rfl rfl rfl ?_
  refine w_st (i' := 172) (ls' := [.ref 1000000, .ref 0, .ref 99, .ref 145, .int x4, .int v1, d6]) (st' := [.int (nI 1), .int x4, .ref 1000000, .ref 99]) (E' := E1) (I' := I1) (J' := J1) (S' := S1) am_e291 rfl rfl rfl rfl ?_
  refine w_st (i' := 173) (ls' := [.ref 1000000, .ref 0, .ref 99, .ref 145, .int x4, .int v1, d6]) (st' := [.int (x4 + (nI 1)), .ref 1000000, .ref 99]) (E' := E1) (I' := I1) (J' := J1) (S' := S1) am_e291 rfl rfl rfl rfl ?_
  refine w_sa am_e291 rfl h.1 ?_
  replace h := h.2
  refine w_cI am_e291 rfl rfl (as := [.ref 99, .int (E1.2.2.2 (x4 + (nI 1)).toNatClampNeg)]) (rest := []) rfl rfl (am_ww.mono h ?_)
  rintro _ E2 I2 J2 S2 ⟨v2, rfl, h⟩
  refine q_mkI ?_
  refine w_st (i' := 176) (ls' := [.ref 1000000, .ref 0, .ref 99, .ref 145, .int x4, .int v1, .int v2]) (st' := []) (E' := E2) (I' := I2) (J' := J2) (S' := S2) am_e291 rfl rfl rfl rfl ?_
  refine w_st (i' := 177) (ls' := [.ref 1000000, .ref 0, .ref 99, .ref 145, .int x4, .int v1, .int v2]) (st' := [.ref 99]) (E' := E2) (I' := I2) (J' := J2) (S' := S2) am_e291 rfl rfl rfl rfl ?_
  refine w_cI am_e291 rfl rfl (as := [.ref 99]) (rest := []) rfl rfl ?_
  show am_ww 186 0 [.ref 99] [] E2 I2 J2 S2 _
  refine w_st (i' := 1) (ls' := [.ref 99]) (st' := [.ref 99]) (E' := E2) (I' := I2) (J' := J2) (S' := S2) am_e186 rfl rfl rfl rfl ?_
  refine w_st (i' := 2) (ls' := [.ref 99]) (st' := [.int ((I2 99) 3)]) (E' := E2) (I' := I2) (J' := J2) (S' := S2) am_e186 rfl rfl rfl rfl ?_
  refine w_ri am_e186 rfl rfl (q_mkI ?_)
  show am_ww 291 178 [.ref 1000000, .ref 0, .ref 99, .ref 145, .int x4, .int v1, .int v2] [.int ((I2 99) 3)] E2 I2 J2 S2 _
  refine w_st (i' := 179) (ls' := [.ref 1000000, .ref 0, .ref 99, .ref 145, .int x4, .int v1, .int v2]) (st' := [.int v1, .int ((I2 99) 3)]) (E' := E2) (I' := I2) (J' := J2) (S' := S2) am_e291 rfl rfl rfl rfl ?_
  refine w_if2 am_e291 rfl rfl (fun c => ?_) (fun c => ?_)
  · replace h := h.1 (of_decide_eq_true c)
    refine w_st (i' := 183) (ls' := [.ref 1000000, .ref 0, .ref 99, .ref 145, .int x4, .int v1, .int v2]) (st' := [.int v1]) (E' := E2) (I' := I2) (J' := J2) (S' := S2) am_e291 rfl rfl rfl rfl ?_
    refine w_if1 am_e291 rfl rfl (fun c => ?_) (fun c => ?_)
    · replace h := h.2 (of_decide_eq_true c)
      refine w_st (i' := 1129) (ls' := [.ref 1000000, .ref 0, .ref 99, .ref 145, .int x4, .int v1, .int v2]) (st' := []) (E' := E2) (I' := I2) (J' := J2) (S' := S2) am_e291 rfl rfl rfl rfl ?_
      exact h
    · replace h := h.1 (Decidable.not_not.mp (of_decide_eq_false c))
      refine w_st (i' := 185) (ls' := [.ref 1000000, .ref 0, .ref 99, .ref 145, .int x4, .int v1, .int v2]) (st' := [.ref 145]) (E' := E2) (I' := I2) (J' := J2) (S' := S2) am_e291 rfl rfl rfl rfl ?_
      refine w_st (i' := 186) (ls' := [.ref 1000000, .ref 0, .ref 99, .ref 145, .int x4, .int v1, .int v2]) (st' := [.int (nI 0), .ref 145]) (E' := E2) (I' := I2) (J' := J2) (S' := S2) am_e291 rfl rfl rfl rfl ?_
      refine w_la (k := 145) (n := 1) (jn := 0) am_e291 rfl rfl (by decide) (vp_in_nI (by decide) (by decide)) rfl ?_
      show am_ww 291 187 [.ref 1000000, .ref 0, .ref 99, .ref 145, .int x4, .int v1, .int v2] [.long ((J2 145) 0)] E2 I2 J2 S2 _
      refine w_st (i' := 188) (ls' := [.ref 1000000, .ref 0, .ref 99, .ref 145, .int x4, .int v1, .int v2]) (st' := [.int v2, .long ((J2 145) 0)]) (E' := E2) (I' := I2) (J' := J2) (S' := S2) am_e291 rfl rfl rfl rfl ?_
      refine w_st (i' := 189) (ls' := [.ref 1000000, .ref 0, .ref 99, .ref 145, .int x4, .int v1, .int v2]) (st' := [.long v2.toInt64, .long ((J2 145) 0)]) (E' := E2) (I' := I2) (J' := J2) (S' := S2) am_e291 rfl rfl rfl rfl ?_
      refine w_st (i' := 190) (ls' := [.ref 1000000, .ref 0, .ref 99, .ref 145, .int x4, .int v1, .int v2]) (st' := [.int (lg_cmp ((J2 145) 0) v2.toInt64)]) (E' := E2) (I' := I2) (J' := J2) (S' := S2) am_e291 rfl rfl rfl rfl ?_
      refine w_if1 am_e291 rfl rfl (fun c => ?_) (fun c => ?_)
      · replace h := h.1 (of_decide_eq_true c)
        refine w_st (i' := 1129) (ls' := [.ref 1000000, .ref 0, .ref 99, .ref 145, .int x4, .int v1, .int v2]) (st' := []) (E' := E2) (I' := I2) (J' := J2) (S' := S2) am_e291 rfl rfl rfl rfl ?_
        exact h
      · replace h := h.2 (of_decide_eq_false c)
        refine w_st (i' := 192) (ls' := [.ref 1000000, .ref 0, .ref 99, .ref 145, .int x4, .int v1, .int v2]) (st' := [.int (nI 0)]) (E' := E2) (I' := I2) (J' := J2) (S' := S2) am_e291 rfl rfl rfl rfl ?_
        exact w_end am_e291 rfl rfl rfl h
  · replace h := h.2 (of_decide_eq_false c)
    refine w_st (i' := 181) (ls' := [.ref 1000000, .ref 0, .ref 99, .ref 145, .int x4, .int v1, .int v2]) (st' := [.int (nI 0)]) (E' := E2) (I' := I2) (J' := J2) (S' := S2) am_e291 rfl rfl rfl rfl ?_
    exact w_end am_e291 rfl rfl rfl h
set_option maxRecDepth 12000 in
theorem g291_194 {x4 : Int32} {d5 : Value} {d6 : Value} {E : am_Ev} {I : Nat → Nat → Int32} {J : Nat → Nat → Int64} {S : Nat → Nat → Option Nat} {Q : am_Qt} (hd5 : am_isL d5 = false) (hd6 : am_isL d6 = false) (h : vp_in (x4 + (nI 1)) E.2.2.1 ∧ (am_cl 21 [.ref 0, .int (E.2.2.2 (x4 + (nI 1)).toNatClampNeg)] E I J S (q_I fun v1 E1 I1 J1 S1 => vp_in (x4 + (nI 1)) E1.2.2.1 ∧ (am_cl 233 [.ref 99, .int (E1.2.2.2 (x4 + (nI 1)).toNatClampNeg)] E1 I1 J1 S1 (q_I fun v2 E2 I2 J2 S2 => (v1 = v2 → (am_ww 291 1129 [.ref 1000000, .ref 0, .ref 99, .ref 145, .int x4, d5, d6] [] E2 I2 J2 S2 Q)) ∧ (¬ v1 = v2 → (Q (.inl (some (.int (nI 0)))) E2 I2 J2 S2))))))) : am_ww 291 194 [.ref 1000000, .ref 0, .ref 99, .ref 145, .int x4, d5, d6] [] E I J S Q := by
  refine w_st (i' := 195) (ls' := [.ref 1000000, .ref 0, .ref 99, .ref 145, .int x4, d5, d6]) (st' := [.ref 0]) (E' := E) (I' := I) (J' := J) (S' := S) am_e291 rfl rfl rfl rfl ?_
  refine w_st (i' := 196) (ls' := [.ref 1000000, .ref 0, .ref 99, .ref 145, .int x4, d5, d6]) (st' := [.ref 1000000, .ref 0]) (E' := E) (I' := I) (J' := J) (S' := S) am_e291 rfl rfl rfl rfl ?_
  refine w_st (i' := 197) (ls' := [.ref 1000000, .ref 0, .ref 99, .ref 145, .int x4, d5, d6]) (st' := [.int x4, .ref 1000000, .ref 0]) (E' := E) (I' := I) (J' := J) (S' := S) am_e291 rfl rfl rfl rfl ?_
  refine w_st (i' := 198) (ls' := [.ref 1000000, .ref 0, .ref 99, .ref 145, .int x4, d5, d6]) (st' := [.int (nI 1), .int x4, .ref 1000000, .ref 0]) (E' := E) (I' := I) (J' := J) (S' := S) am_e291 rfl rfl rfl rfl ?_
  refine w_st (i' := 199) (ls' := [.ref 1000000, .ref 0, .ref 99, .ref 145, .int x4, d5, d6]) (st' := [.int (x4 + (nI 1)), .ref 1000000, .ref 0]) (E' := E) (I' := I) (J' := J) (S' := S) am_e291 rfl rfl rfl rfl ?_
  refine w_sa am_e291 rfl h.1 ?_
  replace h := h.2
  refine w_cI am_e291 rfl rfl (as := [.ref 0, .int (E.2.2.2 (x4 + (nI 1)).toNatClampNeg)]) (rest := []) rfl rfl (am_ww.mono h ?_)
  rintro _ E1 I1 J1 S1 ⟨v1, rfl, h⟩
  refine q_mkI ?_
  refine w_st (i' := 202) (ls' := [.ref 1000000, .ref 0, .ref 99, .ref 145, .int x4, d5, d6]) (st' := [.ref 99, .int v1]) (E' := E1) (I' := I1) (J' := J1) (S' := S1) am_e291 rfl rfl rfl rfl ?_
  refine w_st (i' := 203) (ls' := [.ref 1000000, .ref 0, .ref 99, .ref 145, .int x4, d5, d6]) (st' := [.ref 1000000, .ref 99, .int v1]) (E' := E1) (I' := I1) (J' := J1) (S' := S1) am_e291 rfl rfl rfl rfl ?_
  refine w_st (i' := 204) (ls' := [.ref 1000000, .ref 0, .ref 99, .ref 145, .int x4, d5, d6]) (st' := [.int x4, .ref 1000000, .ref 99, .int v1]) (E' := E1) (I' := I1) (J' := J1) (S' := S1) am_e291 rfl rfl rfl rfl ?_
  refine w_st (i' := 205) (ls' := [.ref 1000000, .ref 0, .ref 99, .ref 145, .int x4, d5, d6]) (st' := [.int (nI 1), .int x4, .ref 1000000, .ref 99, .int v1]) (E' := E1) (I' := I1) (J' := J1) (S' := S1) am_e291 rfl rfl rfl rfl ?_
  refine w_st (i' := 206) (ls' := [.ref 1000000, .ref 0, .ref 99, .ref 145, .int x4, d5, d6]) (st' := [.int (x4 + (nI 1)), .ref 1000000, .ref 99, .int v1]) (E' := E1) (I' := I1) (J' := J1) (S' := S1) am_e291 rfl rfl rfl rfl ?_
  refine w_sa am_e291 rfl h.1 ?_
  replace h := h.2
  refine w_cI am_e291 rfl rfl (as := [.ref 99, .int (E1.2.2.2 (x4 + (nI 1)).toNatClampNeg)]) (rest := [.int v1]) rfl rfl (am_ww.mono h ?_)
  rintro _ E2 I2 J2 S2 ⟨v2, rfl, h⟩
  refine q_mkI ?_
  refine w_if2 am_e291 rfl rfl (fun c => ?_) (fun c => ?_)
  · replace h := h.1 (of_decide_eq_true c)
    exact h
  · replace h := h.2 (of_decide_eq_false c)
    refine w_st (i' := 210) (ls' := [.ref 1000000, .ref 0, .ref 99, .ref 145, .int x4, d5, d6]) (st' := [.int (nI 0)]) (E' := E2) (I' := I2) (J' := J2) (S' := S2) am_e291 rfl rfl rfl rfl ?_
    exact w_end am_e291 rfl rfl rfl h
set_option maxRecDepth 12000 in
theorem g291_211 {x4 : Int32} {d5 : Value} {d6 : Value} {E : am_Ev} {I : Nat → Nat → Int32} {J : Nat → Nat → Int64} {S : Nat → Nat → Option Nat} {Q : am_Qt} (hd5 : am_isL d5 = false) (hd6 : am_isL d6 = false) (h : vp_in (x4 + (nI 1)) E.2.2.1 ∧ (vp_in (x4 + (nI 2)) E.2.2.1 ∧ (am_cl 42 [.ref 0, .int (E.2.2.2 (x4 + (nI 1)).toNatClampNeg), .int (E.2.2.2 (x4 + (nI 2)).toNatClampNeg)] E I J S (q_I fun v1 E1 I1 J1 S1 => vp_in (x4 + (nI 1)) E1.2.2.1 ∧ (vp_in (x4 + (nI 2)) E1.2.2.1 ∧ (am_cl 242 [.ref 99, .int (E1.2.2.2 (x4 + (nI 1)).toNatClampNeg), .int (E1.2.2.2 (x4 + (nI 2)).toNatClampNeg)] E1 I1 J1 S1 (q_I fun v2 E2 I2 J2 S2 => (v1 = v2 → (am_ww 291 1129 [.ref 1000000, .ref 0, .ref 99, .ref 145, .int x4, d5, d6] [] E2 I2 J2 S2 Q)) ∧ (¬ v1 = v2 → (Q (.inl (some (.int (nI 0)))) E2 I2 J2 S2))))))))) : am_ww 291 211 [.ref 1000000, .ref 0, .ref 99, .ref 145, .int x4, d5, d6] [] E I J S Q := by
  refine w_st (i' := 212) (ls' := [.ref 1000000, .ref 0, .ref 99, .ref 145, .int x4, d5, d6]) (st' := [.ref 0]) (E' := E) (I' := I) (J' := J) (S' := S) am_e291 rfl rfl rfl rfl ?_
  refine w_st (i' := 213) (ls' := [.ref 1000000, .ref 0, .ref 99, .ref 145, .int x4, d5, d6]) (st' := [.ref 1000000, .ref 0]) (E' := E) (I' := I) (J' := J) (S' := S) am_e291 rfl rfl rfl rfl ?_
  refine w_st (i' := 214) (ls' := [.ref 1000000, .ref 0, .ref 99, .ref 145, .int x4, d5, d6]) (st' := [.int x4, .ref 1000000, .ref 0]) (E' := E) (I' := I) (J' := J) (S' := S) am_e291 rfl rfl rfl rfl ?_
  refine w_st (i' := 215) (ls' := [.ref 1000000, .ref 0, .ref 99, .ref 145, .int x4, d5, d6]) (st' := [.int (nI 1), .int x4, .ref 1000000, .ref 0]) (E' := E) (I' := I) (J' := J) (S' := S) am_e291 rfl rfl rfl rfl ?_
  refine w_st (i' := 216) (ls' := [.ref 1000000, .ref 0, .ref 99, .ref 145, .int x4, d5, d6]) (st' := [.int (x4 + (nI 1)), .ref 1000000, .ref 0]) (E' := E) (I' := I) (J' := J) (S' := S) am_e291 rfl rfl rfl rfl ?_
  refine w_sa am_e291 rfl h.1 ?_
  replace h := h.2
  refine w_st (i' := 218) (ls' := [.ref 1000000, .ref 0, .ref 99, .ref 145, .int x4, d5, d6]) (st' := [.ref 1000000, .int (E.2.2.2 (x4 + (nI 1)).toNatClampNeg), .ref 0]) (E' := E) (I' := I) (J' := J) (S' := S) am_e291 rfl rfl rfl rfl ?_
  refine w_st (i' := 219) (ls' := [.ref 1000000, .ref 0, .ref 99, .ref 145, .int x4, d5, d6]) (st' := [.int x4, .ref 1000000, .int (E.2.2.2 (x4 + (nI 1)).toNatClampNeg), .ref 0]) (E' := E) (I' := I) (J' := J) (S' := S) am_e291 rfl rfl rfl rfl ?_
  refine w_st (i' := 220) (ls' := [.ref 1000000, .ref 0, .ref 99, .ref 145, .int x4, d5, d6]) (st' := [.int (nI 2), .int x4, .ref 1000000, .int (E.2.2.2 (x4 + (nI 1)).toNatClampNeg), .ref 0]) (E' := E) (I' := I) (J' := J) (S' := S) am_e291 rfl rfl rfl rfl ?_
  refine w_st (i' := 221) (ls' := [.ref 1000000, .ref 0, .ref 99, .ref 145, .int x4, d5, d6]) (st' := [.int (x4 + (nI 2)), .ref 1000000, .int (E.2.2.2 (x4 + (nI 1)).toNatClampNeg), .ref 0]) (E' := E) (I' := I) (J' := J) (S' := S) am_e291 rfl rfl rfl rfl ?_
  refine w_sa am_e291 rfl h.1 ?_
  replace h := h.2
  refine w_cI am_e291 rfl rfl (as := [.ref 0, .int (E.2.2.2 (x4 + (nI 1)).toNatClampNeg), .int (E.2.2.2 (x4 + (nI 2)).toNatClampNeg)]) (rest := []) rfl rfl (am_ww.mono h ?_)
  rintro _ E1 I1 J1 S1 ⟨v1, rfl, h⟩
  refine q_mkI ?_
  refine w_st (i' := 224) (ls' := [.ref 1000000, .ref 0, .ref 99, .ref 145, .int x4, d5, d6]) (st' := [.ref 99, .int v1]) (E' := E1) (I' := I1) (J' := J1) (S' := S1) am_e291 rfl rfl rfl rfl ?_
  refine w_st (i' := 225) (ls' := [.ref 1000000, .ref 0, .ref 99, .ref 145, .int x4, d5, d6]) (st' := [.ref 1000000, .ref 99, .int v1]) (E' := E1) (I' := I1) (J' := J1) (S' := S1) am_e291 rfl rfl rfl rfl ?_
  refine w_st (i' := 226) (ls' := [.ref 1000000, .ref 0, .ref 99, .ref 145, .int x4, d5, d6]) (st' := [.int x4, .ref 1000000, .ref 99, .int v1]) (E' := E1) (I' := I1) (J' := J1) (S' := S1) am_e291 rfl rfl rfl rfl ?_
  refine w_st (i' := 227) (ls' := [.ref 1000000, .ref 0, .ref 99, .ref 145, .int x4, d5, d6]) (st' := [.int (nI 1), .int x4, .ref 1000000, .ref 99, .int v1]) (E' := E1) (I' := I1) (J' := J1) (S' := S1) am_e291 rfl rfl rfl rfl ?_
  refine w_st (i' := 228) (ls' := [.ref 1000000, .ref 0, .ref 99, .ref 145, .int x4, d5, d6]) (st' := [.int (x4 + (nI 1)), .ref 1000000, .ref 99, .int v1]) (E' := E1) (I' := I1) (J' := J1) (S' := S1) am_e291 rfl rfl rfl rfl ?_
  refine w_sa am_e291 rfl h.1 ?_
  replace h := h.2
  refine w_st (i' := 230) (ls' := [.ref 1000000, .ref 0, .ref 99, .ref 145, .int x4, d5, d6]) (st' := [.ref 1000000, .int (E1.2.2.2 (x4 + (nI 1)).toNatClampNeg), .ref 99, .int v1]) (E' := E1) (I' := I1) (J' := J1) (S' := S1) am_e291 rfl rfl rfl rfl ?_
  refine w_st (i' := 231) (ls' := [.ref 1000000, .ref 0, .ref 99, .ref 145, .int x4, d5, d6]) (st' := [.int x4, .ref 1000000, .int (E1.2.2.2 (x4 + (nI 1)).toNatClampNeg), .ref 99, .int v1]) (E' := E1) (I' := I1) (J' := J1) (S' := S1) am_e291 rfl rfl rfl rfl ?_
  refine w_st (i' := 232) (ls' := [.ref 1000000, .ref 0, .ref 99, .ref 145, .int x4, d5, d6]) (st' := [.int (nI 2), .int x4, .ref 1000000, .int (E1.2.2.2 (x4 + (nI 1)).toNatClampNeg), .ref 99, .int v1]) (E' := E1) (I' := I1) (J' := J1) (S' := S1) am_e291 rfl rfl rfl rfl ?_
  refine w_st (i' := 233) (ls' := [.ref 1000000, .ref 0, .ref 99, .ref 145, .int x4, d5, d6]) (st' := [.int (x4 + (nI 2)), .ref 1000000, .int (E1.2.2.2 (x4 + (nI 1)).toNatClampNeg), .ref 99, .int v1]) (E' := E1) (I' := I1) (J' := J1) (S' := S1) am_e291 rfl rfl rfl rfl ?_
  refine w_sa am_e291 rfl h.1 ?_
  replace h := h.2
  refine w_cI am_e291 rfl rfl (as := [.ref 99, .int (E1.2.2.2 (x4 + (nI 1)).toNatClampNeg), .int (E1.2.2.2 (x4 + (nI 2)).toNatClampNeg)]) (rest := [.int v1]) rfl rfl (am_ww.mono h ?_)
  rintro _ E2 I2 J2 S2 ⟨v2, rfl, h⟩
  refine q_mkI ?_
  refine w_if2 am_e291 rfl rfl (fun c => ?_) (fun c => ?_)
  · replace h := h.1 (of_decide_eq_true c)
    exact h
  · replace h := h.2 (of_decide_eq_false c)
    refine w_st (i' := 237) (ls' := [.ref 1000000, .ref 0, .ref 99, .ref 145, .int x4, d5, d6]) (st' := [.int (nI 0)]) (E' := E2) (I' := I2) (J' := J2) (S' := S2) am_e291 rfl rfl rfl rfl ?_
    exact w_end am_e291 rfl rfl rfl h
set_option maxRecDepth 12000 in
theorem g291_238 {x4 : Int32} {d5 : Value} {d6 : Value} {E : am_Ev} {I : Nat → Nat → Int32} {J : Nat → Nat → Int64} {S : Nat → Nat → Option Nat} {Q : am_Qt} (hd5 : am_isL d5 = false) (hd6 : am_isL d6 = false) (h : am_cl 44 [.ref 0] E I J S (q_I fun v1 E1 I1 J1 S1 => am_cl 243 [.ref 99] E1 I1 J1 S1 (q_I fun v2 E2 I2 J2 S2 => (v1 = v2 → (am_ww 291 1129 [.ref 1000000, .ref 0, .ref 99, .ref 145, .int x4, d5, d6] [] E2 I2 J2 S2 Q)) ∧ (¬ v1 = v2 → (Q (.inl (some (.int (nI 0)))) E2 I2 J2 S2))))) : am_ww 291 238 [.ref 1000000, .ref 0, .ref 99, .ref 145, .int x4, d5, d6] [] E I J S Q := by
  refine w_st (i' := 239) (ls' := [.ref 1000000, .ref 0, .ref 99, .ref 145, .int x4, d5, d6]) (st' := [.ref 0]) (E' := E) (I' := I) (J' := J) (S' := S) am_e291 rfl rfl rfl rfl ?_
  refine w_cI am_e291 rfl rfl (as := [.ref 0]) (rest := []) rfl rfl (am_ww.mono h ?_)
  rintro _ E1 I1 J1 S1 ⟨v1, rfl, h⟩
  refine q_mkI ?_
  refine w_st (i' := 241) (ls' := [.ref 1000000, .ref 0, .ref 99, .ref 145, .int x4, d5, d6]) (st' := [.ref 99, .int v1]) (E' := E1) (I' := I1) (J' := J1) (S' := S1) am_e291 rfl rfl rfl rfl ?_
  refine w_cI am_e291 rfl rfl (as := [.ref 99]) (rest := [.int v1]) rfl rfl (am_ww.mono h ?_)
  rintro _ E2 I2 J2 S2 ⟨v2, rfl, h⟩
  refine q_mkI ?_
  refine w_if2 am_e291 rfl rfl (fun c => ?_) (fun c => ?_)
  · replace h := h.1 (of_decide_eq_true c)
    exact h
  · replace h := h.2 (of_decide_eq_false c)
    refine w_st (i' := 244) (ls' := [.ref 1000000, .ref 0, .ref 99, .ref 145, .int x4, d5, d6]) (st' := [.int (nI 0)]) (E' := E2) (I' := I2) (J' := J2) (S' := S2) am_e291 rfl rfl rfl rfl ?_
    exact w_end am_e291 rfl rfl rfl h
set_option maxRecDepth 12000 in
theorem g291_245 {x4 : Int32} {d5 : Value} {d6 : Value} {E : am_Ev} {I : Nat → Nat → Int32} {J : Nat → Nat → Int64} {S : Nat → Nat → Option Nat} {Q : am_Qt} (hd5 : am_isL d5 = false) (hd6 : am_isL d6 = false) (h : vp_in (x4 + (nI 1)) E.2.2.1 ∧ (vp_in (x4 + (nI 2)) E.2.2.1 ∧ (am_cl 111 [.ref 0, .int (E.2.2.2 (x4 + (nI 1)).toNatClampNeg), .int (E.2.2.2 (x4 + (nI 2)).toNatClampNeg), .ref 145] E I J S (q_I fun v1 E1 I1 J1 S1 => vp_in (x4 + (nI 1)) E1.2.2.1 ∧ (vp_in (x4 + (nI 2)) E1.2.2.1 ∧ (am_cl 244 [.ref 99, .int (E1.2.2.2 (x4 + (nI 1)).toNatClampNeg), .int (E1.2.2.2 (x4 + (nI 2)).toNatClampNeg)] E1 I1 J1 S1 (q_I fun v2 E2 I2 J2 S2 => (((I2 99) 3) = v1 → ((v1 = 0 → (((lg_cmp ((J2 145) 0) v2.toInt64) = 0 → (am_ww 291 1129 [.ref 1000000, .ref 0, .ref 99, .ref 145, .int x4, .int v1, .int v2] [] E2 I2 J2 S2 Q)) ∧ (¬ (lg_cmp ((J2 145) 0) v2.toInt64) = 0 → (Q (.inl (some (.int (nI 0)))) E2 I2 J2 S2)))) ∧ (¬ v1 = 0 → (am_ww 291 1129 [.ref 1000000, .ref 0, .ref 99, .ref 145, .int x4, .int v1, .int v2] [] E2 I2 J2 S2 Q)))) ∧ (¬ ((I2 99) 3) = v1 → (Q (.inl (some (.int (nI 0)))) E2 I2 J2 S2))))))))) : am_ww 291 245 [.ref 1000000, .ref 0, .ref 99, .ref 145, .int x4, d5, d6] [] E I J S Q := by
  refine w_st (i' := 246) (ls' := [.ref 1000000, .ref 0, .ref 99, .ref 145, .int x4, d5, d6]) (st' := [.ref 0]) (E' := E) (I' := I) (J' := J) (S' := S) am_e291 rfl rfl rfl rfl ?_
  refine w_st (i' := 247) (ls' := [.ref 1000000, .ref 0, .ref 99, .ref 145, .int x4, d5, d6]) (st' := [.ref 1000000, .ref 0]) (E' := E) (I' := I) (J' := J) (S' := S) am_e291 rfl rfl rfl rfl ?_
  refine w_st (i' := 248) (ls' := [.ref 1000000, .ref 0, .ref 99, .ref 145, .int x4, d5, d6]) (st' := [.int x4, .ref 1000000, .ref 0]) (E' := E) (I' := I) (J' := J) (S' := S) am_e291 rfl rfl rfl rfl ?_
  refine w_st (i' := 249) (ls' := [.ref 1000000, .ref 0, .ref 99, .ref 145, .int x4, d5, d6]) (st' := [.int (nI 1), .int x4, .ref 1000000, .ref 0]) (E' := E) (I' := I) (J' := J) (S' := S) am_e291 rfl rfl rfl rfl ?_
  refine w_st (i' := 250) (ls' := [.ref 1000000, .ref 0, .ref 99, .ref 145, .int x4, d5, d6]) (st' := [.int (x4 + (nI 1)), .ref 1000000, .ref 0]) (E' := E) (I' := I) (J' := J) (S' := S) am_e291 rfl rfl rfl rfl ?_
  refine w_sa am_e291 rfl h.1 ?_
  replace h := h.2
  refine w_st (i' := 252) (ls' := [.ref 1000000, .ref 0, .ref 99, .ref 145, .int x4, d5, d6]) (st' := [.ref 1000000, .int (E.2.2.2 (x4 + (nI 1)).toNatClampNeg), .ref 0]) (E' := E) (I' := I) (J' := J) (S' := S) am_e291 rfl rfl rfl rfl ?_
  refine w_st (i' := 253) (ls' := [.ref 1000000, .ref 0, .ref 99, .ref 145, .int x4, d5, d6]) (st' := [.int x4, .ref 1000000, .int (E.2.2.2 (x4 + (nI 1)).toNatClampNeg), .ref 0]) (E' := E) (I' := I) (J' := J) (S' := S) am_e291 rfl rfl rfl rfl ?_
  refine w_st (i' := 254) (ls' := [.ref 1000000, .ref 0, .ref 99, .ref 145, .int x4, d5, d6]) (st' := [.int (nI 2), .int x4, .ref 1000000, .int (E.2.2.2 (x4 + (nI 1)).toNatClampNeg), .ref 0]) (E' := E) (I' := I) (J' := J) (S' := S) am_e291 rfl rfl rfl rfl ?_
  refine w_st (i' := 255) (ls' := [.ref 1000000, .ref 0, .ref 99, .ref 145, .int x4, d5, d6]) (st' := [.int (x4 + (nI 2)), .ref 1000000, .int (E.2.2.2 (x4 + (nI 1)).toNatClampNeg), .ref 0]) (E' := E) (I' := I) (J' := J) (S' := S) am_e291 rfl rfl rfl rfl ?_
  refine w_sa am_e291 rfl h.1 ?_
  replace h := h.2
  refine w_st (i' := 257) (ls' := [.ref 1000000, .ref 0, .ref 99, .ref 145, .int x4, d5, d6]) (st' := [.ref 145, .int (E.2.2.2 (x4 + (nI 2)).toNatClampNeg), .int (E.2.2.2 (x4 + (nI 1)).toNatClampNeg), .ref 0]) (E' := E) (I' := I) (J' := J) (S' := S) am_e291 rfl rfl rfl rfl ?_
  refine w_cI am_e291 rfl rfl (as := [.ref 0, .int (E.2.2.2 (x4 + (nI 1)).toNatClampNeg), .int (E.2.2.2 (x4 + (nI 2)).toNatClampNeg), .ref 145]) (rest := []) rfl rfl (am_ww.mono h ?_)
  rintro _ E1 I1 J1 S1 ⟨v1, rfl, h⟩
  refine q_mkI ?_
  refine w_st (i' := 259) (ls' := [.ref 1000000, .ref 0, .ref 99, .ref 145, .int x4, .int v1, d6]) (st' := []) (E' := E1) (I' := I1) (J' := J1) (S' := S1) am_e291 rfl rfl rfl rfl ?_
  refine w_st (i' := 260) (ls' := [.ref 1000000, .ref 0, .ref 99, .ref 145, .int x4, .int v1, d6]) (st' := [.ref 99]) (E' := E1) (I' := I1) (J' := J1) (S' := S1) am_e291 rfl rfl rfl rfl ?_
  refine w_st (i' := 261) (ls' := [.ref 1000000, .ref 0, .ref 99, .ref 145, .int x4, .int v1, d6]) (st' := [.ref 1000000, .ref 99]) (E' := E1) (I' := I1) (J' := J1) (S' := S1) am_e291 rfl rfl rfl rfl ?_
  refine w_st (i' := 262) (ls' := [.ref 1000000, .ref 0, .ref 99, .ref 145, .int x4, .int v1, d6]) (st' := [.int x4, .ref 1000000, .ref 99]) (E' := E1) (I' := I1) (J' := J1) (S' := S1) am_e291 rfl rfl rfl rfl ?_
  refine w_st (i' := 263) (ls' := [.ref 1000000, .ref 0, .ref 99, .ref 145, .int x4, .int v1, d6]) (st' := [.int (nI 1), .int x4, .ref 1000000, .ref 99]) (E' := E1) (I' := I1) (J' := J1) (S' := S1) am_e291 rfl rfl rfl rfl ?_
  refine w_st (i' := 264) (ls' := [.ref 1000000, .ref 0, .ref 99, .ref 145, .int x4, .int v1, d6]) (st' := [.int (x4 + (nI 1)), .ref 1000000, .ref 99]) (E' := E1) (I' := I1) (J' := J1) (S' := S1) am_e291 rfl rfl rfl rfl ?_
  refine w_sa am_e291 rfl h.1 ?_
  replace h := h.2
  refine w_st (i' := 266) (ls' := [.ref 1000000, .ref 0, .ref 99, .ref 145, .int x4, .int v1, d6]) (st' := [.ref 1000000, .int (E1.2.2.2 (x4 + (nI 1)).toNatClampNeg), .ref 99]) (E' := E1) (I' := I1) (J' := J1) (S' := S1) am_e291 rfl rfl rfl rfl ?_
  refine w_st (i' := 267) (ls' := [.ref 1000000, .ref 0, .ref 99, .ref 145, .int x4, .int v1, d6]) (st' := [.int x4, .ref 1000000, .int (E1.2.2.2 (x4 + (nI 1)).toNatClampNeg), .ref 99]) (E' := E1) (I' := I1) (J' := J1) (S' := S1) am_e291 rfl rfl rfl rfl ?_
  refine w_st (i' := 268) (ls' := [.ref 1000000, .ref 0, .ref 99, .ref 145, .int x4, .int v1, d6]) (st' := [.int (nI 2), .int x4, .ref 1000000, .int (E1.2.2.2 (x4 + (nI 1)).toNatClampNeg), .ref 99]) (E' := E1) (I' := I1) (J' := J1) (S' := S1) am_e291 rfl rfl rfl rfl ?_
  refine w_st (i' := 269) (ls' := [.ref 1000000, .ref 0, .ref 99, .ref 145, .int x4, .int v1, d6]) (st' := [.int (x4 + (nI 2)), .ref 1000000, .int (E1.2.2.2 (x4 + (nI 1)).toNatClampNeg), .ref 99]) (E' := E1) (I' := I1) (J' := J1) (S' := S1) am_e291 rfl rfl rfl rfl ?_
  refine w_sa am_e291 rfl h.1 ?_
  replace h := h.2
  refine w_cI am_e291 rfl rfl (as := [.ref 99, .int (E1.2.2.2 (x4 + (nI 1)).toNatClampNeg), .int (E1.2.2.2 (x4 + (nI 2)).toNatClampNeg)]) (rest := []) rfl rfl (am_ww.mono h ?_)
  rintro _ E2 I2 J2 S2 ⟨v2, rfl, h⟩
  refine q_mkI ?_
  refine w_st (i' := 272) (ls' := [.ref 1000000, .ref 0, .ref 99, .ref 145, .int x4, .int v1, .int v2]) (st' := []) (E' := E2) (I' := I2) (J' := J2) (S' := S2) am_e291 rfl rfl rfl rfl ?_
  refine w_st (i' := 273) (ls' := [.ref 1000000, .ref 0, .ref 99, .ref 145, .int x4, .int v1, .int v2]) (st' := [.ref 99]) (E' := E2) (I' := I2) (J' := J2) (S' := S2) am_e291 rfl rfl rfl rfl ?_
  refine w_cI am_e291 rfl rfl (as := [.ref 99]) (rest := []) rfl rfl ?_
  show am_ww 186 0 [.ref 99] [] E2 I2 J2 S2 _
  refine w_st (i' := 1) (ls' := [.ref 99]) (st' := [.ref 99]) (E' := E2) (I' := I2) (J' := J2) (S' := S2) am_e186 rfl rfl rfl rfl ?_
  refine w_st (i' := 2) (ls' := [.ref 99]) (st' := [.int ((I2 99) 3)]) (E' := E2) (I' := I2) (J' := J2) (S' := S2) am_e186 rfl rfl rfl rfl ?_
  refine w_ri am_e186 rfl rfl (q_mkI ?_)
  show am_ww 291 274 [.ref 1000000, .ref 0, .ref 99, .ref 145, .int x4, .int v1, .int v2] [.int ((I2 99) 3)] E2 I2 J2 S2 _
  refine w_st (i' := 275) (ls' := [.ref 1000000, .ref 0, .ref 99, .ref 145, .int x4, .int v1, .int v2]) (st' := [.int v1, .int ((I2 99) 3)]) (E' := E2) (I' := I2) (J' := J2) (S' := S2) am_e291 rfl rfl rfl rfl ?_
  refine w_if2 am_e291 rfl rfl (fun c => ?_) (fun c => ?_)
  · replace h := h.1 (of_decide_eq_true c)
    refine w_st (i' := 279) (ls' := [.ref 1000000, .ref 0, .ref 99, .ref 145, .int x4, .int v1, .int v2]) (st' := [.int v1]) (E' := E2) (I' := I2) (J' := J2) (S' := S2) am_e291 rfl rfl rfl rfl ?_
    refine w_if1 am_e291 rfl rfl (fun c => ?_) (fun c => ?_)
    · replace h := h.2 (of_decide_eq_true c)
      refine w_st (i' := 1129) (ls' := [.ref 1000000, .ref 0, .ref 99, .ref 145, .int x4, .int v1, .int v2]) (st' := []) (E' := E2) (I' := I2) (J' := J2) (S' := S2) am_e291 rfl rfl rfl rfl ?_
      exact h
    · replace h := h.1 (Decidable.not_not.mp (of_decide_eq_false c))
      refine w_st (i' := 281) (ls' := [.ref 1000000, .ref 0, .ref 99, .ref 145, .int x4, .int v1, .int v2]) (st' := [.ref 145]) (E' := E2) (I' := I2) (J' := J2) (S' := S2) am_e291 rfl rfl rfl rfl ?_
      refine w_st (i' := 282) (ls' := [.ref 1000000, .ref 0, .ref 99, .ref 145, .int x4, .int v1, .int v2]) (st' := [.int (nI 0), .ref 145]) (E' := E2) (I' := I2) (J' := J2) (S' := S2) am_e291 rfl rfl rfl rfl ?_
      refine w_la (k := 145) (n := 1) (jn := 0) am_e291 rfl rfl (by decide) (vp_in_nI (by decide) (by decide)) rfl ?_
      show am_ww 291 283 [.ref 1000000, .ref 0, .ref 99, .ref 145, .int x4, .int v1, .int v2] [.long ((J2 145) 0)] E2 I2 J2 S2 _
      refine w_st (i' := 284) (ls' := [.ref 1000000, .ref 0, .ref 99, .ref 145, .int x4, .int v1, .int v2]) (st' := [.int v2, .long ((J2 145) 0)]) (E' := E2) (I' := I2) (J' := J2) (S' := S2) am_e291 rfl rfl rfl rfl ?_
      refine w_st (i' := 285) (ls' := [.ref 1000000, .ref 0, .ref 99, .ref 145, .int x4, .int v1, .int v2]) (st' := [.long v2.toInt64, .long ((J2 145) 0)]) (E' := E2) (I' := I2) (J' := J2) (S' := S2) am_e291 rfl rfl rfl rfl ?_
      refine w_st (i' := 286) (ls' := [.ref 1000000, .ref 0, .ref 99, .ref 145, .int x4, .int v1, .int v2]) (st' := [.int (lg_cmp ((J2 145) 0) v2.toInt64)]) (E' := E2) (I' := I2) (J' := J2) (S' := S2) am_e291 rfl rfl rfl rfl ?_
      refine w_if1 am_e291 rfl rfl (fun c => ?_) (fun c => ?_)
      · replace h := h.1 (of_decide_eq_true c)
        refine w_st (i' := 1129) (ls' := [.ref 1000000, .ref 0, .ref 99, .ref 145, .int x4, .int v1, .int v2]) (st' := []) (E' := E2) (I' := I2) (J' := J2) (S' := S2) am_e291 rfl rfl rfl rfl ?_
        exact h
      · replace h := h.2 (of_decide_eq_false c)
        refine w_st (i' := 288) (ls' := [.ref 1000000, .ref 0, .ref 99, .ref 145, .int x4, .int v1, .int v2]) (st' := [.int (nI 0)]) (E' := E2) (I' := I2) (J' := J2) (S' := S2) am_e291 rfl rfl rfl rfl ?_
        exact w_end am_e291 rfl rfl rfl h
  · replace h := h.2 (of_decide_eq_false c)
    refine w_st (i' := 277) (ls' := [.ref 1000000, .ref 0, .ref 99, .ref 145, .int x4, .int v1, .int v2]) (st' := [.int (nI 0)]) (E' := E2) (I' := I2) (J' := J2) (S' := S2) am_e291 rfl rfl rfl rfl ?_
    exact w_end am_e291 rfl rfl rfl h
set_option maxRecDepth 12000 in
theorem g291_290 {x4 : Int32} {d5 : Value} {d6 : Value} {E : am_Ev} {I : Nat → Nat → Int32} {J : Nat → Nat → Int64} {S : Nat → Nat → Option Nat} {Q : am_Qt} (hd5 : am_isL d5 = false) (hd6 : am_isL d6 = false) (h : vp_in (x4 + (nI 1)) E.2.2.1 ∧ (vp_in (x4 + (nI 2)) E.2.2.1 ∧ (am_cl 113 [.ref 0, .int (E.2.2.2 (x4 + (nI 1)).toNatClampNeg), .int (E.2.2.2 (x4 + (nI 2)).toNatClampNeg), .ref 145] E I J S (q_I fun v1 E1 I1 J1 S1 => vp_in (x4 + (nI 1)) E1.2.2.1 ∧ (vp_in (x4 + (nI 2)) E1.2.2.1 ∧ (am_cl 246 [.ref 99, .int (E1.2.2.2 (x4 + (nI 1)).toNatClampNeg), .int (E1.2.2.2 (x4 + (nI 2)).toNatClampNeg)] E1 I1 J1 S1 (q_I fun v2 E2 I2 J2 S2 => (((I2 99) 3) = v1 → ((v1 = 0 → (((lg_cmp ((J2 145) 0) v2.toInt64) = 0 → (am_ww 291 1129 [.ref 1000000, .ref 0, .ref 99, .ref 145, .int x4, .int v1, .int v2] [] E2 I2 J2 S2 Q)) ∧ (¬ (lg_cmp ((J2 145) 0) v2.toInt64) = 0 → (Q (.inl (some (.int (nI 0)))) E2 I2 J2 S2)))) ∧ (¬ v1 = 0 → (am_ww 291 1129 [.ref 1000000, .ref 0, .ref 99, .ref 145, .int x4, .int v1, .int v2] [] E2 I2 J2 S2 Q)))) ∧ (¬ ((I2 99) 3) = v1 → (Q (.inl (some (.int (nI 0)))) E2 I2 J2 S2))))))))) : am_ww 291 290 [.ref 1000000, .ref 0, .ref 99, .ref 145, .int x4, d5, d6] [] E I J S Q := by
  refine w_st (i' := 291) (ls' := [.ref 1000000, .ref 0, .ref 99, .ref 145, .int x4, d5, d6]) (st' := [.ref 0]) (E' := E) (I' := I) (J' := J) (S' := S) am_e291 rfl rfl rfl rfl ?_
  refine w_st (i' := 292) (ls' := [.ref 1000000, .ref 0, .ref 99, .ref 145, .int x4, d5, d6]) (st' := [.ref 1000000, .ref 0]) (E' := E) (I' := I) (J' := J) (S' := S) am_e291 rfl rfl rfl rfl ?_
  refine w_st (i' := 293) (ls' := [.ref 1000000, .ref 0, .ref 99, .ref 145, .int x4, d5, d6]) (st' := [.int x4, .ref 1000000, .ref 0]) (E' := E) (I' := I) (J' := J) (S' := S) am_e291 rfl rfl rfl rfl ?_
  refine w_st (i' := 294) (ls' := [.ref 1000000, .ref 0, .ref 99, .ref 145, .int x4, d5, d6]) (st' := [.int (nI 1), .int x4, .ref 1000000, .ref 0]) (E' := E) (I' := I) (J' := J) (S' := S) am_e291 rfl rfl rfl rfl ?_
  refine w_st (i' := 295) (ls' := [.ref 1000000, .ref 0, .ref 99, .ref 145, .int x4, d5, d6]) (st' := [.int (x4 + (nI 1)), .ref 1000000, .ref 0]) (E' := E) (I' := I) (J' := J) (S' := S) am_e291 rfl rfl rfl rfl ?_
  refine w_sa am_e291 rfl h.1 ?_
  replace h := h.2
  refine w_st (i' := 297) (ls' := [.ref 1000000, .ref 0, .ref 99, .ref 145, .int x4, d5, d6]) (st' := [.ref 1000000, .int (E.2.2.2 (x4 + (nI 1)).toNatClampNeg), .ref 0]) (E' := E) (I' := I) (J' := J) (S' := S) am_e291 rfl rfl rfl rfl ?_
  refine w_st (i' := 298) (ls' := [.ref 1000000, .ref 0, .ref 99, .ref 145, .int x4, d5, d6]) (st' := [.int x4, .ref 1000000, .int (E.2.2.2 (x4 + (nI 1)).toNatClampNeg), .ref 0]) (E' := E) (I' := I) (J' := J) (S' := S) am_e291 rfl rfl rfl rfl ?_
  refine w_st (i' := 299) (ls' := [.ref 1000000, .ref 0, .ref 99, .ref 145, .int x4, d5, d6]) (st' := [.int (nI 2), .int x4, .ref 1000000, .int (E.2.2.2 (x4 + (nI 1)).toNatClampNeg), .ref 0]) (E' := E) (I' := I) (J' := J) (S' := S) am_e291 rfl rfl rfl rfl ?_
  refine w_st (i' := 300) (ls' := [.ref 1000000, .ref 0, .ref 99, .ref 145, .int x4, d5, d6]) (st' := [.int (x4 + (nI 2)), .ref 1000000, .int (E.2.2.2 (x4 + (nI 1)).toNatClampNeg), .ref 0]) (E' := E) (I' := I) (J' := J) (S' := S) am_e291 rfl rfl rfl rfl ?_
  refine w_sa am_e291 rfl h.1 ?_
  replace h := h.2
  refine w_st (i' := 302) (ls' := [.ref 1000000, .ref 0, .ref 99, .ref 145, .int x4, d5, d6]) (st' := [.ref 145, .int (E.2.2.2 (x4 + (nI 2)).toNatClampNeg), .int (E.2.2.2 (x4 + (nI 1)).toNatClampNeg), .ref 0]) (E' := E) (I' := I) (J' := J) (S' := S) am_e291 rfl rfl rfl rfl ?_
  refine w_cI am_e291 rfl rfl (as := [.ref 0, .int (E.2.2.2 (x4 + (nI 1)).toNatClampNeg), .int (E.2.2.2 (x4 + (nI 2)).toNatClampNeg), .ref 145]) (rest := []) rfl rfl (am_ww.mono h ?_)
  rintro _ E1 I1 J1 S1 ⟨v1, rfl, h⟩
  refine q_mkI ?_
  refine w_st (i' := 304) (ls' := [.ref 1000000, .ref 0, .ref 99, .ref 145, .int x4, .int v1, d6]) (st' := []) (E' := E1) (I' := I1) (J' := J1) (S' := S1) am_e291 rfl rfl rfl rfl ?_
  refine w_st (i' := 305) (ls' := [.ref 1000000, .ref 0, .ref 99, .ref 145, .int x4, .int v1, d6]) (st' := [.ref 99]) (E' := E1) (I' := I1) (J' := J1) (S' := S1) am_e291 rfl rfl rfl rfl ?_
  refine w_st (i' := 306) (ls' := [.ref 1000000, .ref 0, .ref 99, .ref 145, .int x4, .int v1, d6]) (st' := [.ref 1000000, .ref 99]) (E' := E1) (I' := I1) (J' := J1) (S' := S1) am_e291 rfl rfl rfl rfl ?_
  refine w_st (i' := 307) (ls' := [.ref 1000000, .ref 0, .ref 99, .ref 145, .int x4, .int v1, d6]) (st' := [.int x4, .ref 1000000, .ref 99]) (E' := E1) (I' := I1) (J' := J1) (S' := S1) am_e291 rfl rfl rfl rfl ?_
  refine w_st (i' := 308) (ls' := [.ref 1000000, .ref 0, .ref 99, .ref 145, .int x4, .int v1, d6]) (st' := [.int (nI 1), .int x4, .ref 1000000, .ref 99]) (E' := E1) (I' := I1) (J' := J1) (S' := S1) am_e291 rfl rfl rfl rfl ?_
  refine w_st (i' := 309) (ls' := [.ref 1000000, .ref 0, .ref 99, .ref 145, .int x4, .int v1, d6]) (st' := [.int (x4 + (nI 1)), .ref 1000000, .ref 99]) (E' := E1) (I' := I1) (J' := J1) (S' := S1) am_e291 rfl rfl rfl rfl ?_
  refine w_sa am_e291 rfl h.1 ?_
  replace h := h.2
  refine w_st (i' := 311) (ls' := [.ref 1000000, .ref 0, .ref 99, .ref 145, .int x4, .int v1, d6]) (st' := [.ref 1000000, .int (E1.2.2.2 (x4 + (nI 1)).toNatClampNeg), .ref 99]) (E' := E1) (I' := I1) (J' := J1) (S' := S1) am_e291 rfl rfl rfl rfl ?_
  refine w_st (i' := 312) (ls' := [.ref 1000000, .ref 0, .ref 99, .ref 145, .int x4, .int v1, d6]) (st' := [.int x4, .ref 1000000, .int (E1.2.2.2 (x4 + (nI 1)).toNatClampNeg), .ref 99]) (E' := E1) (I' := I1) (J' := J1) (S' := S1) am_e291 rfl rfl rfl rfl ?_
  refine w_st (i' := 313) (ls' := [.ref 1000000, .ref 0, .ref 99, .ref 145, .int x4, .int v1, d6]) (st' := [.int (nI 2), .int x4, .ref 1000000, .int (E1.2.2.2 (x4 + (nI 1)).toNatClampNeg), .ref 99]) (E' := E1) (I' := I1) (J' := J1) (S' := S1) am_e291 rfl rfl rfl rfl ?_
  refine w_st (i' := 314) (ls' := [.ref 1000000, .ref 0, .ref 99, .ref 145, .int x4, .int v1, d6]) (st' := [.int (x4 + (nI 2)), .ref 1000000, .int (E1.2.2.2 (x4 + (nI 1)).toNatClampNeg), .ref 99]) (E' := E1) (I' := I1) (J' := J1) (S' := S1) am_e291 rfl rfl rfl rfl ?_
  refine w_sa am_e291 rfl h.1 ?_
  replace h := h.2
  refine w_cI am_e291 rfl rfl (as := [.ref 99, .int (E1.2.2.2 (x4 + (nI 1)).toNatClampNeg), .int (E1.2.2.2 (x4 + (nI 2)).toNatClampNeg)]) (rest := []) rfl rfl (am_ww.mono h ?_)
  rintro _ E2 I2 J2 S2 ⟨v2, rfl, h⟩
  refine q_mkI ?_
  refine w_st (i' := 317) (ls' := [.ref 1000000, .ref 0, .ref 99, .ref 145, .int x4, .int v1, .int v2]) (st' := []) (E' := E2) (I' := I2) (J' := J2) (S' := S2) am_e291 rfl rfl rfl rfl ?_
  refine w_st (i' := 318) (ls' := [.ref 1000000, .ref 0, .ref 99, .ref 145, .int x4, .int v1, .int v2]) (st' := [.ref 99]) (E' := E2) (I' := I2) (J' := J2) (S' := S2) am_e291 rfl rfl rfl rfl ?_
  refine w_cI am_e291 rfl rfl (as := [.ref 99]) (rest := []) rfl rfl ?_
  show am_ww 186 0 [.ref 99] [] E2 I2 J2 S2 _
  refine w_st (i' := 1) (ls' := [.ref 99]) (st' := [.ref 99]) (E' := E2) (I' := I2) (J' := J2) (S' := S2) am_e186 rfl rfl rfl rfl ?_
  refine w_st (i' := 2) (ls' := [.ref 99]) (st' := [.int ((I2 99) 3)]) (E' := E2) (I' := I2) (J' := J2) (S' := S2) am_e186 rfl rfl rfl rfl ?_
  refine w_ri am_e186 rfl rfl (q_mkI ?_)
  show am_ww 291 319 [.ref 1000000, .ref 0, .ref 99, .ref 145, .int x4, .int v1, .int v2] [.int ((I2 99) 3)] E2 I2 J2 S2 _
  refine w_st (i' := 320) (ls' := [.ref 1000000, .ref 0, .ref 99, .ref 145, .int x4, .int v1, .int v2]) (st' := [.int v1, .int ((I2 99) 3)]) (E' := E2) (I' := I2) (J' := J2) (S' := S2) am_e291 rfl rfl rfl rfl ?_
  refine w_if2 am_e291 rfl rfl (fun c => ?_) (fun c => ?_)
  · replace h := h.1 (of_decide_eq_true c)
    refine w_st (i' := 324) (ls' := [.ref 1000000, .ref 0, .ref 99, .ref 145, .int x4, .int v1, .int v2]) (st' := [.int v1]) (E' := E2) (I' := I2) (J' := J2) (S' := S2) am_e291 rfl rfl rfl rfl ?_
    refine w_if1 am_e291 rfl rfl (fun c => ?_) (fun c => ?_)
    · replace h := h.2 (of_decide_eq_true c)
      refine w_st (i' := 1129) (ls' := [.ref 1000000, .ref 0, .ref 99, .ref 145, .int x4, .int v1, .int v2]) (st' := []) (E' := E2) (I' := I2) (J' := J2) (S' := S2) am_e291 rfl rfl rfl rfl ?_
      exact h
    · replace h := h.1 (Decidable.not_not.mp (of_decide_eq_false c))
      refine w_st (i' := 326) (ls' := [.ref 1000000, .ref 0, .ref 99, .ref 145, .int x4, .int v1, .int v2]) (st' := [.ref 145]) (E' := E2) (I' := I2) (J' := J2) (S' := S2) am_e291 rfl rfl rfl rfl ?_
      refine w_st (i' := 327) (ls' := [.ref 1000000, .ref 0, .ref 99, .ref 145, .int x4, .int v1, .int v2]) (st' := [.int (nI 0), .ref 145]) (E' := E2) (I' := I2) (J' := J2) (S' := S2) am_e291 rfl rfl rfl rfl ?_
      refine w_la (k := 145) (n := 1) (jn := 0) am_e291 rfl rfl (by decide) (vp_in_nI (by decide) (by decide)) rfl ?_
      show am_ww 291 328 [.ref 1000000, .ref 0, .ref 99, .ref 145, .int x4, .int v1, .int v2] [.long ((J2 145) 0)] E2 I2 J2 S2 _
      refine w_st (i' := 329) (ls' := [.ref 1000000, .ref 0, .ref 99, .ref 145, .int x4, .int v1, .int v2]) (st' := [.int v2, .long ((J2 145) 0)]) (E' := E2) (I' := I2) (J' := J2) (S' := S2) am_e291 rfl rfl rfl rfl ?_
      refine w_st (i' := 330) (ls' := [.ref 1000000, .ref 0, .ref 99, .ref 145, .int x4, .int v1, .int v2]) (st' := [.long v2.toInt64, .long ((J2 145) 0)]) (E' := E2) (I' := I2) (J' := J2) (S' := S2) am_e291 rfl rfl rfl rfl ?_
      refine w_st (i' := 331) (ls' := [.ref 1000000, .ref 0, .ref 99, .ref 145, .int x4, .int v1, .int v2]) (st' := [.int (lg_cmp ((J2 145) 0) v2.toInt64)]) (E' := E2) (I' := I2) (J' := J2) (S' := S2) am_e291 rfl rfl rfl rfl ?_
      refine w_if1 am_e291 rfl rfl (fun c => ?_) (fun c => ?_)
      · replace h := h.1 (of_decide_eq_true c)
        refine w_st (i' := 1129) (ls' := [.ref 1000000, .ref 0, .ref 99, .ref 145, .int x4, .int v1, .int v2]) (st' := []) (E' := E2) (I' := I2) (J' := J2) (S' := S2) am_e291 rfl rfl rfl rfl ?_
        exact h
      · replace h := h.2 (of_decide_eq_false c)
        refine w_st (i' := 333) (ls' := [.ref 1000000, .ref 0, .ref 99, .ref 145, .int x4, .int v1, .int v2]) (st' := [.int (nI 0)]) (E' := E2) (I' := I2) (J' := J2) (S' := S2) am_e291 rfl rfl rfl rfl ?_
        exact w_end am_e291 rfl rfl rfl h
  · replace h := h.2 (of_decide_eq_false c)
    refine w_st (i' := 322) (ls' := [.ref 1000000, .ref 0, .ref 99, .ref 145, .int x4, .int v1, .int v2]) (st' := [.int (nI 0)]) (E' := E2) (I' := I2) (J' := J2) (S' := S2) am_e291 rfl rfl rfl rfl ?_
    exact w_end am_e291 rfl rfl rfl h
set_option maxRecDepth 12000 in
theorem g291_335 {x4 : Int32} {d5 : Value} {d6 : Value} {E : am_Ev} {I : Nat → Nat → Int32} {J : Nat → Nat → Int64} {S : Nat → Nat → Option Nat} {Q : am_Qt} (hd5 : am_isL d5 = false) (hd6 : am_isL d6 = false) (h : vp_in (x4 + (nI 1)) E.2.2.1 ∧ (am_cl 116 [.ref 0, .int (E.2.2.2 (x4 + (nI 1)).toNatClampNeg), .ref 145] E I J S (q_I fun v1 E1 I1 J1 S1 => vp_in (x4 + (nI 1)) E1.2.2.1 ∧ (am_cl 247 [.ref 99, .int (E1.2.2.2 (x4 + (nI 1)).toNatClampNeg)] E1 I1 J1 S1 (q_I fun v2 E2 I2 J2 S2 => (((I2 99) 3) = v1 → ((v1 = 0 → (((lg_cmp ((J2 145) 0) v2.toInt64) = 0 → (am_ww 291 1129 [.ref 1000000, .ref 0, .ref 99, .ref 145, .int x4, .int v1, .int v2] [] E2 I2 J2 S2 Q)) ∧ (¬ (lg_cmp ((J2 145) 0) v2.toInt64) = 0 → (Q (.inl (some (.int (nI 0)))) E2 I2 J2 S2)))) ∧ (¬ v1 = 0 → (am_ww 291 1129 [.ref 1000000, .ref 0, .ref 99, .ref 145, .int x4, .int v1, .int v2] [] E2 I2 J2 S2 Q)))) ∧ (¬ ((I2 99) 3) = v1 → (Q (.inl (some (.int (nI 0)))) E2 I2 J2 S2))))))) : am_ww 291 335 [.ref 1000000, .ref 0, .ref 99, .ref 145, .int x4, d5, d6] [] E I J S Q := by
  refine w_st (i' := 336) (ls' := [.ref 1000000, .ref 0, .ref 99, .ref 145, .int x4, d5, d6]) (st' := [.ref 0]) (E' := E) (I' := I) (J' := J) (S' := S) am_e291 rfl rfl rfl rfl ?_
  refine w_st (i' := 337) (ls' := [.ref 1000000, .ref 0, .ref 99, .ref 145, .int x4, d5, d6]) (st' := [.ref 1000000, .ref 0]) (E' := E) (I' := I) (J' := J) (S' := S) am_e291 rfl rfl rfl rfl ?_
  refine w_st (i' := 338) (ls' := [.ref 1000000, .ref 0, .ref 99, .ref 145, .int x4, d5, d6]) (st' := [.int x4, .ref 1000000, .ref 0]) (E' := E) (I' := I) (J' := J) (S' := S) am_e291 rfl rfl rfl rfl ?_
  refine w_st (i' := 339) (ls' := [.ref 1000000, .ref 0, .ref 99, .ref 145, .int x4, d5, d6]) (st' := [.int (nI 1), .int x4, .ref 1000000, .ref 0]) (E' := E) (I' := I) (J' := J) (S' := S) am_e291 rfl rfl rfl rfl ?_
  refine w_st (i' := 340) (ls' := [.ref 1000000, .ref 0, .ref 99, .ref 145, .int x4, d5, d6]) (st' := [.int (x4 + (nI 1)), .ref 1000000, .ref 0]) (E' := E) (I' := I) (J' := J) (S' := S) am_e291 rfl rfl rfl rfl ?_
  refine w_sa am_e291 rfl h.1 ?_
  replace h := h.2
  refine w_st (i' := 342) (ls' := [.ref 1000000, .ref 0, .ref 99, .ref 145, .int x4, d5, d6]) (st' := [.ref 145, .int (E.2.2.2 (x4 + (nI 1)).toNatClampNeg), .ref 0]) (E' := E) (I' := I) (J' := J) (S' := S) am_e291 rfl rfl rfl rfl ?_
  refine w_cI am_e291 rfl rfl (as := [.ref 0, .int (E.2.2.2 (x4 + (nI 1)).toNatClampNeg), .ref 145]) (rest := []) rfl rfl (am_ww.mono h ?_)
  rintro _ E1 I1 J1 S1 ⟨v1, rfl, h⟩
  refine q_mkI ?_
  refine w_st (i' := 344) (ls' := [.ref 1000000, .ref 0, .ref 99, .ref 145, .int x4, .int v1, d6]) (st' := []) (E' := E1) (I' := I1) (J' := J1) (S' := S1) am_e291 rfl rfl rfl rfl ?_
  refine w_st (i' := 345) (ls' := [.ref 1000000, .ref 0, .ref 99, .ref 145, .int x4, .int v1, d6]) (st' := [.ref 99]) (E' := E1) (I' := I1) (J' := J1) (S' := S1) am_e291 rfl rfl rfl rfl ?_
  refine w_st (i' := 346) (ls' := [.ref 1000000, .ref 0, .ref 99, .ref 145, .int x4, .int v1, d6]) (st' := [.ref 1000000, .ref 99]) (E' := E1) (I' := I1) (J' := J1) (S' := S1) am_e291 rfl rfl rfl rfl ?_
  refine w_st (i' := 347) (ls' := [.ref 1000000, .ref 0, .ref 99, .ref 145, .int x4, .int v1, d6]) (st' := [.int x4, .ref 1000000, .ref 99]) (E' := E1) (I' := I1) (J' := J1) (S' := S1) am_e291 rfl rfl rfl rfl ?_
  refine w_st (i' := 348) (ls' := [.ref 1000000, .ref 0, .ref 99, .ref 145, .int x4, .int v1, d6]) (st' := [.int (nI 1), .int x4, .ref 1000000, .ref 99]) (E' := E1) (I' := I1) (J' := J1) (S' := S1) am_e291 rfl rfl rfl rfl ?_
  refine w_st (i' := 349) (ls' := [.ref 1000000, .ref 0, .ref 99, .ref 145, .int x4, .int v1, d6]) (st' := [.int (x4 + (nI 1)), .ref 1000000, .ref 99]) (E' := E1) (I' := I1) (J' := J1) (S' := S1) am_e291 rfl rfl rfl rfl ?_
  refine w_sa am_e291 rfl h.1 ?_
  replace h := h.2
  refine w_cI am_e291 rfl rfl (as := [.ref 99, .int (E1.2.2.2 (x4 + (nI 1)).toNatClampNeg)]) (rest := []) rfl rfl (am_ww.mono h ?_)
  rintro _ E2 I2 J2 S2 ⟨v2, rfl, h⟩
  refine q_mkI ?_
  refine w_st (i' := 352) (ls' := [.ref 1000000, .ref 0, .ref 99, .ref 145, .int x4, .int v1, .int v2]) (st' := []) (E' := E2) (I' := I2) (J' := J2) (S' := S2) am_e291 rfl rfl rfl rfl ?_
  refine w_st (i' := 353) (ls' := [.ref 1000000, .ref 0, .ref 99, .ref 145, .int x4, .int v1, .int v2]) (st' := [.ref 99]) (E' := E2) (I' := I2) (J' := J2) (S' := S2) am_e291 rfl rfl rfl rfl ?_
  refine w_cI am_e291 rfl rfl (as := [.ref 99]) (rest := []) rfl rfl ?_
  show am_ww 186 0 [.ref 99] [] E2 I2 J2 S2 _
  refine w_st (i' := 1) (ls' := [.ref 99]) (st' := [.ref 99]) (E' := E2) (I' := I2) (J' := J2) (S' := S2) am_e186 rfl rfl rfl rfl ?_
  refine w_st (i' := 2) (ls' := [.ref 99]) (st' := [.int ((I2 99) 3)]) (E' := E2) (I' := I2) (J' := J2) (S' := S2) am_e186 rfl rfl rfl rfl ?_
  refine w_ri am_e186 rfl rfl (q_mkI ?_)
  show am_ww 291 354 [.ref 1000000, .ref 0, .ref 99, .ref 145, .int x4, .int v1, .int v2] [.int ((I2 99) 3)] E2 I2 J2 S2 _
  refine w_st (i' := 355) (ls' := [.ref 1000000, .ref 0, .ref 99, .ref 145, .int x4, .int v1, .int v2]) (st' := [.int v1, .int ((I2 99) 3)]) (E' := E2) (I' := I2) (J' := J2) (S' := S2) am_e291 rfl rfl rfl rfl ?_
  refine w_if2 am_e291 rfl rfl (fun c => ?_) (fun c => ?_)
  · replace h := h.1 (of_decide_eq_true c)
    refine w_st (i' := 359) (ls' := [.ref 1000000, .ref 0, .ref 99, .ref 145, .int x4, .int v1, .int v2]) (st' := [.int v1]) (E' := E2) (I' := I2) (J' := J2) (S' := S2) am_e291 rfl rfl rfl rfl ?_
    refine w_if1 am_e291 rfl rfl (fun c => ?_) (fun c => ?_)
    · replace h := h.2 (of_decide_eq_true c)
      refine w_st (i' := 1129) (ls' := [.ref 1000000, .ref 0, .ref 99, .ref 145, .int x4, .int v1, .int v2]) (st' := []) (E' := E2) (I' := I2) (J' := J2) (S' := S2) am_e291 rfl rfl rfl rfl ?_
      exact h
    · replace h := h.1 (Decidable.not_not.mp (of_decide_eq_false c))
      refine w_st (i' := 361) (ls' := [.ref 1000000, .ref 0, .ref 99, .ref 145, .int x4, .int v1, .int v2]) (st' := [.ref 145]) (E' := E2) (I' := I2) (J' := J2) (S' := S2) am_e291 rfl rfl rfl rfl ?_
      refine w_st (i' := 362) (ls' := [.ref 1000000, .ref 0, .ref 99, .ref 145, .int x4, .int v1, .int v2]) (st' := [.int (nI 0), .ref 145]) (E' := E2) (I' := I2) (J' := J2) (S' := S2) am_e291 rfl rfl rfl rfl ?_
      refine w_la (k := 145) (n := 1) (jn := 0) am_e291 rfl rfl (by decide) (vp_in_nI (by decide) (by decide)) rfl ?_
      show am_ww 291 363 [.ref 1000000, .ref 0, .ref 99, .ref 145, .int x4, .int v1, .int v2] [.long ((J2 145) 0)] E2 I2 J2 S2 _
      refine w_st (i' := 364) (ls' := [.ref 1000000, .ref 0, .ref 99, .ref 145, .int x4, .int v1, .int v2]) (st' := [.int v2, .long ((J2 145) 0)]) (E' := E2) (I' := I2) (J' := J2) (S' := S2) am_e291 rfl rfl rfl rfl ?_
      refine w_st (i' := 365) (ls' := [.ref 1000000, .ref 0, .ref 99, .ref 145, .int x4, .int v1, .int v2]) (st' := [.long v2.toInt64, .long ((J2 145) 0)]) (E' := E2) (I' := I2) (J' := J2) (S' := S2) am_e291 rfl rfl rfl rfl ?_
      refine w_st (i' := 366) (ls' := [.ref 1000000, .ref 0, .ref 99, .ref 145, .int x4, .int v1, .int v2]) (st' := [.int (lg_cmp ((J2 145) 0) v2.toInt64)]) (E' := E2) (I' := I2) (J' := J2) (S' := S2) am_e291 rfl rfl rfl rfl ?_
      refine w_if1 am_e291 rfl rfl (fun c => ?_) (fun c => ?_)
      · replace h := h.1 (of_decide_eq_true c)
        refine w_st (i' := 1129) (ls' := [.ref 1000000, .ref 0, .ref 99, .ref 145, .int x4, .int v1, .int v2]) (st' := []) (E' := E2) (I' := I2) (J' := J2) (S' := S2) am_e291 rfl rfl rfl rfl ?_
        exact h
      · replace h := h.2 (of_decide_eq_false c)
        refine w_st (i' := 368) (ls' := [.ref 1000000, .ref 0, .ref 99, .ref 145, .int x4, .int v1, .int v2]) (st' := [.int (nI 0)]) (E' := E2) (I' := I2) (J' := J2) (S' := S2) am_e291 rfl rfl rfl rfl ?_
        exact w_end am_e291 rfl rfl rfl h
  · replace h := h.2 (of_decide_eq_false c)
    refine w_st (i' := 357) (ls' := [.ref 1000000, .ref 0, .ref 99, .ref 145, .int x4, .int v1, .int v2]) (st' := [.int (nI 0)]) (E' := E2) (I' := I2) (J' := J2) (S' := S2) am_e291 rfl rfl rfl rfl ?_
    exact w_end am_e291 rfl rfl rfl h
set_option maxRecDepth 12000 in
theorem g291_370 {x4 : Int32} {d5 : Value} {d6 : Value} {E : am_Ev} {I : Nat → Nat → Int32} {J : Nat → Nat → Int64} {S : Nat → Nat → Option Nat} {Q : am_Qt} (hd5 : am_isL d5 = false) (hd6 : am_isL d6 = false) (h : vp_in (x4 + (nI 1)) E.2.2.1 ∧ (am_cl 118 [.ref 0, .int (E.2.2.2 (x4 + (nI 1)).toNatClampNeg), .ref 145] E I J S (q_I fun v1 E1 I1 J1 S1 => vp_in (x4 + (nI 1)) E1.2.2.1 ∧ (am_cl 249 [.ref 99, .int (E1.2.2.2 (x4 + (nI 1)).toNatClampNeg)] E1 I1 J1 S1 (q_I fun v2 E2 I2 J2 S2 => (((I2 99) 3) = v1 → ((v1 = 0 → (((lg_cmp ((J2 145) 0) v2.toInt64) = 0 → (am_ww 291 1129 [.ref 1000000, .ref 0, .ref 99, .ref 145, .int x4, .int v1, .int v2] [] E2 I2 J2 S2 Q)) ∧ (¬ (lg_cmp ((J2 145) 0) v2.toInt64) = 0 → (Q (.inl (some (.int (nI 0)))) E2 I2 J2 S2)))) ∧ (¬ v1 = 0 → (am_ww 291 1129 [.ref 1000000, .ref 0, .ref 99, .ref 145, .int x4, .int v1, .int v2] [] E2 I2 J2 S2 Q)))) ∧ (¬ ((I2 99) 3) = v1 → (Q (.inl (some (.int (nI 0)))) E2 I2 J2 S2))))))) : am_ww 291 370 [.ref 1000000, .ref 0, .ref 99, .ref 145, .int x4, d5, d6] [] E I J S Q := by
  refine w_st (i' := 371) (ls' := [.ref 1000000, .ref 0, .ref 99, .ref 145, .int x4, d5, d6]) (st' := [.ref 0]) (E' := E) (I' := I) (J' := J) (S' := S) am_e291 rfl rfl rfl rfl ?_
  refine w_st (i' := 372) (ls' := [.ref 1000000, .ref 0, .ref 99, .ref 145, .int x4, d5, d6]) (st' := [.ref 1000000, .ref 0]) (E' := E) (I' := I) (J' := J) (S' := S) am_e291 rfl rfl rfl rfl ?_
  refine w_st (i' := 373) (ls' := [.ref 1000000, .ref 0, .ref 99, .ref 145, .int x4, d5, d6]) (st' := [.int x4, .ref 1000000, .ref 0]) (E' := E) (I' := I) (J' := J) (S' := S) am_e291 rfl rfl rfl rfl ?_
  refine w_st (i' := 374) (ls' := [.ref 1000000, .ref 0, .ref 99, .ref 145, .int x4, d5, d6]) (st' := [.int (nI 1), .int x4, .ref 1000000, .ref 0]) (E' := E) (I' := I) (J' := J) (S' := S) am_e291 rfl rfl rfl rfl ?_
  refine w_st (i' := 375) (ls' := [.ref 1000000, .ref 0, .ref 99, .ref 145, .int x4, d5, d6]) (st' := [.int (x4 + (nI 1)), .ref 1000000, .ref 0]) (E' := E) (I' := I) (J' := J) (S' := S) am_e291 rfl rfl rfl rfl ?_
  refine w_sa am_e291 rfl h.1 ?_
  replace h := h.2
  refine w_st (i' := 377) (ls' := [.ref 1000000, .ref 0, .ref 99, .ref 145, .int x4, d5, d6]) (st' := [.ref 145, .int (E.2.2.2 (x4 + (nI 1)).toNatClampNeg), .ref 0]) (E' := E) (I' := I) (J' := J) (S' := S) am_e291 rfl rfl rfl rfl ?_
  refine w_cI am_e291 rfl rfl (as := [.ref 0, .int (E.2.2.2 (x4 + (nI 1)).toNatClampNeg), .ref 145]) (rest := []) rfl rfl (am_ww.mono h ?_)
  rintro _ E1 I1 J1 S1 ⟨v1, rfl, h⟩
  refine q_mkI ?_
  refine w_st (i' := 379) (ls' := [.ref 1000000, .ref 0, .ref 99, .ref 145, .int x4, .int v1, d6]) (st' := []) (E' := E1) (I' := I1) (J' := J1) (S' := S1) am_e291 rfl rfl rfl rfl ?_
  refine w_st (i' := 380) (ls' := [.ref 1000000, .ref 0, .ref 99, .ref 145, .int x4, .int v1, d6]) (st' := [.ref 99]) (E' := E1) (I' := I1) (J' := J1) (S' := S1) am_e291 rfl rfl rfl rfl ?_
  refine w_st (i' := 381) (ls' := [.ref 1000000, .ref 0, .ref 99, .ref 145, .int x4, .int v1, d6]) (st' := [.ref 1000000, .ref 99]) (E' := E1) (I' := I1) (J' := J1) (S' := S1) am_e291 rfl rfl rfl rfl ?_
  refine w_st (i' := 382) (ls' := [.ref 1000000, .ref 0, .ref 99, .ref 145, .int x4, .int v1, d6]) (st' := [.int x4, .ref 1000000, .ref 99]) (E' := E1) (I' := I1) (J' := J1) (S' := S1) am_e291 rfl rfl rfl rfl ?_
  refine w_st (i' := 383) (ls' := [.ref 1000000, .ref 0, .ref 99, .ref 145, .int x4, .int v1, d6]) (st' := [.int (nI 1), .int x4, .ref 1000000, .ref 99]) (E' := E1) (I' := I1) (J' := J1) (S' := S1) am_e291 rfl rfl rfl rfl ?_
  refine w_st (i' := 384) (ls' := [.ref 1000000, .ref 0, .ref 99, .ref 145, .int x4, .int v1, d6]) (st' := [.int (x4 + (nI 1)), .ref 1000000, .ref 99]) (E' := E1) (I' := I1) (J' := J1) (S' := S1) am_e291 rfl rfl rfl rfl ?_
  refine w_sa am_e291 rfl h.1 ?_
  replace h := h.2
  refine w_cI am_e291 rfl rfl (as := [.ref 99, .int (E1.2.2.2 (x4 + (nI 1)).toNatClampNeg)]) (rest := []) rfl rfl (am_ww.mono h ?_)
  rintro _ E2 I2 J2 S2 ⟨v2, rfl, h⟩
  refine q_mkI ?_
  refine w_st (i' := 387) (ls' := [.ref 1000000, .ref 0, .ref 99, .ref 145, .int x4, .int v1, .int v2]) (st' := []) (E' := E2) (I' := I2) (J' := J2) (S' := S2) am_e291 rfl rfl rfl rfl ?_
  refine w_st (i' := 388) (ls' := [.ref 1000000, .ref 0, .ref 99, .ref 145, .int x4, .int v1, .int v2]) (st' := [.ref 99]) (E' := E2) (I' := I2) (J' := J2) (S' := S2) am_e291 rfl rfl rfl rfl ?_
  refine w_cI am_e291 rfl rfl (as := [.ref 99]) (rest := []) rfl rfl ?_
  show am_ww 186 0 [.ref 99] [] E2 I2 J2 S2 _
  refine w_st (i' := 1) (ls' := [.ref 99]) (st' := [.ref 99]) (E' := E2) (I' := I2) (J' := J2) (S' := S2) am_e186 rfl rfl rfl rfl ?_
  refine w_st (i' := 2) (ls' := [.ref 99]) (st' := [.int ((I2 99) 3)]) (E' := E2) (I' := I2) (J' := J2) (S' := S2) am_e186 rfl rfl rfl rfl ?_
  refine w_ri am_e186 rfl rfl (q_mkI ?_)
  show am_ww 291 389 [.ref 1000000, .ref 0, .ref 99, .ref 145, .int x4, .int v1, .int v2] [.int ((I2 99) 3)] E2 I2 J2 S2 _
  refine w_st (i' := 390) (ls' := [.ref 1000000, .ref 0, .ref 99, .ref 145, .int x4, .int v1, .int v2]) (st' := [.int v1, .int ((I2 99) 3)]) (E' := E2) (I' := I2) (J' := J2) (S' := S2) am_e291 rfl rfl rfl rfl ?_
  refine w_if2 am_e291 rfl rfl (fun c => ?_) (fun c => ?_)
  · replace h := h.1 (of_decide_eq_true c)
    refine w_st (i' := 394) (ls' := [.ref 1000000, .ref 0, .ref 99, .ref 145, .int x4, .int v1, .int v2]) (st' := [.int v1]) (E' := E2) (I' := I2) (J' := J2) (S' := S2) am_e291 rfl rfl rfl rfl ?_
    refine w_if1 am_e291 rfl rfl (fun c => ?_) (fun c => ?_)
    · replace h := h.2 (of_decide_eq_true c)
      refine w_st (i' := 1129) (ls' := [.ref 1000000, .ref 0, .ref 99, .ref 145, .int x4, .int v1, .int v2]) (st' := []) (E' := E2) (I' := I2) (J' := J2) (S' := S2) am_e291 rfl rfl rfl rfl ?_
      exact h
    · replace h := h.1 (Decidable.not_not.mp (of_decide_eq_false c))
      refine w_st (i' := 396) (ls' := [.ref 1000000, .ref 0, .ref 99, .ref 145, .int x4, .int v1, .int v2]) (st' := [.ref 145]) (E' := E2) (I' := I2) (J' := J2) (S' := S2) am_e291 rfl rfl rfl rfl ?_
      refine w_st (i' := 397) (ls' := [.ref 1000000, .ref 0, .ref 99, .ref 145, .int x4, .int v1, .int v2]) (st' := [.int (nI 0), .ref 145]) (E' := E2) (I' := I2) (J' := J2) (S' := S2) am_e291 rfl rfl rfl rfl ?_
      refine w_la (k := 145) (n := 1) (jn := 0) am_e291 rfl rfl (by decide) (vp_in_nI (by decide) (by decide)) rfl ?_
      show am_ww 291 398 [.ref 1000000, .ref 0, .ref 99, .ref 145, .int x4, .int v1, .int v2] [.long ((J2 145) 0)] E2 I2 J2 S2 _
      refine w_st (i' := 399) (ls' := [.ref 1000000, .ref 0, .ref 99, .ref 145, .int x4, .int v1, .int v2]) (st' := [.int v2, .long ((J2 145) 0)]) (E' := E2) (I' := I2) (J' := J2) (S' := S2) am_e291 rfl rfl rfl rfl ?_
      refine w_st (i' := 400) (ls' := [.ref 1000000, .ref 0, .ref 99, .ref 145, .int x4, .int v1, .int v2]) (st' := [.long v2.toInt64, .long ((J2 145) 0)]) (E' := E2) (I' := I2) (J' := J2) (S' := S2) am_e291 rfl rfl rfl rfl ?_
      refine w_st (i' := 401) (ls' := [.ref 1000000, .ref 0, .ref 99, .ref 145, .int x4, .int v1, .int v2]) (st' := [.int (lg_cmp ((J2 145) 0) v2.toInt64)]) (E' := E2) (I' := I2) (J' := J2) (S' := S2) am_e291 rfl rfl rfl rfl ?_
      refine w_if1 am_e291 rfl rfl (fun c => ?_) (fun c => ?_)
      · replace h := h.1 (of_decide_eq_true c)
        refine w_st (i' := 1129) (ls' := [.ref 1000000, .ref 0, .ref 99, .ref 145, .int x4, .int v1, .int v2]) (st' := []) (E' := E2) (I' := I2) (J' := J2) (S' := S2) am_e291 rfl rfl rfl rfl ?_
        exact h
      · replace h := h.2 (of_decide_eq_false c)
        refine w_st (i' := 403) (ls' := [.ref 1000000, .ref 0, .ref 99, .ref 145, .int x4, .int v1, .int v2]) (st' := [.int (nI 0)]) (E' := E2) (I' := I2) (J' := J2) (S' := S2) am_e291 rfl rfl rfl rfl ?_
        exact w_end am_e291 rfl rfl rfl h
  · replace h := h.2 (of_decide_eq_false c)
    refine w_st (i' := 392) (ls' := [.ref 1000000, .ref 0, .ref 99, .ref 145, .int x4, .int v1, .int v2]) (st' := [.int (nI 0)]) (E' := E2) (I' := I2) (J' := J2) (S' := S2) am_e291 rfl rfl rfl rfl ?_
    exact w_end am_e291 rfl rfl rfl h
set_option maxRecDepth 12000 in
theorem g291_405 {x4 : Int32} {d5 : Value} {d6 : Value} {E : am_Ev} {I : Nat → Nat → Int32} {J : Nat → Nat → Int64} {S : Nat → Nat → Option Nat} {Q : am_Qt} (hd5 : am_isL d5 = false) (hd6 : am_isL d6 = false) (h : vp_in (x4 + (nI 1)) E.2.2.1 ∧ (am_cl 120 [.ref 0, .int (E.2.2.2 (x4 + (nI 1)).toNatClampNeg), .ref 145] E I J S (q_I fun v1 E1 I1 J1 S1 => vp_in (x4 + (nI 1)) E1.2.2.1 ∧ (am_cl 250 [.ref 99, .int (E1.2.2.2 (x4 + (nI 1)).toNatClampNeg)] E1 I1 J1 S1 (q_I fun v2 E2 I2 J2 S2 => (((I2 99) 3) = v1 → ((v1 = 0 → (((lg_cmp ((J2 145) 0) v2.toInt64) = 0 → (am_ww 291 1129 [.ref 1000000, .ref 0, .ref 99, .ref 145, .int x4, .int v1, .int v2] [] E2 I2 J2 S2 Q)) ∧ (¬ (lg_cmp ((J2 145) 0) v2.toInt64) = 0 → (Q (.inl (some (.int (nI 0)))) E2 I2 J2 S2)))) ∧ (¬ v1 = 0 → (am_ww 291 1129 [.ref 1000000, .ref 0, .ref 99, .ref 145, .int x4, .int v1, .int v2] [] E2 I2 J2 S2 Q)))) ∧ (¬ ((I2 99) 3) = v1 → (Q (.inl (some (.int (nI 0)))) E2 I2 J2 S2))))))) : am_ww 291 405 [.ref 1000000, .ref 0, .ref 99, .ref 145, .int x4, d5, d6] [] E I J S Q := by
  refine w_st (i' := 406) (ls' := [.ref 1000000, .ref 0, .ref 99, .ref 145, .int x4, d5, d6]) (st' := [.ref 0]) (E' := E) (I' := I) (J' := J) (S' := S) am_e291 rfl rfl rfl rfl ?_
  refine w_st (i' := 407) (ls' := [.ref 1000000, .ref 0, .ref 99, .ref 145, .int x4, d5, d6]) (st' := [.ref 1000000, .ref 0]) (E' := E) (I' := I) (J' := J) (S' := S) am_e291 rfl rfl rfl rfl ?_
  refine w_st (i' := 408) (ls' := [.ref 1000000, .ref 0, .ref 99, .ref 145, .int x4, d5, d6]) (st' := [.int x4, .ref 1000000, .ref 0]) (E' := E) (I' := I) (J' := J) (S' := S) am_e291 rfl rfl rfl rfl ?_
  refine w_st (i' := 409) (ls' := [.ref 1000000, .ref 0, .ref 99, .ref 145, .int x4, d5, d6]) (st' := [.int (nI 1), .int x4, .ref 1000000, .ref 0]) (E' := E) (I' := I) (J' := J) (S' := S) am_e291 rfl rfl rfl rfl ?_
  refine w_st (i' := 410) (ls' := [.ref 1000000, .ref 0, .ref 99, .ref 145, .int x4, d5, d6]) (st' := [.int (x4 + (nI 1)), .ref 1000000, .ref 0]) (E' := E) (I' := I) (J' := J) (S' := S) am_e291 rfl rfl rfl rfl ?_
  refine w_sa am_e291 rfl h.1 ?_
  replace h := h.2
  refine w_st (i' := 412) (ls' := [.ref 1000000, .ref 0, .ref 99, .ref 145, .int x4, d5, d6]) (st' := [.ref 145, .int (E.2.2.2 (x4 + (nI 1)).toNatClampNeg), .ref 0]) (E' := E) (I' := I) (J' := J) (S' := S) am_e291 rfl rfl rfl rfl ?_
  refine w_cI am_e291 rfl rfl (as := [.ref 0, .int (E.2.2.2 (x4 + (nI 1)).toNatClampNeg), .ref 145]) (rest := []) rfl rfl (am_ww.mono h ?_)
  rintro _ E1 I1 J1 S1 ⟨v1, rfl, h⟩
  refine q_mkI ?_
  refine w_st (i' := 414) (ls' := [.ref 1000000, .ref 0, .ref 99, .ref 145, .int x4, .int v1, d6]) (st' := []) (E' := E1) (I' := I1) (J' := J1) (S' := S1) am_e291 rfl rfl rfl rfl ?_
  refine w_st (i' := 415) (ls' := [.ref 1000000, .ref 0, .ref 99, .ref 145, .int x4, .int v1, d6]) (st' := [.ref 99]) (E' := E1) (I' := I1) (J' := J1) (S' := S1) am_e291 rfl rfl rfl rfl ?_
  refine w_st (i' := 416) (ls' := [.ref 1000000, .ref 0, .ref 99, .ref 145, .int x4, .int v1, d6]) (st' := [.ref 1000000, .ref 99]) (E' := E1) (I' := I1) (J' := J1) (S' := S1) am_e291 rfl rfl rfl rfl ?_
  refine w_st (i' := 417) (ls' := [.ref 1000000, .ref 0, .ref 99, .ref 145, .int x4, .int v1, d6]) (st' := [.int x4, .ref 1000000, .ref 99]) (E' := E1) (I' := I1) (J' := J1) (S' := S1) am_e291 rfl rfl rfl rfl ?_
  refine w_st (i' := 418) (ls' := [.ref 1000000, .ref 0, .ref 99, .ref 145, .int x4, .int v1, d6]) (st' := [.int (nI 1), .int x4, .ref 1000000, .ref 99]) (E' := E1) (I' := I1) (J' := J1) (S' := S1) am_e291 rfl rfl rfl rfl ?_
  refine w_st (i' := 419) (ls' := [.ref 1000000, .ref 0, .ref 99, .ref 145, .int x4, .int v1, d6]) (st' := [.int (x4 + (nI 1)), .ref 1000000, .ref 99]) (E' := E1) (I' := I1) (J' := J1) (S' := S1) am_e291 rfl rfl rfl rfl ?_
  refine w_sa am_e291 rfl h.1 ?_
  replace h := h.2
  refine w_cI am_e291 rfl rfl (as := [.ref 99, .int (E1.2.2.2 (x4 + (nI 1)).toNatClampNeg)]) (rest := []) rfl rfl (am_ww.mono h ?_)
  rintro _ E2 I2 J2 S2 ⟨v2, rfl, h⟩
  refine q_mkI ?_
  refine w_st (i' := 422) (ls' := [.ref 1000000, .ref 0, .ref 99, .ref 145, .int x4, .int v1, .int v2]) (st' := []) (E' := E2) (I' := I2) (J' := J2) (S' := S2) am_e291 rfl rfl rfl rfl ?_
  refine w_st (i' := 423) (ls' := [.ref 1000000, .ref 0, .ref 99, .ref 145, .int x4, .int v1, .int v2]) (st' := [.ref 99]) (E' := E2) (I' := I2) (J' := J2) (S' := S2) am_e291 rfl rfl rfl rfl ?_
  refine w_cI am_e291 rfl rfl (as := [.ref 99]) (rest := []) rfl rfl ?_
  show am_ww 186 0 [.ref 99] [] E2 I2 J2 S2 _
  refine w_st (i' := 1) (ls' := [.ref 99]) (st' := [.ref 99]) (E' := E2) (I' := I2) (J' := J2) (S' := S2) am_e186 rfl rfl rfl rfl ?_
  refine w_st (i' := 2) (ls' := [.ref 99]) (st' := [.int ((I2 99) 3)]) (E' := E2) (I' := I2) (J' := J2) (S' := S2) am_e186 rfl rfl rfl rfl ?_
  refine w_ri am_e186 rfl rfl (q_mkI ?_)
  show am_ww 291 424 [.ref 1000000, .ref 0, .ref 99, .ref 145, .int x4, .int v1, .int v2] [.int ((I2 99) 3)] E2 I2 J2 S2 _
  refine w_st (i' := 425) (ls' := [.ref 1000000, .ref 0, .ref 99, .ref 145, .int x4, .int v1, .int v2]) (st' := [.int v1, .int ((I2 99) 3)]) (E' := E2) (I' := I2) (J' := J2) (S' := S2) am_e291 rfl rfl rfl rfl ?_
  refine w_if2 am_e291 rfl rfl (fun c => ?_) (fun c => ?_)
  · replace h := h.1 (of_decide_eq_true c)
    refine w_st (i' := 429) (ls' := [.ref 1000000, .ref 0, .ref 99, .ref 145, .int x4, .int v1, .int v2]) (st' := [.int v1]) (E' := E2) (I' := I2) (J' := J2) (S' := S2) am_e291 rfl rfl rfl rfl ?_
    refine w_if1 am_e291 rfl rfl (fun c => ?_) (fun c => ?_)
    · replace h := h.2 (of_decide_eq_true c)
      refine w_st (i' := 1129) (ls' := [.ref 1000000, .ref 0, .ref 99, .ref 145, .int x4, .int v1, .int v2]) (st' := []) (E' := E2) (I' := I2) (J' := J2) (S' := S2) am_e291 rfl rfl rfl rfl ?_
      exact h
    · replace h := h.1 (Decidable.not_not.mp (of_decide_eq_false c))
      refine w_st (i' := 431) (ls' := [.ref 1000000, .ref 0, .ref 99, .ref 145, .int x4, .int v1, .int v2]) (st' := [.ref 145]) (E' := E2) (I' := I2) (J' := J2) (S' := S2) am_e291 rfl rfl rfl rfl ?_
      refine w_st (i' := 432) (ls' := [.ref 1000000, .ref 0, .ref 99, .ref 145, .int x4, .int v1, .int v2]) (st' := [.int (nI 0), .ref 145]) (E' := E2) (I' := I2) (J' := J2) (S' := S2) am_e291 rfl rfl rfl rfl ?_
      refine w_la (k := 145) (n := 1) (jn := 0) am_e291 rfl rfl (by decide) (vp_in_nI (by decide) (by decide)) rfl ?_
      show am_ww 291 433 [.ref 1000000, .ref 0, .ref 99, .ref 145, .int x4, .int v1, .int v2] [.long ((J2 145) 0)] E2 I2 J2 S2 _
      refine w_st (i' := 434) (ls' := [.ref 1000000, .ref 0, .ref 99, .ref 145, .int x4, .int v1, .int v2]) (st' := [.int v2, .long ((J2 145) 0)]) (E' := E2) (I' := I2) (J' := J2) (S' := S2) am_e291 rfl rfl rfl rfl ?_
      refine w_st (i' := 435) (ls' := [.ref 1000000, .ref 0, .ref 99, .ref 145, .int x4, .int v1, .int v2]) (st' := [.long v2.toInt64, .long ((J2 145) 0)]) (E' := E2) (I' := I2) (J' := J2) (S' := S2) am_e291 rfl rfl rfl rfl ?_
      refine w_st (i' := 436) (ls' := [.ref 1000000, .ref 0, .ref 99, .ref 145, .int x4, .int v1, .int v2]) (st' := [.int (lg_cmp ((J2 145) 0) v2.toInt64)]) (E' := E2) (I' := I2) (J' := J2) (S' := S2) am_e291 rfl rfl rfl rfl ?_
      refine w_if1 am_e291 rfl rfl (fun c => ?_) (fun c => ?_)
      · replace h := h.1 (of_decide_eq_true c)
        refine w_st (i' := 1129) (ls' := [.ref 1000000, .ref 0, .ref 99, .ref 145, .int x4, .int v1, .int v2]) (st' := []) (E' := E2) (I' := I2) (J' := J2) (S' := S2) am_e291 rfl rfl rfl rfl ?_
        exact h
      · replace h := h.2 (of_decide_eq_false c)
        refine w_st (i' := 438) (ls' := [.ref 1000000, .ref 0, .ref 99, .ref 145, .int x4, .int v1, .int v2]) (st' := [.int (nI 0)]) (E' := E2) (I' := I2) (J' := J2) (S' := S2) am_e291 rfl rfl rfl rfl ?_
        exact w_end am_e291 rfl rfl rfl h
  · replace h := h.2 (of_decide_eq_false c)
    refine w_st (i' := 427) (ls' := [.ref 1000000, .ref 0, .ref 99, .ref 145, .int x4, .int v1, .int v2]) (st' := [.int (nI 0)]) (E' := E2) (I' := I2) (J' := J2) (S' := S2) am_e291 rfl rfl rfl rfl ?_
    exact w_end am_e291 rfl rfl rfl h
set_option maxRecDepth 12000 in
theorem g291_440 {x4 : Int32} {d5 : Value} {d6 : Value} {E : am_Ev} {I : Nat → Nat → Int32} {J : Nat → Nat → Int64} {S : Nat → Nat → Option Nat} {Q : am_Qt} (hd5 : am_isL d5 = false) (hd6 : am_isL d6 = false) (h : vp_in (x4 + (nI 1)) E.2.2.1 ∧ (am_cl 122 [.ref 0, .int (E.2.2.2 (x4 + (nI 1)).toNatClampNeg), .ref 145] E I J S (q_I fun v1 E1 I1 J1 S1 => vp_in (x4 + (nI 1)) E1.2.2.1 ∧ (am_cl 251 [.ref 99, .int (E1.2.2.2 (x4 + (nI 1)).toNatClampNeg)] E1 I1 J1 S1 (q_I fun v2 E2 I2 J2 S2 => (((I2 99) 3) = v1 → ((v1 = 0 → (((lg_cmp ((J2 145) 0) v2.toInt64) = 0 → (am_ww 291 1129 [.ref 1000000, .ref 0, .ref 99, .ref 145, .int x4, .int v1, .int v2] [] E2 I2 J2 S2 Q)) ∧ (¬ (lg_cmp ((J2 145) 0) v2.toInt64) = 0 → (Q (.inl (some (.int (nI 0)))) E2 I2 J2 S2)))) ∧ (¬ v1 = 0 → (am_ww 291 1129 [.ref 1000000, .ref 0, .ref 99, .ref 145, .int x4, .int v1, .int v2] [] E2 I2 J2 S2 Q)))) ∧ (¬ ((I2 99) 3) = v1 → (Q (.inl (some (.int (nI 0)))) E2 I2 J2 S2))))))) : am_ww 291 440 [.ref 1000000, .ref 0, .ref 99, .ref 145, .int x4, d5, d6] [] E I J S Q := by
  refine w_st (i' := 441) (ls' := [.ref 1000000, .ref 0, .ref 99, .ref 145, .int x4, d5, d6]) (st' := [.ref 0]) (E' := E) (I' := I) (J' := J) (S' := S) am_e291 rfl rfl rfl rfl ?_
  refine w_st (i' := 442) (ls' := [.ref 1000000, .ref 0, .ref 99, .ref 145, .int x4, d5, d6]) (st' := [.ref 1000000, .ref 0]) (E' := E) (I' := I) (J' := J) (S' := S) am_e291 rfl rfl rfl rfl ?_
  refine w_st (i' := 443) (ls' := [.ref 1000000, .ref 0, .ref 99, .ref 145, .int x4, d5, d6]) (st' := [.int x4, .ref 1000000, .ref 0]) (E' := E) (I' := I) (J' := J) (S' := S) am_e291 rfl rfl rfl rfl ?_
  refine w_st (i' := 444) (ls' := [.ref 1000000, .ref 0, .ref 99, .ref 145, .int x4, d5, d6]) (st' := [.int (nI 1), .int x4, .ref 1000000, .ref 0]) (E' := E) (I' := I) (J' := J) (S' := S) am_e291 rfl rfl rfl rfl ?_
  refine w_st (i' := 445) (ls' := [.ref 1000000, .ref 0, .ref 99, .ref 145, .int x4, d5, d6]) (st' := [.int (x4 + (nI 1)), .ref 1000000, .ref 0]) (E' := E) (I' := I) (J' := J) (S' := S) am_e291 rfl rfl rfl rfl ?_
  refine w_sa am_e291 rfl h.1 ?_
  replace h := h.2
  refine w_st (i' := 447) (ls' := [.ref 1000000, .ref 0, .ref 99, .ref 145, .int x4, d5, d6]) (st' := [.ref 145, .int (E.2.2.2 (x4 + (nI 1)).toNatClampNeg), .ref 0]) (E' := E) (I' := I) (J' := J) (S' := S) am_e291 rfl rfl rfl rfl ?_
  refine w_cI am_e291 rfl rfl (as := [.ref 0, .int (E.2.2.2 (x4 + (nI 1)).toNatClampNeg), .ref 145]) (rest := []) rfl rfl (am_ww.mono h ?_)
  rintro _ E1 I1 J1 S1 ⟨v1, rfl, h⟩
  refine q_mkI ?_
  refine w_st (i' := 449) (ls' := [.ref 1000000, .ref 0, .ref 99, .ref 145, .int x4, .int v1, d6]) (st' := []) (E' := E1) (I' := I1) (J' := J1) (S' := S1) am_e291 rfl rfl rfl rfl ?_
  refine w_st (i' := 450) (ls' := [.ref 1000000, .ref 0, .ref 99, .ref 145, .int x4, .int v1, d6]) (st' := [.ref 99]) (E' := E1) (I' := I1) (J' := J1) (S' := S1) am_e291 rfl rfl rfl rfl ?_
  refine w_st (i' := 451) (ls' := [.ref 1000000, .ref 0, .ref 99, .ref 145, .int x4, .int v1, d6]) (st' := [.ref 1000000, .ref 99]) (E' := E1) (I' := I1) (J' := J1) (S' := S1) am_e291 rfl rfl rfl rfl ?_
  refine w_st (i' := 452) (ls' := [.ref 1000000, .ref 0, .ref 99, .ref 145, .int x4, .int v1, d6]) (st' := [.int x4, .ref 1000000, .ref 99]) (E' := E1) (I' := I1) (J' := J1) (S' := S1) am_e291 rfl rfl rfl rfl ?_
  refine w_st (i' := 453) (ls' := [.ref 1000000, .ref 0, .ref 99, .ref 145, .int x4, .int v1, d6]) (st' := [.int (nI 1), .int x4, .ref 1000000, .ref 99]) (E' := E1) (I' := I1) (J' := J1) (S' := S1) am_e291 rfl rfl rfl rfl ?_
  refine w_st (i' := 454) (ls' := [.ref 1000000, .ref 0, .ref 99, .ref 145, .int x4, .int v1, d6]) (st' := [.int (x4 + (nI 1)), .ref 1000000, .ref 99]) (E' := E1) (I' := I1) (J' := J1) (S' := S1) am_e291 rfl rfl rfl rfl ?_
  refine w_sa am_e291 rfl h.1 ?_
  replace h := h.2
  refine w_cI am_e291 rfl rfl (as := [.ref 99, .int (E1.2.2.2 (x4 + (nI 1)).toNatClampNeg)]) (rest := []) rfl rfl (am_ww.mono h ?_)
  rintro _ E2 I2 J2 S2 ⟨v2, rfl, h⟩
  refine q_mkI ?_
  refine w_st (i' := 457) (ls' := [.ref 1000000, .ref 0, .ref 99, .ref 145, .int x4, .int v1, .int v2]) (st' := []) (E' := E2) (I' := I2) (J' := J2) (S' := S2) am_e291 rfl rfl rfl rfl ?_
  refine w_st (i' := 458) (ls' := [.ref 1000000, .ref 0, .ref 99, .ref 145, .int x4, .int v1, .int v2]) (st' := [.ref 99]) (E' := E2) (I' := I2) (J' := J2) (S' := S2) am_e291 rfl rfl rfl rfl ?_
  refine w_cI am_e291 rfl rfl (as := [.ref 99]) (rest := []) rfl rfl ?_
  show am_ww 186 0 [.ref 99] [] E2 I2 J2 S2 _
  refine w_st (i' := 1) (ls' := [.ref 99]) (st' := [.ref 99]) (E' := E2) (I' := I2) (J' := J2) (S' := S2) am_e186 rfl rfl rfl rfl ?_
  refine w_st (i' := 2) (ls' := [.ref 99]) (st' := [.int ((I2 99) 3)]) (E' := E2) (I' := I2) (J' := J2) (S' := S2) am_e186 rfl rfl rfl rfl ?_
  refine w_ri am_e186 rfl rfl (q_mkI ?_)
  show am_ww 291 459 [.ref 1000000, .ref 0, .ref 99, .ref 145, .int x4, .int v1, .int v2] [.int ((I2 99) 3)] E2 I2 J2 S2 _
  refine w_st (i' := 460) (ls' := [.ref 1000000, .ref 0, .ref 99, .ref 145, .int x4, .int v1, .int v2]) (st' := [.int v1, .int ((I2 99) 3)]) (E' := E2) (I' := I2) (J' := J2) (S' := S2) am_e291 rfl rfl rfl rfl ?_
  refine w_if2 am_e291 rfl rfl (fun c => ?_) (fun c => ?_)
  · replace h := h.1 (of_decide_eq_true c)
    refine w_st (i' := 464) (ls' := [.ref 1000000, .ref 0, .ref 99, .ref 145, .int x4, .int v1, .int v2]) (st' := [.int v1]) (E' := E2) (I' := I2) (J' := J2) (S' := S2) am_e291 rfl rfl rfl rfl ?_
    refine w_if1 am_e291 rfl rfl (fun c => ?_) (fun c => ?_)
    · replace h := h.2 (of_decide_eq_true c)
      refine w_st (i' := 1129) (ls' := [.ref 1000000, .ref 0, .ref 99, .ref 145, .int x4, .int v1, .int v2]) (st' := []) (E' := E2) (I' := I2) (J' := J2) (S' := S2) am_e291 rfl rfl rfl rfl ?_
      exact h
    · replace h := h.1 (Decidable.not_not.mp (of_decide_eq_false c))
      refine w_st (i' := 466) (ls' := [.ref 1000000, .ref 0, .ref 99, .ref 145, .int x4, .int v1, .int v2]) (st' := [.ref 145]) (E' := E2) (I' := I2) (J' := J2) (S' := S2) am_e291 rfl rfl rfl rfl ?_
      refine w_st (i' := 467) (ls' := [.ref 1000000, .ref 0, .ref 99, .ref 145, .int x4, .int v1, .int v2]) (st' := [.int (nI 0), .ref 145]) (E' := E2) (I' := I2) (J' := J2) (S' := S2) am_e291 rfl rfl rfl rfl ?_
      refine w_la (k := 145) (n := 1) (jn := 0) am_e291 rfl rfl (by decide) (vp_in_nI (by decide) (by decide)) rfl ?_
      show am_ww 291 468 [.ref 1000000, .ref 0, .ref 99, .ref 145, .int x4, .int v1, .int v2] [.long ((J2 145) 0)] E2 I2 J2 S2 _
      refine w_st (i' := 469) (ls' := [.ref 1000000, .ref 0, .ref 99, .ref 145, .int x4, .int v1, .int v2]) (st' := [.int v2, .long ((J2 145) 0)]) (E' := E2) (I' := I2) (J' := J2) (S' := S2) am_e291 rfl rfl rfl rfl ?_
      refine w_st (i' := 470) (ls' := [.ref 1000000, .ref 0, .ref 99, .ref 145, .int x4, .int v1, .int v2]) (st' := [.long v2.toInt64, .long ((J2 145) 0)]) (E' := E2) (I' := I2) (J' := J2) (S' := S2) am_e291 rfl rfl rfl rfl ?_
      refine w_st (i' := 471) (ls' := [.ref 1000000, .ref 0, .ref 99, .ref 145, .int x4, .int v1, .int v2]) (st' := [.int (lg_cmp ((J2 145) 0) v2.toInt64)]) (E' := E2) (I' := I2) (J' := J2) (S' := S2) am_e291 rfl rfl rfl rfl ?_
      refine w_if1 am_e291 rfl rfl (fun c => ?_) (fun c => ?_)
      · replace h := h.1 (of_decide_eq_true c)
        refine w_st (i' := 1129) (ls' := [.ref 1000000, .ref 0, .ref 99, .ref 145, .int x4, .int v1, .int v2]) (st' := []) (E' := E2) (I' := I2) (J' := J2) (S' := S2) am_e291 rfl rfl rfl rfl ?_
        exact h
      · replace h := h.2 (of_decide_eq_false c)
        refine w_st (i' := 473) (ls' := [.ref 1000000, .ref 0, .ref 99, .ref 145, .int x4, .int v1, .int v2]) (st' := [.int (nI 0)]) (E' := E2) (I' := I2) (J' := J2) (S' := S2) am_e291 rfl rfl rfl rfl ?_
        exact w_end am_e291 rfl rfl rfl h
  · replace h := h.2 (of_decide_eq_false c)
    refine w_st (i' := 462) (ls' := [.ref 1000000, .ref 0, .ref 99, .ref 145, .int x4, .int v1, .int v2]) (st' := [.int (nI 0)]) (E' := E2) (I' := I2) (J' := J2) (S' := S2) am_e291 rfl rfl rfl rfl ?_
    exact w_end am_e291 rfl rfl rfl h
set_option maxRecDepth 12000 in
theorem g291_475 {x4 : Int32} {d5 : Value} {d6 : Value} {E : am_Ev} {I : Nat → Nat → Int32} {J : Nat → Nat → Int64} {S : Nat → Nat → Option Nat} {Q : am_Qt} (hd5 : am_isL d5 = false) (hd6 : am_isL d6 = false) (h : vp_in (x4 + (nI 1)) E.2.2.1 ∧ (vp_in (x4 + (nI 2)) E.2.2.1 ∧ (am_cl 125 [.ref 0, .int (E.2.2.2 (x4 + (nI 1)).toNatClampNeg), .int (E.2.2.2 (x4 + (nI 2)).toNatClampNeg), .ref 145] E I J S (q_I fun v1 E1 I1 J1 S1 => vp_in (x4 + (nI 1)) E1.2.2.1 ∧ (vp_in (x4 + (nI 2)) E1.2.2.1 ∧ (am_cl 252 [.ref 99, .int (E1.2.2.2 (x4 + (nI 1)).toNatClampNeg), .int (E1.2.2.2 (x4 + (nI 2)).toNatClampNeg)] E1 I1 J1 S1 (q_I fun v2 E2 I2 J2 S2 => (((I2 99) 3) = v1 → ((v1 = 0 → (((lg_cmp ((J2 145) 0) v2.toInt64) = 0 → (am_ww 291 1129 [.ref 1000000, .ref 0, .ref 99, .ref 145, .int x4, .int v1, .int v2] [] E2 I2 J2 S2 Q)) ∧ (¬ (lg_cmp ((J2 145) 0) v2.toInt64) = 0 → (Q (.inl (some (.int (nI 0)))) E2 I2 J2 S2)))) ∧ (¬ v1 = 0 → (am_ww 291 1129 [.ref 1000000, .ref 0, .ref 99, .ref 145, .int x4, .int v1, .int v2] [] E2 I2 J2 S2 Q)))) ∧ (¬ ((I2 99) 3) = v1 → (Q (.inl (some (.int (nI 0)))) E2 I2 J2 S2))))))))) : am_ww 291 475 [.ref 1000000, .ref 0, .ref 99, .ref 145, .int x4, d5, d6] [] E I J S Q := by
  refine w_st (i' := 476) (ls' := [.ref 1000000, .ref 0, .ref 99, .ref 145, .int x4, d5, d6]) (st' := [.ref 0]) (E' := E) (I' := I) (J' := J) (S' := S) am_e291 rfl rfl rfl rfl ?_
  refine w_st (i' := 477) (ls' := [.ref 1000000, .ref 0, .ref 99, .ref 145, .int x4, d5, d6]) (st' := [.ref 1000000, .ref 0]) (E' := E) (I' := I) (J' := J) (S' := S) am_e291 rfl rfl rfl rfl ?_
  refine w_st (i' := 478) (ls' := [.ref 1000000, .ref 0, .ref 99, .ref 145, .int x4, d5, d6]) (st' := [.int x4, .ref 1000000, .ref 0]) (E' := E) (I' := I) (J' := J) (S' := S) am_e291 rfl rfl rfl rfl ?_
  refine w_st (i' := 479) (ls' := [.ref 1000000, .ref 0, .ref 99, .ref 145, .int x4, d5, d6]) (st' := [.int (nI 1), .int x4, .ref 1000000, .ref 0]) (E' := E) (I' := I) (J' := J) (S' := S) am_e291 rfl rfl rfl rfl ?_
  refine w_st (i' := 480) (ls' := [.ref 1000000, .ref 0, .ref 99, .ref 145, .int x4, d5, d6]) (st' := [.int (x4 + (nI 1)), .ref 1000000, .ref 0]) (E' := E) (I' := I) (J' := J) (S' := S) am_e291 rfl rfl rfl rfl ?_
  refine w_sa am_e291 rfl h.1 ?_
  replace h := h.2
  refine w_st (i' := 482) (ls' := [.ref 1000000, .ref 0, .ref 99, .ref 145, .int x4, d5, d6]) (st' := [.ref 1000000, .int (E.2.2.2 (x4 + (nI 1)).toNatClampNeg), .ref 0]) (E' := E) (I' := I) (J' := J) (S' := S) am_e291 rfl rfl rfl rfl ?_
  refine w_st (i' := 483) (ls' := [.ref 1000000, .ref 0, .ref 99, .ref 145, .int x4, d5, d6]) (st' := [.int x4, .ref 1000000, .int (E.2.2.2 (x4 + (nI 1)).toNatClampNeg), .ref 0]) (E' := E) (I' := I) (J' := J) (S' := S) am_e291 rfl rfl rfl rfl ?_
  refine w_st (i' := 484) (ls' := [.ref 1000000, .ref 0, .ref 99, .ref 145, .int x4, d5, d6]) (st' := [.int (nI 2), .int x4, .ref 1000000, .int (E.2.2.2 (x4 + (nI 1)).toNatClampNeg), .ref 0]) (E' := E) (I' := I) (J' := J) (S' := S) am_e291 rfl rfl rfl rfl ?_
  refine w_st (i' := 485) (ls' := [.ref 1000000, .ref 0, .ref 99, .ref 145, .int x4, d5, d6]) (st' := [.int (x4 + (nI 2)), .ref 1000000, .int (E.2.2.2 (x4 + (nI 1)).toNatClampNeg), .ref 0]) (E' := E) (I' := I) (J' := J) (S' := S) am_e291 rfl rfl rfl rfl ?_
  refine w_sa am_e291 rfl h.1 ?_
  replace h := h.2
  refine w_st (i' := 487) (ls' := [.ref 1000000, .ref 0, .ref 99, .ref 145, .int x4, d5, d6]) (st' := [.ref 145, .int (E.2.2.2 (x4 + (nI 2)).toNatClampNeg), .int (E.2.2.2 (x4 + (nI 1)).toNatClampNeg), .ref 0]) (E' := E) (I' := I) (J' := J) (S' := S) am_e291 rfl rfl rfl rfl ?_
  refine w_cI am_e291 rfl rfl (as := [.ref 0, .int (E.2.2.2 (x4 + (nI 1)).toNatClampNeg), .int (E.2.2.2 (x4 + (nI 2)).toNatClampNeg), .ref 145]) (rest := []) rfl rfl (am_ww.mono h ?_)
  rintro _ E1 I1 J1 S1 ⟨v1, rfl, h⟩
  refine q_mkI ?_
  refine w_st (i' := 489) (ls' := [.ref 1000000, .ref 0, .ref 99, .ref 145, .int x4, .int v1, d6]) (st' := []) (E' := E1) (I' := I1) (J' := J1) (S' := S1) am_e291 rfl rfl rfl rfl ?_
  refine w_st (i' := 490) (ls' := [.ref 1000000, .ref 0, .ref 99, .ref 145, .int x4, .int v1, d6]) (st' := [.ref 99]) (E' := E1) (I' := I1) (J' := J1) (S' := S1) am_e291 rfl rfl rfl rfl ?_
  refine w_st (i' := 491) (ls' := [.ref 1000000, .ref 0, .ref 99, .ref 145, .int x4, .int v1, d6]) (st' := [.ref 1000000, .ref 99]) (E' := E1) (I' := I1) (J' := J1) (S' := S1) am_e291 rfl rfl rfl rfl ?_
  refine w_st (i' := 492) (ls' := [.ref 1000000, .ref 0, .ref 99, .ref 145, .int x4, .int v1, d6]) (st' := [.int x4, .ref 1000000, .ref 99]) (E' := E1) (I' := I1) (J' := J1) (S' := S1) am_e291 rfl rfl rfl rfl ?_
  refine w_st (i' := 493) (ls' := [.ref 1000000, .ref 0, .ref 99, .ref 145, .int x4, .int v1, d6]) (st' := [.int (nI 1), .int x4, .ref 1000000, .ref 99]) (E' := E1) (I' := I1) (J' := J1) (S' := S1) am_e291 rfl rfl rfl rfl ?_
  refine w_st (i' := 494) (ls' := [.ref 1000000, .ref 0, .ref 99, .ref 145, .int x4, .int v1, d6]) (st' := [.int (x4 + (nI 1)), .ref 1000000, .ref 99]) (E' := E1) (I' := I1) (J' := J1) (S' := S1) am_e291 rfl rfl rfl rfl ?_
  refine w_sa am_e291 rfl h.1 ?_
  replace h := h.2
  refine w_st (i' := 496) (ls' := [.ref 1000000, .ref 0, .ref 99, .ref 145, .int x4, .int v1, d6]) (st' := [.ref 1000000, .int (E1.2.2.2 (x4 + (nI 1)).toNatClampNeg), .ref 99]) (E' := E1) (I' := I1) (J' := J1) (S' := S1) am_e291 rfl rfl rfl rfl ?_
  refine w_st (i' := 497) (ls' := [.ref 1000000, .ref 0, .ref 99, .ref 145, .int x4, .int v1, d6]) (st' := [.int x4, .ref 1000000, .int (E1.2.2.2 (x4 + (nI 1)).toNatClampNeg), .ref 99]) (E' := E1) (I' := I1) (J' := J1) (S' := S1) am_e291 rfl rfl rfl rfl ?_
  refine w_st (i' := 498) (ls' := [.ref 1000000, .ref 0, .ref 99, .ref 145, .int x4, .int v1, d6]) (st' := [.int (nI 2), .int x4, .ref 1000000, .int (E1.2.2.2 (x4 + (nI 1)).toNatClampNeg), .ref 99]) (E' := E1) (I' := I1) (J' := J1) (S' := S1) am_e291 rfl rfl rfl rfl ?_
  refine w_st (i' := 499) (ls' := [.ref 1000000, .ref 0, .ref 99, .ref 145, .int x4, .int v1, d6]) (st' := [.int (x4 + (nI 2)), .ref 1000000, .int (E1.2.2.2 (x4 + (nI 1)).toNatClampNeg), .ref 99]) (E' := E1) (I' := I1) (J' := J1) (S' := S1) am_e291 rfl rfl rfl rfl ?_
  refine w_sa am_e291 rfl h.1 ?_
  replace h := h.2
  refine w_cI am_e291 rfl rfl (as := [.ref 99, .int (E1.2.2.2 (x4 + (nI 1)).toNatClampNeg), .int (E1.2.2.2 (x4 + (nI 2)).toNatClampNeg)]) (rest := []) rfl rfl (am_ww.mono h ?_)
  rintro _ E2 I2 J2 S2 ⟨v2, rfl, h⟩
  refine q_mkI ?_
  refine w_st (i' := 502) (ls' := [.ref 1000000, .ref 0, .ref 99, .ref 145, .int x4, .int v1, .int v2]) (st' := []) (E' := E2) (I' := I2) (J' := J2) (S' := S2) am_e291 rfl rfl rfl rfl ?_
  refine w_st (i' := 503) (ls' := [.ref 1000000, .ref 0, .ref 99, .ref 145, .int x4, .int v1, .int v2]) (st' := [.ref 99]) (E' := E2) (I' := I2) (J' := J2) (S' := S2) am_e291 rfl rfl rfl rfl ?_
  refine w_cI am_e291 rfl rfl (as := [.ref 99]) (rest := []) rfl rfl ?_
  show am_ww 186 0 [.ref 99] [] E2 I2 J2 S2 _
  refine w_st (i' := 1) (ls' := [.ref 99]) (st' := [.ref 99]) (E' := E2) (I' := I2) (J' := J2) (S' := S2) am_e186 rfl rfl rfl rfl ?_
  refine w_st (i' := 2) (ls' := [.ref 99]) (st' := [.int ((I2 99) 3)]) (E' := E2) (I' := I2) (J' := J2) (S' := S2) am_e186 rfl rfl rfl rfl ?_
  refine w_ri am_e186 rfl rfl (q_mkI ?_)
  show am_ww 291 504 [.ref 1000000, .ref 0, .ref 99, .ref 145, .int x4, .int v1, .int v2] [.int ((I2 99) 3)] E2 I2 J2 S2 _
  refine w_st (i' := 505) (ls' := [.ref 1000000, .ref 0, .ref 99, .ref 145, .int x4, .int v1, .int v2]) (st' := [.int v1, .int ((I2 99) 3)]) (E' := E2) (I' := I2) (J' := J2) (S' := S2) am_e291 rfl rfl rfl rfl ?_
  refine w_if2 am_e291 rfl rfl (fun c => ?_) (fun c => ?_)
  · replace h := h.1 (of_decide_eq_true c)
    refine w_st (i' := 509) (ls' := [.ref 1000000, .ref 0, .ref 99, .ref 145, .int x4, .int v1, .int v2]) (st' := [.int v1]) (E' := E2) (I' := I2) (J' := J2) (S' := S2) am_e291 rfl rfl rfl rfl ?_
    refine w_if1 am_e291 rfl rfl (fun c => ?_) (fun c => ?_)
    · replace h := h.2 (of_decide_eq_true c)
      refine w_st (i' := 1129) (ls' := [.ref 1000000, .ref 0, .ref 99, .ref 145, .int x4, .int v1, .int v2]) (st' := []) (E' := E2) (I' := I2) (J' := J2) (S' := S2) am_e291 rfl rfl rfl rfl ?_
      exact h
    · replace h := h.1 (Decidable.not_not.mp (of_decide_eq_false c))
      refine w_st (i' := 511) (ls' := [.ref 1000000, .ref 0, .ref 99, .ref 145, .int x4, .int v1, .int v2]) (st' := [.ref 145]) (E' := E2) (I' := I2) (J' := J2) (S' := S2) am_e291 rfl rfl rfl rfl ?_
      refine w_st (i' := 512) (ls' := [.ref 1000000, .ref 0, .ref 99, .ref 145, .int x4, .int v1, .int v2]) (st' := [.int (nI 0), .ref 145]) (E' := E2) (I' := I2) (J' := J2) (S' := S2) am_e291 rfl rfl rfl rfl ?_
      refine w_la (k := 145) (n := 1) (jn := 0) am_e291 rfl rfl (by decide) (vp_in_nI (by decide) (by decide)) rfl ?_
      show am_ww 291 513 [.ref 1000000, .ref 0, .ref 99, .ref 145, .int x4, .int v1, .int v2] [.long ((J2 145) 0)] E2 I2 J2 S2 _
      refine w_st (i' := 514) (ls' := [.ref 1000000, .ref 0, .ref 99, .ref 145, .int x4, .int v1, .int v2]) (st' := [.int v2, .long ((J2 145) 0)]) (E' := E2) (I' := I2) (J' := J2) (S' := S2) am_e291 rfl rfl rfl rfl ?_
      refine w_st (i' := 515) (ls' := [.ref 1000000, .ref 0, .ref 99, .ref 145, .int x4, .int v1, .int v2]) (st' := [.long v2.toInt64, .long ((J2 145) 0)]) (E' := E2) (I' := I2) (J' := J2) (S' := S2) am_e291 rfl rfl rfl rfl ?_
      refine w_st (i' := 516) (ls' := [.ref 1000000, .ref 0, .ref 99, .ref 145, .int x4, .int v1, .int v2]) (st' := [.int (lg_cmp ((J2 145) 0) v2.toInt64)]) (E' := E2) (I' := I2) (J' := J2) (S' := S2) am_e291 rfl rfl rfl rfl ?_
      refine w_if1 am_e291 rfl rfl (fun c => ?_) (fun c => ?_)
      · replace h := h.1 (of_decide_eq_true c)
        refine w_st (i' := 1129) (ls' := [.ref 1000000, .ref 0, .ref 99, .ref 145, .int x4, .int v1, .int v2]) (st' := []) (E' := E2) (I' := I2) (J' := J2) (S' := S2) am_e291 rfl rfl rfl rfl ?_
        exact h
      · replace h := h.2 (of_decide_eq_false c)
        refine w_st (i' := 518) (ls' := [.ref 1000000, .ref 0, .ref 99, .ref 145, .int x4, .int v1, .int v2]) (st' := [.int (nI 0)]) (E' := E2) (I' := I2) (J' := J2) (S' := S2) am_e291 rfl rfl rfl rfl ?_
        exact w_end am_e291 rfl rfl rfl h
  · replace h := h.2 (of_decide_eq_false c)
    refine w_st (i' := 507) (ls' := [.ref 1000000, .ref 0, .ref 99, .ref 145, .int x4, .int v1, .int v2]) (st' := [.int (nI 0)]) (E' := E2) (I' := I2) (J' := J2) (S' := S2) am_e291 rfl rfl rfl rfl ?_
    exact w_end am_e291 rfl rfl rfl h
set_option maxRecDepth 12000 in
theorem g291_520 {x4 : Int32} {d5 : Value} {d6 : Value} {E : am_Ev} {I : Nat → Nat → Int32} {J : Nat → Nat → Int64} {S : Nat → Nat → Option Nat} {Q : am_Qt} (hd5 : am_isL d5 = false) (hd6 : am_isL d6 = false) (h : vp_in (x4 + (nI 1)) E.2.2.1 ∧ (am_cl 128 [.ref 0, .int (E.2.2.2 (x4 + (nI 1)).toNatClampNeg), .ref 145] E I J S (q_I fun v1 E1 I1 J1 S1 => vp_in (x4 + (nI 1)) E1.2.2.1 ∧ (am_cl 253 [.ref 99, .int (E1.2.2.2 (x4 + (nI 1)).toNatClampNeg)] E1 I1 J1 S1 (q_I fun v2 E2 I2 J2 S2 => (((I2 99) 3) = v1 → ((v1 = 0 → (((lg_cmp ((J2 145) 0) v2.toInt64) = 0 → (am_ww 291 1129 [.ref 1000000, .ref 0, .ref 99, .ref 145, .int x4, .int v1, .int v2] [] E2 I2 J2 S2 Q)) ∧ (¬ (lg_cmp ((J2 145) 0) v2.toInt64) = 0 → (Q (.inl (some (.int (nI 0)))) E2 I2 J2 S2)))) ∧ (¬ v1 = 0 → (am_ww 291 1129 [.ref 1000000, .ref 0, .ref 99, .ref 145, .int x4, .int v1, .int v2] [] E2 I2 J2 S2 Q)))) ∧ (¬ ((I2 99) 3) = v1 → (Q (.inl (some (.int (nI 0)))) E2 I2 J2 S2))))))) : am_ww 291 520 [.ref 1000000, .ref 0, .ref 99, .ref 145, .int x4, d5, d6] [] E I J S Q := by
  refine w_st (i' := 521) (ls' := [.ref 1000000, .ref 0, .ref 99, .ref 145, .int x4, d5, d6]) (st' := [.ref 0]) (E' := E) (I' := I) (J' := J) (S' := S) am_e291 rfl rfl rfl rfl ?_
  refine w_st (i' := 522) (ls' := [.ref 1000000, .ref 0, .ref 99, .ref 145, .int x4, d5, d6]) (st' := [.ref 1000000, .ref 0]) (E' := E) (I' := I) (J' := J) (S' := S) am_e291 rfl rfl rfl rfl ?_
  refine w_st (i' := 523) (ls' := [.ref 1000000, .ref 0, .ref 99, .ref 145, .int x4, d5, d6]) (st' := [.int x4, .ref 1000000, .ref 0]) (E' := E) (I' := I) (J' := J) (S' := S) am_e291 rfl rfl rfl rfl ?_
  refine w_st (i' := 524) (ls' := [.ref 1000000, .ref 0, .ref 99, .ref 145, .int x4, d5, d6]) (st' := [.int (nI 1), .int x4, .ref 1000000, .ref 0]) (E' := E) (I' := I) (J' := J) (S' := S) am_e291 rfl rfl rfl rfl ?_
  refine w_st (i' := 525) (ls' := [.ref 1000000, .ref 0, .ref 99, .ref 145, .int x4, d5, d6]) (st' := [.int (x4 + (nI 1)), .ref 1000000, .ref 0]) (E' := E) (I' := I) (J' := J) (S' := S) am_e291 rfl rfl rfl rfl ?_
  refine w_sa am_e291 rfl h.1 ?_
  replace h := h.2
  refine w_st (i' := 527) (ls' := [.ref 1000000, .ref 0, .ref 99, .ref 145, .int x4, d5, d6]) (st' := [.ref 145, .int (E.2.2.2 (x4 + (nI 1)).toNatClampNeg), .ref 0]) (E' := E) (I' := I) (J' := J) (S' := S) am_e291 rfl rfl rfl rfl ?_
  refine w_cI am_e291 rfl rfl (as := [.ref 0, .int (E.2.2.2 (x4 + (nI 1)).toNatClampNeg), .ref 145]) (rest := []) rfl rfl (am_ww.mono h ?_)
  rintro _ E1 I1 J1 S1 ⟨v1, rfl, h⟩
  refine q_mkI ?_
  refine w_st (i' := 529) (ls' := [.ref 1000000, .ref 0, .ref 99, .ref 145, .int x4, .int v1, d6]) (st' := []) (E' := E1) (I' := I1) (J' := J1) (S' := S1) am_e291 rfl rfl rfl rfl ?_
  refine w_st (i' := 530) (ls' := [.ref 1000000, .ref 0, .ref 99, .ref 145, .int x4, .int v1, d6]) (st' := [.ref 99]) (E' := E1) (I' := I1) (J' := J1) (S' := S1) am_e291 rfl rfl rfl rfl ?_
  refine w_st (i' := 531) (ls' := [.ref 1000000, .ref 0, .ref 99, .ref 145, .int x4, .int v1, d6]) (st' := [.ref 1000000, .ref 99]) (E' := E1) (I' := I1) (J' := J1) (S' := S1) am_e291 rfl rfl rfl rfl ?_
  refine w_st (i' := 532) (ls' := [.ref 1000000, .ref 0, .ref 99, .ref 145, .int x4, .int v1, d6]) (st' := [.int x4, .ref 1000000, .ref 99]) (E' := E1) (I' := I1) (J' := J1) (S' := S1) am_e291 rfl rfl rfl rfl ?_
  refine w_st (i' := 533) (ls' := [.ref 1000000, .ref 0, .ref 99, .ref 145, .int x4, .int v1, d6]) (st' := [.int (nI 1), .int x4, .ref 1000000, .ref 99]) (E' := E1) (I' := I1) (J' := J1) (S' := S1) am_e291 rfl rfl rfl rfl ?_
  refine w_st (i' := 534) (ls' := [.ref 1000000, .ref 0, .ref 99, .ref 145, .int x4, .int v1, d6]) (st' := [.int (x4 + (nI 1)), .ref 1000000, .ref 99]) (E' := E1) (I' := I1) (J' := J1) (S' := S1) am_e291 rfl rfl rfl rfl ?_
  refine w_sa am_e291 rfl h.1 ?_
  replace h := h.2
  refine w_cI am_e291 rfl rfl (as := [.ref 99, .int (E1.2.2.2 (x4 + (nI 1)).toNatClampNeg)]) (rest := []) rfl rfl (am_ww.mono h ?_)
  rintro _ E2 I2 J2 S2 ⟨v2, rfl, h⟩
  refine q_mkI ?_
  refine w_st (i' := 537) (ls' := [.ref 1000000, .ref 0, .ref 99, .ref 145, .int x4, .int v1, .int v2]) (st' := []) (E' := E2) (I' := I2) (J' := J2) (S' := S2) am_e291 rfl rfl rfl rfl ?_
  refine w_st (i' := 538) (ls' := [.ref 1000000, .ref 0, .ref 99, .ref 145, .int x4, .int v1, .int v2]) (st' := [.ref 99]) (E' := E2) (I' := I2) (J' := J2) (S' := S2) am_e291 rfl rfl rfl rfl ?_
  refine w_cI am_e291 rfl rfl (as := [.ref 99]) (rest := []) rfl rfl ?_
  show am_ww 186 0 [.ref 99] [] E2 I2 J2 S2 _
  refine w_st (i' := 1) (ls' := [.ref 99]) (st' := [.ref 99]) (E' := E2) (I' := I2) (J' := J2) (S' := S2) am_e186 rfl rfl rfl rfl ?_
  refine w_st (i' := 2) (ls' := [.ref 99]) (st' := [.int ((I2 99) 3)]) (E' := E2) (I' := I2) (J' := J2) (S' := S2) am_e186 rfl rfl rfl rfl ?_
  refine w_ri am_e186 rfl rfl (q_mkI ?_)
  show am_ww 291 539 [.ref 1000000, .ref 0, .ref 99, .ref 145, .int x4, .int v1, .int v2] [.int ((I2 99) 3)] E2 I2 J2 S2 _
  refine w_st (i' := 540) (ls' := [.ref 1000000, .ref 0, .ref 99, .ref 145, .int x4, .int v1, .int v2]) (st' := [.int v1, .int ((I2 99) 3)]) (E' := E2) (I' := I2) (J' := J2) (S' := S2) am_e291 rfl rfl rfl rfl ?_
  refine w_if2 am_e291 rfl rfl (fun c => ?_) (fun c => ?_)
  · replace h := h.1 (of_decide_eq_true c)
    refine w_st (i' := 544) (ls' := [.ref 1000000, .ref 0, .ref 99, .ref 145, .int x4, .int v1, .int v2]) (st' := [.int v1]) (E' := E2) (I' := I2) (J' := J2) (S' := S2) am_e291 rfl rfl rfl rfl ?_
    refine w_if1 am_e291 rfl rfl (fun c => ?_) (fun c => ?_)
    · replace h := h.2 (of_decide_eq_true c)
      refine w_st (i' := 1129) (ls' := [.ref 1000000, .ref 0, .ref 99, .ref 145, .int x4, .int v1, .int v2]) (st' := []) (E' := E2) (I' := I2) (J' := J2) (S' := S2) am_e291 rfl rfl rfl rfl ?_
      exact h
    · replace h := h.1 (Decidable.not_not.mp (of_decide_eq_false c))
      refine w_st (i' := 546) (ls' := [.ref 1000000, .ref 0, .ref 99, .ref 145, .int x4, .int v1, .int v2]) (st' := [.ref 145]) (E' := E2) (I' := I2) (J' := J2) (S' := S2) am_e291 rfl rfl rfl rfl ?_
      refine w_st (i' := 547) (ls' := [.ref 1000000, .ref 0, .ref 99, .ref 145, .int x4, .int v1, .int v2]) (st' := [.int (nI 0), .ref 145]) (E' := E2) (I' := I2) (J' := J2) (S' := S2) am_e291 rfl rfl rfl rfl ?_
      refine w_la (k := 145) (n := 1) (jn := 0) am_e291 rfl rfl (by decide) (vp_in_nI (by decide) (by decide)) rfl ?_
      show am_ww 291 548 [.ref 1000000, .ref 0, .ref 99, .ref 145, .int x4, .int v1, .int v2] [.long ((J2 145) 0)] E2 I2 J2 S2 _
      refine w_st (i' := 549) (ls' := [.ref 1000000, .ref 0, .ref 99, .ref 145, .int x4, .int v1, .int v2]) (st' := [.int v2, .long ((J2 145) 0)]) (E' := E2) (I' := I2) (J' := J2) (S' := S2) am_e291 rfl rfl rfl rfl ?_
      refine w_st (i' := 550) (ls' := [.ref 1000000, .ref 0, .ref 99, .ref 145, .int x4, .int v1, .int v2]) (st' := [.long v2.toInt64, .long ((J2 145) 0)]) (E' := E2) (I' := I2) (J' := J2) (S' := S2) am_e291 rfl rfl rfl rfl ?_
      refine w_st (i' := 551) (ls' := [.ref 1000000, .ref 0, .ref 99, .ref 145, .int x4, .int v1, .int v2]) (st' := [.int (lg_cmp ((J2 145) 0) v2.toInt64)]) (E' := E2) (I' := I2) (J' := J2) (S' := S2) am_e291 rfl rfl rfl rfl ?_
      refine w_if1 am_e291 rfl rfl (fun c => ?_) (fun c => ?_)
      · replace h := h.1 (of_decide_eq_true c)
        refine w_st (i' := 1129) (ls' := [.ref 1000000, .ref 0, .ref 99, .ref 145, .int x4, .int v1, .int v2]) (st' := []) (E' := E2) (I' := I2) (J' := J2) (S' := S2) am_e291 rfl rfl rfl rfl ?_
        exact h
      · replace h := h.2 (of_decide_eq_false c)
        refine w_st (i' := 553) (ls' := [.ref 1000000, .ref 0, .ref 99, .ref 145, .int x4, .int v1, .int v2]) (st' := [.int (nI 0)]) (E' := E2) (I' := I2) (J' := J2) (S' := S2) am_e291 rfl rfl rfl rfl ?_
        exact w_end am_e291 rfl rfl rfl h
  · replace h := h.2 (of_decide_eq_false c)
    refine w_st (i' := 542) (ls' := [.ref 1000000, .ref 0, .ref 99, .ref 145, .int x4, .int v1, .int v2]) (st' := [.int (nI 0)]) (E' := E2) (I' := I2) (J' := J2) (S' := S2) am_e291 rfl rfl rfl rfl ?_
    exact w_end am_e291 rfl rfl rfl h
set_option maxRecDepth 12000 in
theorem g291_555 {x4 : Int32} {d5 : Value} {d6 : Value} {E : am_Ev} {I : Nat → Nat → Int32} {J : Nat → Nat → Int64} {S : Nat → Nat → Option Nat} {Q : am_Qt} (hd5 : am_isL d5 = false) (hd6 : am_isL d6 = false) (h : am_cl 51 [.ref 0] E I J S (q_I fun v1 E1 I1 J1 S1 => am_cl 254 [.ref 99] E1 I1 J1 S1 (q_I fun v2 E2 I2 J2 S2 => (v1 = v2 → (am_ww 291 1129 [.ref 1000000, .ref 0, .ref 99, .ref 145, .int x4, d5, d6] [] E2 I2 J2 S2 Q)) ∧ (¬ v1 = v2 → (Q (.inl (some (.int (nI 0)))) E2 I2 J2 S2))))) : am_ww 291 555 [.ref 1000000, .ref 0, .ref 99, .ref 145, .int x4, d5, d6] [] E I J S Q := by
  refine w_st (i' := 556) (ls' := [.ref 1000000, .ref 0, .ref 99, .ref 145, .int x4, d5, d6]) (st' := [.ref 0]) (E' := E) (I' := I) (J' := J) (S' := S) am_e291 rfl rfl rfl rfl ?_
  refine w_cI am_e291 rfl rfl (as := [.ref 0]) (rest := []) rfl rfl (am_ww.mono h ?_)
  rintro _ E1 I1 J1 S1 ⟨v1, rfl, h⟩
  refine q_mkI ?_
  refine w_st (i' := 558) (ls' := [.ref 1000000, .ref 0, .ref 99, .ref 145, .int x4, d5, d6]) (st' := [.ref 99, .int v1]) (E' := E1) (I' := I1) (J' := J1) (S' := S1) am_e291 rfl rfl rfl rfl ?_
  refine w_cI am_e291 rfl rfl (as := [.ref 99]) (rest := [.int v1]) rfl rfl (am_ww.mono h ?_)
  rintro _ E2 I2 J2 S2 ⟨v2, rfl, h⟩
  refine q_mkI ?_
  refine w_if2 am_e291 rfl rfl (fun c => ?_) (fun c => ?_)
  · replace h := h.1 (of_decide_eq_true c)
    exact h
  · replace h := h.2 (of_decide_eq_false c)
    refine w_st (i' := 561) (ls' := [.ref 1000000, .ref 0, .ref 99, .ref 145, .int x4, d5, d6]) (st' := [.int (nI 0)]) (E' := E2) (I' := I2) (J' := J2) (S' := S2) am_e291 rfl rfl rfl rfl ?_
    exact w_end am_e291 rfl rfl rfl h
set_option maxRecDepth 12000 in
theorem g291_562 {x4 : Int32} {d5 : Value} {d6 : Value} {E : am_Ev} {I : Nat → Nat → Int32} {J : Nat → Nat → Int64} {S : Nat → Nat → Option Nat} {Q : am_Qt} (hd5 : am_isL d5 = false) (hd6 : am_isL d6 = false) (h : vp_in (x4 + (nI 1)) E.2.2.1 ∧ (vp_in (x4 + (nI 2)) E.2.2.1 ∧ (am_cl 130 [.ref 0, .int (E.2.2.2 (x4 + (nI 1)).toNatClampNeg), .int (E.2.2.2 (x4 + (nI 2)).toNatClampNeg), .ref 145] E I J S (q_I fun v1 E1 I1 J1 S1 => vp_in (x4 + (nI 1)) E1.2.2.1 ∧ (vp_in (x4 + (nI 2)) E1.2.2.1 ∧ (am_cl 255 [.ref 99, .int (E1.2.2.2 (x4 + (nI 1)).toNatClampNeg), .int (E1.2.2.2 (x4 + (nI 2)).toNatClampNeg)] E1 I1 J1 S1 (q_I fun v2 E2 I2 J2 S2 => (((I2 99) 3) = v1 → ((v1 = 0 → (((lg_cmp ((J2 145) 0) v2.toInt64) = 0 → (am_ww 291 1129 [.ref 1000000, .ref 0, .ref 99, .ref 145, .int x4, .int v1, .int v2] [] E2 I2 J2 S2 Q)) ∧ (¬ (lg_cmp ((J2 145) 0) v2.toInt64) = 0 → (Q (.inl (some (.int (nI 0)))) E2 I2 J2 S2)))) ∧ (¬ v1 = 0 → (am_ww 291 1129 [.ref 1000000, .ref 0, .ref 99, .ref 145, .int x4, .int v1, .int v2] [] E2 I2 J2 S2 Q)))) ∧ (¬ ((I2 99) 3) = v1 → (Q (.inl (some (.int (nI 0)))) E2 I2 J2 S2))))))))) : am_ww 291 562 [.ref 1000000, .ref 0, .ref 99, .ref 145, .int x4, d5, d6] [] E I J S Q := by
  refine w_st (i' := 563) (ls' := [.ref 1000000, .ref 0, .ref 99, .ref 145, .int x4, d5, d6]) (st' := [.ref 0]) (E' := E) (I' := I) (J' := J) (S' := S) am_e291 rfl rfl rfl rfl ?_
  refine w_st (i' := 564) (ls' := [.ref 1000000, .ref 0, .ref 99, .ref 145, .int x4, d5, d6]) (st' := [.ref 1000000, .ref 0]) (E' := E) (I' := I) (J' := J) (S' := S) am_e291 rfl rfl rfl rfl ?_
  refine w_st (i' := 565) (ls' := [.ref 1000000, .ref 0, .ref 99, .ref 145, .int x4, d5, d6]) (st' := [.int x4, .ref 1000000, .ref 0]) (E' := E) (I' := I) (J' := J) (S' := S) am_e291 rfl rfl rfl rfl ?_
  refine w_st (i' := 566) (ls' := [.ref 1000000, .ref 0, .ref 99, .ref 145, .int x4, d5, d6]) (st' := [.int (nI 1), .int x4, .ref 1000000, .ref 0]) (E' := E) (I' := I) (J' := J) (S' := S) am_e291 rfl rfl rfl rfl ?_
  refine w_st (i' := 567) (ls' := [.ref 1000000, .ref 0, .ref 99, .ref 145, .int x4, d5, d6]) (st' := [.int (x4 + (nI 1)), .ref 1000000, .ref 0]) (E' := E) (I' := I) (J' := J) (S' := S) am_e291 rfl rfl rfl rfl ?_
  refine w_sa am_e291 rfl h.1 ?_
  replace h := h.2
  refine w_st (i' := 569) (ls' := [.ref 1000000, .ref 0, .ref 99, .ref 145, .int x4, d5, d6]) (st' := [.ref 1000000, .int (E.2.2.2 (x4 + (nI 1)).toNatClampNeg), .ref 0]) (E' := E) (I' := I) (J' := J) (S' := S) am_e291 rfl rfl rfl rfl ?_
  refine w_st (i' := 570) (ls' := [.ref 1000000, .ref 0, .ref 99, .ref 145, .int x4, d5, d6]) (st' := [.int x4, .ref 1000000, .int (E.2.2.2 (x4 + (nI 1)).toNatClampNeg), .ref 0]) (E' := E) (I' := I) (J' := J) (S' := S) am_e291 rfl rfl rfl rfl ?_
  refine w_st (i' := 571) (ls' := [.ref 1000000, .ref 0, .ref 99, .ref 145, .int x4, d5, d6]) (st' := [.int (nI 2), .int x4, .ref 1000000, .int (E.2.2.2 (x4 + (nI 1)).toNatClampNeg), .ref 0]) (E' := E) (I' := I) (J' := J) (S' := S) am_e291 rfl rfl rfl rfl ?_
  refine w_st (i' := 572) (ls' := [.ref 1000000, .ref 0, .ref 99, .ref 145, .int x4, d5, d6]) (st' := [.int (x4 + (nI 2)), .ref 1000000, .int (E.2.2.2 (x4 + (nI 1)).toNatClampNeg), .ref 0]) (E' := E) (I' := I) (J' := J) (S' := S) am_e291 rfl rfl rfl rfl ?_
  refine w_sa am_e291 rfl h.1 ?_
  replace h := h.2
  refine w_st (i' := 574) (ls' := [.ref 1000000, .ref 0, .ref 99, .ref 145, .int x4, d5, d6]) (st' := [.ref 145, .int (E.2.2.2 (x4 + (nI 2)).toNatClampNeg), .int (E.2.2.2 (x4 + (nI 1)).toNatClampNeg), .ref 0]) (E' := E) (I' := I) (J' := J) (S' := S) am_e291 rfl rfl rfl rfl ?_
  refine w_cI am_e291 rfl rfl (as := [.ref 0, .int (E.2.2.2 (x4 + (nI 1)).toNatClampNeg), .int (E.2.2.2 (x4 + (nI 2)).toNatClampNeg), .ref 145]) (rest := []) rfl rfl (am_ww.mono h ?_)
  rintro _ E1 I1 J1 S1 ⟨v1, rfl, h⟩
  refine q_mkI ?_
  refine w_st (i' := 576) (ls' := [.ref 1000000, .ref 0, .ref 99, .ref 145, .int x4, .int v1, d6]) (st' := []) (E' := E1) (I' := I1) (J' := J1) (S' := S1) am_e291 rfl rfl rfl rfl ?_
  refine w_st (i' := 577) (ls' := [.ref 1000000, .ref 0, .ref 99, .ref 145, .int x4, .int v1, d6]) (st' := [.ref 99]) (E' := E1) (I' := I1) (J' := J1) (S' := S1) am_e291 rfl rfl rfl rfl ?_
  refine w_st (i' := 578) (ls' := [.ref 1000000, .ref 0, .ref 99, .ref 145, .int x4, .int v1, d6]) (st' := [.ref 1000000, .ref 99]) (E' := E1) (I' := I1) (J' := J1) (S' := S1) am_e291 rfl rfl rfl rfl ?_
  refine w_st (i' := 579) (ls' := [.ref 1000000, .ref 0, .ref 99, .ref 145, .int x4, .int v1, d6]) (st' := [.int x4, .ref 1000000, .ref 99]) (E' := E1) (I' := I1) (J' := J1) (S' := S1) am_e291 rfl rfl rfl rfl ?_
  refine w_st (i' := 580) (ls' := [.ref 1000000, .ref 0, .ref 99, .ref 145, .int x4, .int v1, d6]) (st' := [.int (nI 1), .int x4, .ref 1000000, .ref 99]) (E' := E1) (I' := I1) (J' := J1) (S' := S1) am_e291 rfl rfl rfl rfl ?_
  refine w_st (i' := 581) (ls' := [.ref 1000000, .ref 0, .ref 99, .ref 145, .int x4, .int v1, d6]) (st' := [.int (x4 + (nI 1)), .ref 1000000, .ref 99]) (E' := E1) (I' := I1) (J' := J1) (S' := S1) am_e291 rfl rfl rfl rfl ?_
  refine w_sa am_e291 rfl h.1 ?_
  replace h := h.2
  refine w_st (i' := 583) (ls' := [.ref 1000000, .ref 0, .ref 99, .ref 145, .int x4, .int v1, d6]) (st' := [.ref 1000000, .int (E1.2.2.2 (x4 + (nI 1)).toNatClampNeg), .ref 99]) (E' := E1) (I' := I1) (J' := J1) (S' := S1) am_e291 rfl rfl rfl rfl ?_
  refine w_st (i' := 584) (ls' := [.ref 1000000, .ref 0, .ref 99, .ref 145, .int x4, .int v1, d6]) (st' := [.int x4, .ref 1000000, .int (E1.2.2.2 (x4 + (nI 1)).toNatClampNeg), .ref 99]) (E' := E1) (I' := I1) (J' := J1) (S' := S1) am_e291 rfl rfl rfl rfl ?_
  refine w_st (i' := 585) (ls' := [.ref 1000000, .ref 0, .ref 99, .ref 145, .int x4, .int v1, d6]) (st' := [.int (nI 2), .int x4, .ref 1000000, .int (E1.2.2.2 (x4 + (nI 1)).toNatClampNeg), .ref 99]) (E' := E1) (I' := I1) (J' := J1) (S' := S1) am_e291 rfl rfl rfl rfl ?_
  refine w_st (i' := 586) (ls' := [.ref 1000000, .ref 0, .ref 99, .ref 145, .int x4, .int v1, d6]) (st' := [.int (x4 + (nI 2)), .ref 1000000, .int (E1.2.2.2 (x4 + (nI 1)).toNatClampNeg), .ref 99]) (E' := E1) (I' := I1) (J' := J1) (S' := S1) am_e291 rfl rfl rfl rfl ?_
  refine w_sa am_e291 rfl h.1 ?_
  replace h := h.2
  refine w_cI am_e291 rfl rfl (as := [.ref 99, .int (E1.2.2.2 (x4 + (nI 1)).toNatClampNeg), .int (E1.2.2.2 (x4 + (nI 2)).toNatClampNeg)]) (rest := []) rfl rfl (am_ww.mono h ?_)
  rintro _ E2 I2 J2 S2 ⟨v2, rfl, h⟩
  refine q_mkI ?_
  refine w_st (i' := 589) (ls' := [.ref 1000000, .ref 0, .ref 99, .ref 145, .int x4, .int v1, .int v2]) (st' := []) (E' := E2) (I' := I2) (J' := J2) (S' := S2) am_e291 rfl rfl rfl rfl ?_
  refine w_st (i' := 590) (ls' := [.ref 1000000, .ref 0, .ref 99, .ref 145, .int x4, .int v1, .int v2]) (st' := [.ref 99]) (E' := E2) (I' := I2) (J' := J2) (S' := S2) am_e291 rfl rfl rfl rfl ?_
  refine w_cI am_e291 rfl rfl (as := [.ref 99]) (rest := []) rfl rfl ?_
  show am_ww 186 0 [.ref 99] [] E2 I2 J2 S2 _
  refine w_st (i' := 1) (ls' := [.ref 99]) (st' := [.ref 99]) (E' := E2) (I' := I2) (J' := J2) (S' := S2) am_e186 rfl rfl rfl rfl ?_
  refine w_st (i' := 2) (ls' := [.ref 99]) (st' := [.int ((I2 99) 3)]) (E' := E2) (I' := I2) (J' := J2) (S' := S2) am_e186 rfl rfl rfl rfl ?_
  refine w_ri am_e186 rfl rfl (q_mkI ?_)
  show am_ww 291 591 [.ref 1000000, .ref 0, .ref 99, .ref 145, .int x4, .int v1, .int v2] [.int ((I2 99) 3)] E2 I2 J2 S2 _
  refine w_st (i' := 592) (ls' := [.ref 1000000, .ref 0, .ref 99, .ref 145, .int x4, .int v1, .int v2]) (st' := [.int v1, .int ((I2 99) 3)]) (E' := E2) (I' := I2) (J' := J2) (S' := S2) am_e291 rfl rfl rfl rfl ?_
  refine w_if2 am_e291 rfl rfl (fun c => ?_) (fun c => ?_)
  · replace h := h.1 (of_decide_eq_true c)
    refine w_st (i' := 596) (ls' := [.ref 1000000, .ref 0, .ref 99, .ref 145, .int x4, .int v1, .int v2]) (st' := [.int v1]) (E' := E2) (I' := I2) (J' := J2) (S' := S2) am_e291 rfl rfl rfl rfl ?_
    refine w_if1 am_e291 rfl rfl (fun c => ?_) (fun c => ?_)
    · replace h := h.2 (of_decide_eq_true c)
      refine w_st (i' := 1129) (ls' := [.ref 1000000, .ref 0, .ref 99, .ref 145, .int x4, .int v1, .int v2]) (st' := []) (E' := E2) (I' := I2) (J' := J2) (S' := S2) am_e291 rfl rfl rfl rfl ?_
      exact h
    · replace h := h.1 (Decidable.not_not.mp (of_decide_eq_false c))
      refine w_st (i' := 598) (ls' := [.ref 1000000, .ref 0, .ref 99, .ref 145, .int x4, .int v1, .int v2]) (st' := [.ref 145]) (E' := E2) (I' := I2) (J' := J2) (S' := S2) am_e291 rfl rfl rfl rfl ?_
      refine w_st (i' := 599) (ls' := [.ref 1000000, .ref 0, .ref 99, .ref 145, .int x4, .int v1, .int v2]) (st' := [.int (nI 0), .ref 145]) (E' := E2) (I' := I2) (J' := J2) (S' := S2) am_e291 rfl rfl rfl rfl ?_
      refine w_la (k := 145) (n := 1) (jn := 0) am_e291 rfl rfl (by decide) (vp_in_nI (by decide) (by decide)) rfl ?_
      show am_ww 291 600 [.ref 1000000, .ref 0, .ref 99, .ref 145, .int x4, .int v1, .int v2] [.long ((J2 145) 0)] E2 I2 J2 S2 _
      refine w_st (i' := 601) (ls' := [.ref 1000000, .ref 0, .ref 99, .ref 145, .int x4, .int v1, .int v2]) (st' := [.int v2, .long ((J2 145) 0)]) (E' := E2) (I' := I2) (J' := J2) (S' := S2) am_e291 rfl rfl rfl rfl ?_
      refine w_st (i' := 602) (ls' := [.ref 1000000, .ref 0, .ref 99, .ref 145, .int x4, .int v1, .int v2]) (st' := [.long v2.toInt64, .long ((J2 145) 0)]) (E' := E2) (I' := I2) (J' := J2) (S' := S2) am_e291 rfl rfl rfl rfl ?_
      refine w_st (i' := 603) (ls' := [.ref 1000000, .ref 0, .ref 99, .ref 145, .int x4, .int v1, .int v2]) (st' := [.int (lg_cmp ((J2 145) 0) v2.toInt64)]) (E' := E2) (I' := I2) (J' := J2) (S' := S2) am_e291 rfl rfl rfl rfl ?_
      refine w_if1 am_e291 rfl rfl (fun c => ?_) (fun c => ?_)
      · replace h := h.1 (of_decide_eq_true c)
        refine w_st (i' := 1129) (ls' := [.ref 1000000, .ref 0, .ref 99, .ref 145, .int x4, .int v1, .int v2]) (st' := []) (E' := E2) (I' := I2) (J' := J2) (S' := S2) am_e291 rfl rfl rfl rfl ?_
        exact h
      · replace h := h.2 (of_decide_eq_false c)
        refine w_st (i' := 605) (ls' := [.ref 1000000, .ref 0, .ref 99, .ref 145, .int x4, .int v1, .int v2]) (st' := [.int (nI 0)]) (E' := E2) (I' := I2) (J' := J2) (S' := S2) am_e291 rfl rfl rfl rfl ?_
        exact w_end am_e291 rfl rfl rfl h
  · replace h := h.2 (of_decide_eq_false c)
    refine w_st (i' := 594) (ls' := [.ref 1000000, .ref 0, .ref 99, .ref 145, .int x4, .int v1, .int v2]) (st' := [.int (nI 0)]) (E' := E2) (I' := I2) (J' := J2) (S' := S2) am_e291 rfl rfl rfl rfl ?_
    exact w_end am_e291 rfl rfl rfl h
set_option maxRecDepth 12000 in
theorem g291_607 {x4 : Int32} {d5 : Value} {d6 : Value} {E : am_Ev} {I : Nat → Nat → Int32} {J : Nat → Nat → Int64} {S : Nat → Nat → Option Nat} {Q : am_Qt} (hd5 : am_isL d5 = false) (hd6 : am_isL d6 = false) (h : vp_in (x4 + (nI 1)) E.2.2.1 ∧ (vp_in (x4 + (nI 2)) E.2.2.1 ∧ (am_cl 133 [.ref 0, .int (E.2.2.2 (x4 + (nI 1)).toNatClampNeg), .int (E.2.2.2 (x4 + (nI 2)).toNatClampNeg), .ref 145] E I J S (q_I fun v1 E1 I1 J1 S1 => vp_in (x4 + (nI 1)) E1.2.2.1 ∧ (vp_in (x4 + (nI 2)) E1.2.2.1 ∧ (am_cl 257 [.ref 99, .int (E1.2.2.2 (x4 + (nI 1)).toNatClampNeg), .int (E1.2.2.2 (x4 + (nI 2)).toNatClampNeg)] E1 I1 J1 S1 (q_I fun v2 E2 I2 J2 S2 => (((I2 99) 3) = v1 → ((v1 = 0 → (((lg_cmp ((J2 145) 0) v2.toInt64) = 0 → (am_ww 291 1129 [.ref 1000000, .ref 0, .ref 99, .ref 145, .int x4, .int v1, .int v2] [] E2 I2 J2 S2 Q)) ∧ (¬ (lg_cmp ((J2 145) 0) v2.toInt64) = 0 → (Q (.inl (some (.int (nI 0)))) E2 I2 J2 S2)))) ∧ (¬ v1 = 0 → (am_ww 291 1129 [.ref 1000000, .ref 0, .ref 99, .ref 145, .int x4, .int v1, .int v2] [] E2 I2 J2 S2 Q)))) ∧ (¬ ((I2 99) 3) = v1 → (Q (.inl (some (.int (nI 0)))) E2 I2 J2 S2))))))))) : am_ww 291 607 [.ref 1000000, .ref 0, .ref 99, .ref 145, .int x4, d5, d6] [] E I J S Q := by
  refine w_st (i' := 608) (ls' := [.ref 1000000, .ref 0, .ref 99, .ref 145, .int x4, d5, d6]) (st' := [.ref 0]) (E' := E) (I' := I) (J' := J) (S' := S) am_e291 rfl rfl rfl rfl ?_
  refine w_st (i' := 609) (ls' := [.ref 1000000, .ref 0, .ref 99, .ref 145, .int x4, d5, d6]) (st' := [.ref 1000000, .ref 0]) (E' := E) (I' := I) (J' := J) (S' := S) am_e291 rfl rfl rfl rfl ?_
  refine w_st (i' := 610) (ls' := [.ref 1000000, .ref 0, .ref 99, .ref 145, .int x4, d5, d6]) (st' := [.int x4, .ref 1000000, .ref 0]) (E' := E) (I' := I) (J' := J) (S' := S) am_e291 rfl rfl rfl rfl ?_
  refine w_st (i' := 611) (ls' := [.ref 1000000, .ref 0, .ref 99, .ref 145, .int x4, d5, d6]) (st' := [.int (nI 1), .int x4, .ref 1000000, .ref 0]) (E' := E) (I' := I) (J' := J) (S' := S) am_e291 rfl rfl rfl rfl ?_
  refine w_st (i' := 612) (ls' := [.ref 1000000, .ref 0, .ref 99, .ref 145, .int x4, d5, d6]) (st' := [.int (x4 + (nI 1)), .ref 1000000, .ref 0]) (E' := E) (I' := I) (J' := J) (S' := S) am_e291 rfl rfl rfl rfl ?_
  refine w_sa am_e291 rfl h.1 ?_
  replace h := h.2
  refine w_st (i' := 614) (ls' := [.ref 1000000, .ref 0, .ref 99, .ref 145, .int x4, d5, d6]) (st' := [.ref 1000000, .int (E.2.2.2 (x4 + (nI 1)).toNatClampNeg), .ref 0]) (E' := E) (I' := I) (J' := J) (S' := S) am_e291 rfl rfl rfl rfl ?_
  refine w_st (i' := 615) (ls' := [.ref 1000000, .ref 0, .ref 99, .ref 145, .int x4, d5, d6]) (st' := [.int x4, .ref 1000000, .int (E.2.2.2 (x4 + (nI 1)).toNatClampNeg), .ref 0]) (E' := E) (I' := I) (J' := J) (S' := S) am_e291 rfl rfl rfl rfl ?_
  refine w_st (i' := 616) (ls' := [.ref 1000000, .ref 0, .ref 99, .ref 145, .int x4, d5, d6]) (st' := [.int (nI 2), .int x4, .ref 1000000, .int (E.2.2.2 (x4 + (nI 1)).toNatClampNeg), .ref 0]) (E' := E) (I' := I) (J' := J) (S' := S) am_e291 rfl rfl rfl rfl ?_
  refine w_st (i' := 617) (ls' := [.ref 1000000, .ref 0, .ref 99, .ref 145, .int x4, d5, d6]) (st' := [.int (x4 + (nI 2)), .ref 1000000, .int (E.2.2.2 (x4 + (nI 1)).toNatClampNeg), .ref 0]) (E' := E) (I' := I) (J' := J) (S' := S) am_e291 rfl rfl rfl rfl ?_
  refine w_sa am_e291 rfl h.1 ?_
  replace h := h.2
  refine w_st (i' := 619) (ls' := [.ref 1000000, .ref 0, .ref 99, .ref 145, .int x4, d5, d6]) (st' := [.ref 145, .int (E.2.2.2 (x4 + (nI 2)).toNatClampNeg), .int (E.2.2.2 (x4 + (nI 1)).toNatClampNeg), .ref 0]) (E' := E) (I' := I) (J' := J) (S' := S) am_e291 rfl rfl rfl rfl ?_
  refine w_cI am_e291 rfl rfl (as := [.ref 0, .int (E.2.2.2 (x4 + (nI 1)).toNatClampNeg), .int (E.2.2.2 (x4 + (nI 2)).toNatClampNeg), .ref 145]) (rest := []) rfl rfl (am_ww.mono h ?_)
  rintro _ E1 I1 J1 S1 ⟨v1, rfl, h⟩
  refine q_mkI ?_
  refine w_st (i' := 621) (ls' := [.ref 1000000, .ref 0, .ref 99, .ref 145, .int x4, .int v1, d6]) (st' := []) (E' := E1) (I' := I1) (J' := J1) (S' := S1) am_e291 rfl rfl rfl rfl ?_
  refine w_st (i' := 622) (ls' := [.ref 1000000, .ref 0, .ref 99, .ref 145, .int x4, .int v1, d6]) (st' := [.ref 99]) (E' := E1) (I' := I1) (J' := J1) (S' := S1) am_e291 rfl rfl rfl rfl ?_
  refine w_st (i' := 623) (ls' := [.ref 1000000, .ref 0, .ref 99, .ref 145, .int x4, .int v1, d6]) (st' := [.ref 1000000, .ref 99]) (E' := E1) (I' := I1) (J' := J1) (S' := S1) am_e291 rfl rfl rfl rfl ?_
  refine w_st (i' := 624) (ls' := [.ref 1000000, .ref 0, .ref 99, .ref 145, .int x4, .int v1, d6]) (st' := [.int x4, .ref 1000000, .ref 99]) (E' := E1) (I' := I1) (J' := J1) (S' := S1) am_e291 rfl rfl rfl rfl ?_
  refine w_st (i' := 625) (ls' := [.ref 1000000, .ref 0, .ref 99, .ref 145, .int x4, .int v1, d6]) (st' := [.int (nI 1), .int x4, .ref 1000000, .ref 99]) (E' := E1) (I' := I1) (J' := J1) (S' := S1) am_e291 rfl rfl rfl rfl ?_
  refine w_st (i' := 626) (ls' := [.ref 1000000, .ref 0, .ref 99, .ref 145, .int x4, .int v1, d6]) (st' := [.int (x4 + (nI 1)), .ref 1000000, .ref 99]) (E' := E1) (I' := I1) (J' := J1) (S' := S1) am_e291 rfl rfl rfl rfl ?_
  refine w_sa am_e291 rfl h.1 ?_
  replace h := h.2
  refine w_st (i' := 628) (ls' := [.ref 1000000, .ref 0, .ref 99, .ref 145, .int x4, .int v1, d6]) (st' := [.ref 1000000, .int (E1.2.2.2 (x4 + (nI 1)).toNatClampNeg), .ref 99]) (E' := E1) (I' := I1) (J' := J1) (S' := S1) am_e291 rfl rfl rfl rfl ?_
  refine w_st (i' := 629) (ls' := [.ref 1000000, .ref 0, .ref 99, .ref 145, .int x4, .int v1, d6]) (st' := [.int x4, .ref 1000000, .int (E1.2.2.2 (x4 + (nI 1)).toNatClampNeg), .ref 99]) (E' := E1) (I' := I1) (J' := J1) (S' := S1) am_e291 rfl rfl rfl rfl ?_
  refine w_st (i' := 630) (ls' := [.ref 1000000, .ref 0, .ref 99, .ref 145, .int x4, .int v1, d6]) (st' := [.int (nI 2), .int x4, .ref 1000000, .int (E1.2.2.2 (x4 + (nI 1)).toNatClampNeg), .ref 99]) (E' := E1) (I' := I1) (J' := J1) (S' := S1) am_e291 rfl rfl rfl rfl ?_
  refine w_st (i' := 631) (ls' := [.ref 1000000, .ref 0, .ref 99, .ref 145, .int x4, .int v1, d6]) (st' := [.int (x4 + (nI 2)), .ref 1000000, .int (E1.2.2.2 (x4 + (nI 1)).toNatClampNeg), .ref 99]) (E' := E1) (I' := I1) (J' := J1) (S' := S1) am_e291 rfl rfl rfl rfl ?_
  refine w_sa am_e291 rfl h.1 ?_
  replace h := h.2
  refine w_cI am_e291 rfl rfl (as := [.ref 99, .int (E1.2.2.2 (x4 + (nI 1)).toNatClampNeg), .int (E1.2.2.2 (x4 + (nI 2)).toNatClampNeg)]) (rest := []) rfl rfl (am_ww.mono h ?_)
  rintro _ E2 I2 J2 S2 ⟨v2, rfl, h⟩
  refine q_mkI ?_
  refine w_st (i' := 634) (ls' := [.ref 1000000, .ref 0, .ref 99, .ref 145, .int x4, .int v1, .int v2]) (st' := []) (E' := E2) (I' := I2) (J' := J2) (S' := S2) am_e291 rfl rfl rfl rfl ?_
  refine w_st (i' := 635) (ls' := [.ref 1000000, .ref 0, .ref 99, .ref 145, .int x4, .int v1, .int v2]) (st' := [.ref 99]) (E' := E2) (I' := I2) (J' := J2) (S' := S2) am_e291 rfl rfl rfl rfl ?_
  refine w_cI am_e291 rfl rfl (as := [.ref 99]) (rest := []) rfl rfl ?_
  show am_ww 186 0 [.ref 99] [] E2 I2 J2 S2 _
  refine w_st (i' := 1) (ls' := [.ref 99]) (st' := [.ref 99]) (E' := E2) (I' := I2) (J' := J2) (S' := S2) am_e186 rfl rfl rfl rfl ?_
  refine w_st (i' := 2) (ls' := [.ref 99]) (st' := [.int ((I2 99) 3)]) (E' := E2) (I' := I2) (J' := J2) (S' := S2) am_e186 rfl rfl rfl rfl ?_
  refine w_ri am_e186 rfl rfl (q_mkI ?_)
  show am_ww 291 636 [.ref 1000000, .ref 0, .ref 99, .ref 145, .int x4, .int v1, .int v2] [.int ((I2 99) 3)] E2 I2 J2 S2 _
  refine w_st (i' := 637) (ls' := [.ref 1000000, .ref 0, .ref 99, .ref 145, .int x4, .int v1, .int v2]) (st' := [.int v1, .int ((I2 99) 3)]) (E' := E2) (I' := I2) (J' := J2) (S' := S2) am_e291 rfl rfl rfl rfl ?_
  refine w_if2 am_e291 rfl rfl (fun c => ?_) (fun c => ?_)
  · replace h := h.1 (of_decide_eq_true c)
    refine w_st (i' := 641) (ls' := [.ref 1000000, .ref 0, .ref 99, .ref 145, .int x4, .int v1, .int v2]) (st' := [.int v1]) (E' := E2) (I' := I2) (J' := J2) (S' := S2) am_e291 rfl rfl rfl rfl ?_
    refine w_if1 am_e291 rfl rfl (fun c => ?_) (fun c => ?_)
    · replace h := h.2 (of_decide_eq_true c)
      refine w_st (i' := 1129) (ls' := [.ref 1000000, .ref 0, .ref 99, .ref 145, .int x4, .int v1, .int v2]) (st' := []) (E' := E2) (I' := I2) (J' := J2) (S' := S2) am_e291 rfl rfl rfl rfl ?_
      exact h
    · replace h := h.1 (Decidable.not_not.mp (of_decide_eq_false c))
      refine w_st (i' := 643) (ls' := [.ref 1000000, .ref 0, .ref 99, .ref 145, .int x4, .int v1, .int v2]) (st' := [.ref 145]) (E' := E2) (I' := I2) (J' := J2) (S' := S2) am_e291 rfl rfl rfl rfl ?_
      refine w_st (i' := 644) (ls' := [.ref 1000000, .ref 0, .ref 99, .ref 145, .int x4, .int v1, .int v2]) (st' := [.int (nI 0), .ref 145]) (E' := E2) (I' := I2) (J' := J2) (S' := S2) am_e291 rfl rfl rfl rfl ?_
      refine w_la (k := 145) (n := 1) (jn := 0) am_e291 rfl rfl (by decide) (vp_in_nI (by decide) (by decide)) rfl ?_
      show am_ww 291 645 [.ref 1000000, .ref 0, .ref 99, .ref 145, .int x4, .int v1, .int v2] [.long ((J2 145) 0)] E2 I2 J2 S2 _
      refine w_st (i' := 646) (ls' := [.ref 1000000, .ref 0, .ref 99, .ref 145, .int x4, .int v1, .int v2]) (st' := [.int v2, .long ((J2 145) 0)]) (E' := E2) (I' := I2) (J' := J2) (S' := S2) am_e291 rfl rfl rfl rfl ?_
      refine w_st (i' := 647) (ls' := [.ref 1000000, .ref 0, .ref 99, .ref 145, .int x4, .int v1, .int v2]) (st' := [.long v2.toInt64, .long ((J2 145) 0)]) (E' := E2) (I' := I2) (J' := J2) (S' := S2) am_e291 rfl rfl rfl rfl ?_
      refine w_st (i' := 648) (ls' := [.ref 1000000, .ref 0, .ref 99, .ref 145, .int x4, .int v1, .int v2]) (st' := [.int (lg_cmp ((J2 145) 0) v2.toInt64)]) (E' := E2) (I' := I2) (J' := J2) (S' := S2) am_e291 rfl rfl rfl rfl ?_
      refine w_if1 am_e291 rfl rfl (fun c => ?_) (fun c => ?_)
      · replace h := h.1 (of_decide_eq_true c)
        refine w_st (i' := 1129) (ls' := [.ref 1000000, .ref 0, .ref 99, .ref 145, .int x4, .int v1, .int v2]) (st' := []) (E' := E2) (I' := I2) (J' := J2) (S' := S2) am_e291 rfl rfl rfl rfl ?_
        exact h
      · replace h := h.2 (of_decide_eq_false c)
        refine w_st (i' := 650) (ls' := [.ref 1000000, .ref 0, .ref 99, .ref 145, .int x4, .int v1, .int v2]) (st' := [.int (nI 0)]) (E' := E2) (I' := I2) (J' := J2) (S' := S2) am_e291 rfl rfl rfl rfl ?_
        exact w_end am_e291 rfl rfl rfl h
  · replace h := h.2 (of_decide_eq_false c)
    refine w_st (i' := 639) (ls' := [.ref 1000000, .ref 0, .ref 99, .ref 145, .int x4, .int v1, .int v2]) (st' := [.int (nI 0)]) (E' := E2) (I' := I2) (J' := J2) (S' := S2) am_e291 rfl rfl rfl rfl ?_
    exact w_end am_e291 rfl rfl rfl h
set_option maxRecDepth 12000 in
theorem g291_652 {x4 : Int32} {d5 : Value} {d6 : Value} {E : am_Ev} {I : Nat → Nat → Int32} {J : Nat → Nat → Int64} {S : Nat → Nat → Option Nat} {Q : am_Qt} (hd5 : am_isL d5 = false) (hd6 : am_isL d6 = false) (h : vp_in (x4 + (nI 1)) E.2.2.1 ∧ (vp_in (x4 + (nI 2)) E.2.2.1 ∧ (am_cl 135 [.ref 0, .int (E.2.2.2 (x4 + (nI 1)).toNatClampNeg), .int (E.2.2.2 (x4 + (nI 2)).toNatClampNeg), .ref 145] E I J S (q_I fun v1 E1 I1 J1 S1 => vp_in (x4 + (nI 1)) E1.2.2.1 ∧ (vp_in (x4 + (nI 2)) E1.2.2.1 ∧ (am_cl 258 [.ref 99, .int (E1.2.2.2 (x4 + (nI 1)).toNatClampNeg), .int (E1.2.2.2 (x4 + (nI 2)).toNatClampNeg)] E1 I1 J1 S1 (q_I fun v2 E2 I2 J2 S2 => (((I2 99) 3) = v1 → ((v1 = 0 → (((lg_cmp ((J2 145) 0) v2.toInt64) = 0 → (am_ww 291 1129 [.ref 1000000, .ref 0, .ref 99, .ref 145, .int x4, .int v1, .int v2] [] E2 I2 J2 S2 Q)) ∧ (¬ (lg_cmp ((J2 145) 0) v2.toInt64) = 0 → (Q (.inl (some (.int (nI 0)))) E2 I2 J2 S2)))) ∧ (¬ v1 = 0 → (am_ww 291 1129 [.ref 1000000, .ref 0, .ref 99, .ref 145, .int x4, .int v1, .int v2] [] E2 I2 J2 S2 Q)))) ∧ (¬ ((I2 99) 3) = v1 → (Q (.inl (some (.int (nI 0)))) E2 I2 J2 S2))))))))) : am_ww 291 652 [.ref 1000000, .ref 0, .ref 99, .ref 145, .int x4, d5, d6] [] E I J S Q := by
  refine w_st (i' := 653) (ls' := [.ref 1000000, .ref 0, .ref 99, .ref 145, .int x4, d5, d6]) (st' := [.ref 0]) (E' := E) (I' := I) (J' := J) (S' := S) am_e291 rfl rfl rfl rfl ?_
  refine w_st (i' := 654) (ls' := [.ref 1000000, .ref 0, .ref 99, .ref 145, .int x4, d5, d6]) (st' := [.ref 1000000, .ref 0]) (E' := E) (I' := I) (J' := J) (S' := S) am_e291 rfl rfl rfl rfl ?_
  refine w_st (i' := 655) (ls' := [.ref 1000000, .ref 0, .ref 99, .ref 145, .int x4, d5, d6]) (st' := [.int x4, .ref 1000000, .ref 0]) (E' := E) (I' := I) (J' := J) (S' := S) am_e291 rfl rfl rfl rfl ?_
  refine w_st (i' := 656) (ls' := [.ref 1000000, .ref 0, .ref 99, .ref 145, .int x4, d5, d6]) (st' := [.int (nI 1), .int x4, .ref 1000000, .ref 0]) (E' := E) (I' := I) (J' := J) (S' := S) am_e291 rfl rfl rfl rfl ?_
  refine w_st (i' := 657) (ls' := [.ref 1000000, .ref 0, .ref 99, .ref 145, .int x4, d5, d6]) (st' := [.int (x4 + (nI 1)), .ref 1000000, .ref 0]) (E' := E) (I' := I) (J' := J) (S' := S) am_e291 rfl rfl rfl rfl ?_
  refine w_sa am_e291 rfl h.1 ?_
  replace h := h.2
  refine w_st (i' := 659) (ls' := [.ref 1000000, .ref 0, .ref 99, .ref 145, .int x4, d5, d6]) (st' := [.ref 1000000, .int (E.2.2.2 (x4 + (nI 1)).toNatClampNeg), .ref 0]) (E' := E) (I' := I) (J' := J) (S' := S) am_e291 rfl rfl rfl rfl ?_
  refine w_st (i' := 660) (ls' := [.ref 1000000, .ref 0, .ref 99, .ref 145, .int x4, d5, d6]) (st' := [.int x4, .ref 1000000, .int (E.2.2.2 (x4 + (nI 1)).toNatClampNeg), .ref 0]) (E' := E) (I' := I) (J' := J) (S' := S) am_e291 rfl rfl rfl rfl ?_
  refine w_st (i' := 661) (ls' := [.ref 1000000, .ref 0, .ref 99, .ref 145, .int x4, d5, d6]) (st' := [.int (nI 2), .int x4, .ref 1000000, .int (E.2.2.2 (x4 + (nI 1)).toNatClampNeg), .ref 0]) (E' := E) (I' := I) (J' := J) (S' := S) am_e291 rfl rfl rfl rfl ?_
  refine w_st (i' := 662) (ls' := [.ref 1000000, .ref 0, .ref 99, .ref 145, .int x4, d5, d6]) (st' := [.int (x4 + (nI 2)), .ref 1000000, .int (E.2.2.2 (x4 + (nI 1)).toNatClampNeg), .ref 0]) (E' := E) (I' := I) (J' := J) (S' := S) am_e291 rfl rfl rfl rfl ?_
  refine w_sa am_e291 rfl h.1 ?_
  replace h := h.2
  refine w_st (i' := 664) (ls' := [.ref 1000000, .ref 0, .ref 99, .ref 145, .int x4, d5, d6]) (st' := [.ref 145, .int (E.2.2.2 (x4 + (nI 2)).toNatClampNeg), .int (E.2.2.2 (x4 + (nI 1)).toNatClampNeg), .ref 0]) (E' := E) (I' := I) (J' := J) (S' := S) am_e291 rfl rfl rfl rfl ?_
  refine w_cI am_e291 rfl rfl (as := [.ref 0, .int (E.2.2.2 (x4 + (nI 1)).toNatClampNeg), .int (E.2.2.2 (x4 + (nI 2)).toNatClampNeg), .ref 145]) (rest := []) rfl rfl (am_ww.mono h ?_)
  rintro _ E1 I1 J1 S1 ⟨v1, rfl, h⟩
  refine q_mkI ?_
  refine w_st (i' := 666) (ls' := [.ref 1000000, .ref 0, .ref 99, .ref 145, .int x4, .int v1, d6]) (st' := []) (E' := E1) (I' := I1) (J' := J1) (S' := S1) am_e291 rfl rfl rfl rfl ?_
  refine w_st (i' := 667) (ls' := [.ref 1000000, .ref 0, .ref 99, .ref 145, .int x4, .int v1, d6]) (st' := [.ref 99]) (E' := E1) (I' := I1) (J' := J1) (S' := S1) am_e291 rfl rfl rfl rfl ?_
  refine w_st (i' := 668) (ls' := [.ref 1000000, .ref 0, .ref 99, .ref 145, .int x4, .int v1, d6]) (st' := [.ref 1000000, .ref 99]) (E' := E1) (I' := I1) (J' := J1) (S' := S1) am_e291 rfl rfl rfl rfl ?_
  refine w_st (i' := 669) (ls' := [.ref 1000000, .ref 0, .ref 99, .ref 145, .int x4, .int v1, d6]) (st' := [.int x4, .ref 1000000, .ref 99]) (E' := E1) (I' := I1) (J' := J1) (S' := S1) am_e291 rfl rfl rfl rfl ?_
  refine w_st (i' := 670) (ls' := [.ref 1000000, .ref 0, .ref 99, .ref 145, .int x4, .int v1, d6]) (st' := [.int (nI 1), .int x4, .ref 1000000, .ref 99]) (E' := E1) (I' := I1) (J' := J1) (S' := S1) am_e291 rfl rfl rfl rfl ?_
  refine w_st (i' := 671) (ls' := [.ref 1000000, .ref 0, .ref 99, .ref 145, .int x4, .int v1, d6]) (st' := [.int (x4 + (nI 1)), .ref 1000000, .ref 99]) (E' := E1) (I' := I1) (J' := J1) (S' := S1) am_e291 rfl rfl rfl rfl ?_
  refine w_sa am_e291 rfl h.1 ?_
  replace h := h.2
  refine w_st (i' := 673) (ls' := [.ref 1000000, .ref 0, .ref 99, .ref 145, .int x4, .int v1, d6]) (st' := [.ref 1000000, .int (E1.2.2.2 (x4 + (nI 1)).toNatClampNeg), .ref 99]) (E' := E1) (I' := I1) (J' := J1) (S' := S1) am_e291 rfl rfl rfl rfl ?_
  refine w_st (i' := 674) (ls' := [.ref 1000000, .ref 0, .ref 99, .ref 145, .int x4, .int v1, d6]) (st' := [.int x4, .ref 1000000, .int (E1.2.2.2 (x4 + (nI 1)).toNatClampNeg), .ref 99]) (E' := E1) (I' := I1) (J' := J1) (S' := S1) am_e291 rfl rfl rfl rfl ?_
  refine w_st (i' := 675) (ls' := [.ref 1000000, .ref 0, .ref 99, .ref 145, .int x4, .int v1, d6]) (st' := [.int (nI 2), .int x4, .ref 1000000, .int (E1.2.2.2 (x4 + (nI 1)).toNatClampNeg), .ref 99]) (E' := E1) (I' := I1) (J' := J1) (S' := S1) am_e291 rfl rfl rfl rfl ?_
  refine w_st (i' := 676) (ls' := [.ref 1000000, .ref 0, .ref 99, .ref 145, .int x4, .int v1, d6]) (st' := [.int (x4 + (nI 2)), .ref 1000000, .int (E1.2.2.2 (x4 + (nI 1)).toNatClampNeg), .ref 99]) (E' := E1) (I' := I1) (J' := J1) (S' := S1) am_e291 rfl rfl rfl rfl ?_
  refine w_sa am_e291 rfl h.1 ?_
  replace h := h.2
  refine w_cI am_e291 rfl rfl (as := [.ref 99, .int (E1.2.2.2 (x4 + (nI 1)).toNatClampNeg), .int (E1.2.2.2 (x4 + (nI 2)).toNatClampNeg)]) (rest := []) rfl rfl (am_ww.mono h ?_)
  rintro _ E2 I2 J2 S2 ⟨v2, rfl, h⟩
  refine q_mkI ?_
  refine w_st (i' := 679) (ls' := [.ref 1000000, .ref 0, .ref 99, .ref 145, .int x4, .int v1, .int v2]) (st' := []) (E' := E2) (I' := I2) (J' := J2) (S' := S2) am_e291 rfl rfl rfl rfl ?_
  refine w_st (i' := 680) (ls' := [.ref 1000000, .ref 0, .ref 99, .ref 145, .int x4, .int v1, .int v2]) (st' := [.ref 99]) (E' := E2) (I' := I2) (J' := J2) (S' := S2) am_e291 rfl rfl rfl rfl ?_
  refine w_cI am_e291 rfl rfl (as := [.ref 99]) (rest := []) rfl rfl ?_
  show am_ww 186 0 [.ref 99] [] E2 I2 J2 S2 _
  refine w_st (i' := 1) (ls' := [.ref 99]) (st' := [.ref 99]) (E' := E2) (I' := I2) (J' := J2) (S' := S2) am_e186 rfl rfl rfl rfl ?_
  refine w_st (i' := 2) (ls' := [.ref 99]) (st' := [.int ((I2 99) 3)]) (E' := E2) (I' := I2) (J' := J2) (S' := S2) am_e186 rfl rfl rfl rfl ?_
  refine w_ri am_e186 rfl rfl (q_mkI ?_)
  show am_ww 291 681 [.ref 1000000, .ref 0, .ref 99, .ref 145, .int x4, .int v1, .int v2] [.int ((I2 99) 3)] E2 I2 J2 S2 _
  refine w_st (i' := 682) (ls' := [.ref 1000000, .ref 0, .ref 99, .ref 145, .int x4, .int v1, .int v2]) (st' := [.int v1, .int ((I2 99) 3)]) (E' := E2) (I' := I2) (J' := J2) (S' := S2) am_e291 rfl rfl rfl rfl ?_
  refine w_if2 am_e291 rfl rfl (fun c => ?_) (fun c => ?_)
  · replace h := h.1 (of_decide_eq_true c)
    refine w_st (i' := 686) (ls' := [.ref 1000000, .ref 0, .ref 99, .ref 145, .int x4, .int v1, .int v2]) (st' := [.int v1]) (E' := E2) (I' := I2) (J' := J2) (S' := S2) am_e291 rfl rfl rfl rfl ?_
    refine w_if1 am_e291 rfl rfl (fun c => ?_) (fun c => ?_)
    · replace h := h.2 (of_decide_eq_true c)
      refine w_st (i' := 1129) (ls' := [.ref 1000000, .ref 0, .ref 99, .ref 145, .int x4, .int v1, .int v2]) (st' := []) (E' := E2) (I' := I2) (J' := J2) (S' := S2) am_e291 rfl rfl rfl rfl ?_
      exact h
    · replace h := h.1 (Decidable.not_not.mp (of_decide_eq_false c))
      refine w_st (i' := 688) (ls' := [.ref 1000000, .ref 0, .ref 99, .ref 145, .int x4, .int v1, .int v2]) (st' := [.ref 145]) (E' := E2) (I' := I2) (J' := J2) (S' := S2) am_e291 rfl rfl rfl rfl ?_
      refine w_st (i' := 689) (ls' := [.ref 1000000, .ref 0, .ref 99, .ref 145, .int x4, .int v1, .int v2]) (st' := [.int (nI 0), .ref 145]) (E' := E2) (I' := I2) (J' := J2) (S' := S2) am_e291 rfl rfl rfl rfl ?_
      refine w_la (k := 145) (n := 1) (jn := 0) am_e291 rfl rfl (by decide) (vp_in_nI (by decide) (by decide)) rfl ?_
      show am_ww 291 690 [.ref 1000000, .ref 0, .ref 99, .ref 145, .int x4, .int v1, .int v2] [.long ((J2 145) 0)] E2 I2 J2 S2 _
      refine w_st (i' := 691) (ls' := [.ref 1000000, .ref 0, .ref 99, .ref 145, .int x4, .int v1, .int v2]) (st' := [.int v2, .long ((J2 145) 0)]) (E' := E2) (I' := I2) (J' := J2) (S' := S2) am_e291 rfl rfl rfl rfl ?_
      refine w_st (i' := 692) (ls' := [.ref 1000000, .ref 0, .ref 99, .ref 145, .int x4, .int v1, .int v2]) (st' := [.long v2.toInt64, .long ((J2 145) 0)]) (E' := E2) (I' := I2) (J' := J2) (S' := S2) am_e291 rfl rfl rfl rfl ?_
      refine w_st (i' := 693) (ls' := [.ref 1000000, .ref 0, .ref 99, .ref 145, .int x4, .int v1, .int v2]) (st' := [.int (lg_cmp ((J2 145) 0) v2.toInt64)]) (E' := E2) (I' := I2) (J' := J2) (S' := S2) am_e291 rfl rfl rfl rfl ?_
      refine w_if1 am_e291 rfl rfl (fun c => ?_) (fun c => ?_)
      · replace h := h.1 (of_decide_eq_true c)
        refine w_st (i' := 1129) (ls' := [.ref 1000000, .ref 0, .ref 99, .ref 145, .int x4, .int v1, .int v2]) (st' := []) (E' := E2) (I' := I2) (J' := J2) (S' := S2) am_e291 rfl rfl rfl rfl ?_
        exact h
      · replace h := h.2 (of_decide_eq_false c)
        refine w_st (i' := 695) (ls' := [.ref 1000000, .ref 0, .ref 99, .ref 145, .int x4, .int v1, .int v2]) (st' := [.int (nI 0)]) (E' := E2) (I' := I2) (J' := J2) (S' := S2) am_e291 rfl rfl rfl rfl ?_
        exact w_end am_e291 rfl rfl rfl h
  · replace h := h.2 (of_decide_eq_false c)
    refine w_st (i' := 684) (ls' := [.ref 1000000, .ref 0, .ref 99, .ref 145, .int x4, .int v1, .int v2]) (st' := [.int (nI 0)]) (E' := E2) (I' := I2) (J' := J2) (S' := S2) am_e291 rfl rfl rfl rfl ?_
    exact w_end am_e291 rfl rfl rfl h
set_option maxRecDepth 12000 in
theorem g291_697 {x4 : Int32} {d5 : Value} {d6 : Value} {E : am_Ev} {I : Nat → Nat → Int32} {J : Nat → Nat → Int64} {S : Nat → Nat → Option Nat} {Q : am_Qt} (hd5 : am_isL d5 = false) (hd6 : am_isL d6 = false) (h : vp_in (x4 + (nI 1)) E.2.2.1 ∧ (am_cl 139 [.ref 0, .int (E.2.2.2 (x4 + (nI 1)).toNatClampNeg), .ref 145] E I J S (q_I fun v1 E1 I1 J1 S1 => vp_in (x4 + (nI 1)) E1.2.2.1 ∧ (am_cl 261 [.ref 99, .int (E1.2.2.2 (x4 + (nI 1)).toNatClampNeg)] E1 I1 J1 S1 (q_I fun v2 E2 I2 J2 S2 => (((I2 99) 3) = v1 → ((v1 = 0 → (((lg_cmp ((J2 145) 0) v2.toInt64) = 0 → (am_ww 291 1129 [.ref 1000000, .ref 0, .ref 99, .ref 145, .int x4, .int v1, .int v2] [] E2 I2 J2 S2 Q)) ∧ (¬ (lg_cmp ((J2 145) 0) v2.toInt64) = 0 → (Q (.inl (some (.int (nI 0)))) E2 I2 J2 S2)))) ∧ (¬ v1 = 0 → (am_ww 291 1129 [.ref 1000000, .ref 0, .ref 99, .ref 145, .int x4, .int v1, .int v2] [] E2 I2 J2 S2 Q)))) ∧ (¬ ((I2 99) 3) = v1 → (Q (.inl (some (.int (nI 0)))) E2 I2 J2 S2))))))) : am_ww 291 697 [.ref 1000000, .ref 0, .ref 99, .ref 145, .int x4, d5, d6] [] E I J S Q := by
  refine w_st (i' := 698) (ls' := [.ref 1000000, .ref 0, .ref 99, .ref 145, .int x4, d5, d6]) (st' := [.ref 0]) (E' := E) (I' := I) (J' := J) (S' := S) am_e291 rfl rfl rfl rfl ?_
  refine w_st (i' := 699) (ls' := [.ref 1000000, .ref 0, .ref 99, .ref 145, .int x4, d5, d6]) (st' := [.ref 1000000, .ref 0]) (E' := E) (I' := I) (J' := J) (S' := S) am_e291 rfl rfl rfl rfl ?_
  refine w_st (i' := 700) (ls' := [.ref 1000000, .ref 0, .ref 99, .ref 145, .int x4, d5, d6]) (st' := [.int x4, .ref 1000000, .ref 0]) (E' := E) (I' := I) (J' := J) (S' := S) am_e291 rfl rfl rfl rfl ?_
  refine w_st (i' := 701) (ls' := [.ref 1000000, .ref 0, .ref 99, .ref 145, .int x4, d5, d6]) (st' := [.int (nI 1), .int x4, .ref 1000000, .ref 0]) (E' := E) (I' := I) (J' := J) (S' := S) am_e291 rfl rfl rfl rfl ?_
  refine w_st (i' := 702) (ls' := [.ref 1000000, .ref 0, .ref 99, .ref 145, .int x4, d5, d6]) (st' := [.int (x4 + (nI 1)), .ref 1000000, .ref 0]) (E' := E) (I' := I) (J' := J) (S' := S) am_e291 rfl rfl rfl rfl ?_
  refine w_sa am_e291 rfl h.1 ?_
  replace h := h.2
  refine w_st (i' := 704) (ls' := [.ref 1000000, .ref 0, .ref 99, .ref 145, .int x4, d5, d6]) (st' := [.ref 145, .int (E.2.2.2 (x4 + (nI 1)).toNatClampNeg), .ref 0]) (E' := E) (I' := I) (J' := J) (S' := S) am_e291 rfl rfl rfl rfl ?_
  refine w_cI am_e291 rfl rfl (as := [.ref 0, .int (E.2.2.2 (x4 + (nI 1)).toNatClampNeg), .ref 145]) (rest := []) rfl rfl (am_ww.mono h ?_)
  rintro _ E1 I1 J1 S1 ⟨v1, rfl, h⟩
  refine q_mkI ?_
  refine w_st (i' := 706) (ls' := [.ref 1000000, .ref 0, .ref 99, .ref 145, .int x4, .int v1, d6]) (st' := []) (E' := E1) (I' := I1) (J' := J1) (S' := S1) am_e291 rfl rfl rfl rfl ?_
  refine w_st (i' := 707) (ls' := [.ref 1000000, .ref 0, .ref 99, .ref 145, .int x4, .int v1, d6]) (st' := [.ref 99]) (E' := E1) (I' := I1) (J' := J1) (S' := S1) am_e291 rfl rfl rfl rfl ?_
  refine w_st (i' := 708) (ls' := [.ref 1000000, .ref 0, .ref 99, .ref 145, .int x4, .int v1, d6]) (st' := [.ref 1000000, .ref 99]) (E' := E1) (I' := I1) (J' := J1) (S' := S1) am_e291 rfl rfl rfl rfl ?_
  refine w_st (i' := 709) (ls' := [.ref 1000000, .ref 0, .ref 99, .ref 145, .int x4, .int v1, d6]) (st' := [.int x4, .ref 1000000, .ref 99]) (E' := E1) (I' := I1) (J' := J1) (S' := S1) am_e291 rfl rfl rfl rfl ?_
  refine w_st (i' := 710) (ls' := [.ref 1000000, .ref 0, .ref 99, .ref 145, .int x4, .int v1, d6]) (st' := [.int (nI 1), .int x4, .ref 1000000, .ref 99]) (E' := E1) (I' := I1) (J' := J1) (S' := S1) am_e291 rfl rfl rfl rfl ?_
  refine w_st (i' := 711) (ls' := [.ref 1000000, .ref 0, .ref 99, .ref 145, .int x4, .int v1, d6]) (st' := [.int (x4 + (nI 1)), .ref 1000000, .ref 99]) (E' := E1) (I' := I1) (J' := J1) (S' := S1) am_e291 rfl rfl rfl rfl ?_
  refine w_sa am_e291 rfl h.1 ?_
  replace h := h.2
  refine w_cI am_e291 rfl rfl (as := [.ref 99, .int (E1.2.2.2 (x4 + (nI 1)).toNatClampNeg)]) (rest := []) rfl rfl (am_ww.mono h ?_)
  rintro _ E2 I2 J2 S2 ⟨v2, rfl, h⟩
  refine q_mkI ?_
  refine w_st (i' := 714) (ls' := [.ref 1000000, .ref 0, .ref 99, .ref 145, .int x4, .int v1, .int v2]) (st' := []) (E' := E2) (I' := I2) (J' := J2) (S' := S2) am_e291 rfl rfl rfl rfl ?_
  refine w_st (i' := 715) (ls' := [.ref 1000000, .ref 0, .ref 99, .ref 145, .int x4, .int v1, .int v2]) (st' := [.ref 99]) (E' := E2) (I' := I2) (J' := J2) (S' := S2) am_e291 rfl rfl rfl rfl ?_
  refine w_cI am_e291 rfl rfl (as := [.ref 99]) (rest := []) rfl rfl ?_
  show am_ww 186 0 [.ref 99] [] E2 I2 J2 S2 _
  refine w_st (i' := 1) (ls' := [.ref 99]) (st' := [.ref 99]) (E' := E2) (I' := I2) (J' := J2) (S' := S2) am_e186 rfl rfl rfl rfl ?_
  refine w_st (i' := 2) (ls' := [.ref 99]) (st' := [.int ((I2 99) 3)]) (E' := E2) (I' := I2) (J' := J2) (S' := S2) am_e186 rfl rfl rfl rfl ?_
  refine w_ri am_e186 rfl rfl (q_mkI ?_)
  show am_ww 291 716 [.ref 1000000, .ref 0, .ref 99, .ref 145, .int x4, .int v1, .int v2] [.int ((I2 99) 3)] E2 I2 J2 S2 _
  refine w_st (i' := 717) (ls' := [.ref 1000000, .ref 0, .ref 99, .ref 145, .int x4, .int v1, .int v2]) (st' := [.int v1, .int ((I2 99) 3)]) (E' := E2) (I' := I2) (J' := J2) (S' := S2) am_e291 rfl rfl rfl rfl ?_
  refine w_if2 am_e291 rfl rfl (fun c => ?_) (fun c => ?_)
  · replace h := h.1 (of_decide_eq_true c)
    refine w_st (i' := 721) (ls' := [.ref 1000000, .ref 0, .ref 99, .ref 145, .int x4, .int v1, .int v2]) (st' := [.int v1]) (E' := E2) (I' := I2) (J' := J2) (S' := S2) am_e291 rfl rfl rfl rfl ?_
    refine w_if1 am_e291 rfl rfl (fun c => ?_) (fun c => ?_)
    · replace h := h.2 (of_decide_eq_true c)
      refine w_st (i' := 1129) (ls' := [.ref 1000000, .ref 0, .ref 99, .ref 145, .int x4, .int v1, .int v2]) (st' := []) (E' := E2) (I' := I2) (J' := J2) (S' := S2) am_e291 rfl rfl rfl rfl ?_
      exact h
    · replace h := h.1 (Decidable.not_not.mp (of_decide_eq_false c))
      refine w_st (i' := 723) (ls' := [.ref 1000000, .ref 0, .ref 99, .ref 145, .int x4, .int v1, .int v2]) (st' := [.ref 145]) (E' := E2) (I' := I2) (J' := J2) (S' := S2) am_e291 rfl rfl rfl rfl ?_
      refine w_st (i' := 724) (ls' := [.ref 1000000, .ref 0, .ref 99, .ref 145, .int x4, .int v1, .int v2]) (st' := [.int (nI 0), .ref 145]) (E' := E2) (I' := I2) (J' := J2) (S' := S2) am_e291 rfl rfl rfl rfl ?_
      refine w_la (k := 145) (n := 1) (jn := 0) am_e291 rfl rfl (by decide) (vp_in_nI (by decide) (by decide)) rfl ?_
      show am_ww 291 725 [.ref 1000000, .ref 0, .ref 99, .ref 145, .int x4, .int v1, .int v2] [.long ((J2 145) 0)] E2 I2 J2 S2 _
      refine w_st (i' := 726) (ls' := [.ref 1000000, .ref 0, .ref 99, .ref 145, .int x4, .int v1, .int v2]) (st' := [.int v2, .long ((J2 145) 0)]) (E' := E2) (I' := I2) (J' := J2) (S' := S2) am_e291 rfl rfl rfl rfl ?_
      refine w_st (i' := 727) (ls' := [.ref 1000000, .ref 0, .ref 99, .ref 145, .int x4, .int v1, .int v2]) (st' := [.long v2.toInt64, .long ((J2 145) 0)]) (E' := E2) (I' := I2) (J' := J2) (S' := S2) am_e291 rfl rfl rfl rfl ?_
      refine w_st (i' := 728) (ls' := [.ref 1000000, .ref 0, .ref 99, .ref 145, .int x4, .int v1, .int v2]) (st' := [.int (lg_cmp ((J2 145) 0) v2.toInt64)]) (E' := E2) (I' := I2) (J' := J2) (S' := S2) am_e291 rfl rfl rfl rfl ?_
      refine w_if1 am_e291 rfl rfl (fun c => ?_) (fun c => ?_)
      · replace h := h.1 (of_decide_eq_true c)
        refine w_st (i' := 1129) (ls' := [.ref 1000000, .ref 0, .ref 99, .ref 145, .int x4, .int v1, .int v2]) (st' := []) (E' := E2) (I' := I2) (J' := J2) (S' := S2) am_e291 rfl rfl rfl rfl ?_
        exact h
      · replace h := h.2 (of_decide_eq_false c)
        refine w_st (i' := 730) (ls' := [.ref 1000000, .ref 0, .ref 99, .ref 145, .int x4, .int v1, .int v2]) (st' := [.int (nI 0)]) (E' := E2) (I' := I2) (J' := J2) (S' := S2) am_e291 rfl rfl rfl rfl ?_
        exact w_end am_e291 rfl rfl rfl h
  · replace h := h.2 (of_decide_eq_false c)
    refine w_st (i' := 719) (ls' := [.ref 1000000, .ref 0, .ref 99, .ref 145, .int x4, .int v1, .int v2]) (st' := [.int (nI 0)]) (E' := E2) (I' := I2) (J' := J2) (S' := S2) am_e291 rfl rfl rfl rfl ?_
    exact w_end am_e291 rfl rfl rfl h
set_option maxRecDepth 12000 in
theorem g291_732 {x4 : Int32} {d5 : Value} {d6 : Value} {E : am_Ev} {I : Nat → Nat → Int32} {J : Nat → Nat → Int64} {S : Nat → Nat → Option Nat} {Q : am_Qt} (hd5 : am_isL d5 = false) (hd6 : am_isL d6 = false) (h : vp_in (x4 + (nI 1)) E.2.2.1 ∧ (am_cl 141 [.ref 0, .int (E.2.2.2 (x4 + (nI 1)).toNatClampNeg), .ref 145] E I J S (q_I fun v1 E1 I1 J1 S1 => vp_in (x4 + (nI 1)) E1.2.2.1 ∧ (am_cl 262 [.ref 99, .int (E1.2.2.2 (x4 + (nI 1)).toNatClampNeg)] E1 I1 J1 S1 (q_I fun v2 E2 I2 J2 S2 => (((I2 99) 3) = v1 → ((v1 = 0 → (((lg_cmp ((J2 145) 0) v2.toInt64) = 0 → (am_ww 291 1129 [.ref 1000000, .ref 0, .ref 99, .ref 145, .int x4, .int v1, .int v2] [] E2 I2 J2 S2 Q)) ∧ (¬ (lg_cmp ((J2 145) 0) v2.toInt64) = 0 → (Q (.inl (some (.int (nI 0)))) E2 I2 J2 S2)))) ∧ (¬ v1 = 0 → (am_ww 291 1129 [.ref 1000000, .ref 0, .ref 99, .ref 145, .int x4, .int v1, .int v2] [] E2 I2 J2 S2 Q)))) ∧ (¬ ((I2 99) 3) = v1 → (Q (.inl (some (.int (nI 0)))) E2 I2 J2 S2))))))) : am_ww 291 732 [.ref 1000000, .ref 0, .ref 99, .ref 145, .int x4, d5, d6] [] E I J S Q := by
  refine w_st (i' := 733) (ls' := [.ref 1000000, .ref 0, .ref 99, .ref 145, .int x4, d5, d6]) (st' := [.ref 0]) (E' := E) (I' := I) (J' := J) (S' := S) am_e291 rfl rfl rfl rfl ?_
  refine w_st (i' := 734) (ls' := [.ref 1000000, .ref 0, .ref 99, .ref 145, .int x4, d5, d6]) (st' := [.ref 1000000, .ref 0]) (E' := E) (I' := I) (J' := J) (S' := S) am_e291 rfl rfl rfl rfl ?_
  refine w_st (i' := 735) (ls' := [.ref 1000000, .ref 0, .ref 99, .ref 145, .int x4, d5, d6]) (st' := [.int x4, .ref 1000000, .ref 0]) (E' := E) (I' := I) (J' := J) (S' := S) am_e291 rfl rfl rfl rfl ?_
  refine w_st (i' := 736) (ls' := [.ref 1000000, .ref 0, .ref 99, .ref 145, .int x4, d5, d6]) (st' := [.int (nI 1), .int x4, .ref 1000000, .ref 0]) (E' := E) (I' := I) (J' := J) (S' := S) am_e291 rfl rfl rfl rfl ?_
  refine w_st (i' := 737) (ls' := [.ref 1000000, .ref 0, .ref 99, .ref 145, .int x4, d5, d6]) (st' := [.int (x4 + (nI 1)), .ref 1000000, .ref 0]) (E' := E) (I' := I) (J' := J) (S' := S) am_e291 rfl rfl rfl rfl ?_
  refine w_sa am_e291 rfl h.1 ?_
  replace h := h.2
  refine w_st (i' := 739) (ls' := [.ref 1000000, .ref 0, .ref 99, .ref 145, .int x4, d5, d6]) (st' := [.ref 145, .int (E.2.2.2 (x4 + (nI 1)).toNatClampNeg), .ref 0]) (E' := E) (I' := I) (J' := J) (S' := S) am_e291 rfl rfl rfl rfl ?_
  refine w_cI am_e291 rfl rfl (as := [.ref 0, .int (E.2.2.2 (x4 + (nI 1)).toNatClampNeg), .ref 145]) (rest := []) rfl rfl (am_ww.mono h ?_)
  rintro _ E1 I1 J1 S1 ⟨v1, rfl, h⟩
  refine q_mkI ?_
  refine w_st (i' := 741) (ls' := [.ref 1000000, .ref 0, .ref 99, .ref 145, .int x4, .int v1, d6]) (st' := []) (E' := E1) (I' := I1) (J' := J1) (S' := S1) am_e291 rfl rfl rfl rfl ?_
  refine w_st (i' := 742) (ls' := [.ref 1000000, .ref 0, .ref 99, .ref 145, .int x4, .int v1, d6]) (st' := [.ref 99]) (E' := E1) (I' := I1) (J' := J1) (S' := S1) am_e291 rfl rfl rfl rfl ?_
  refine w_st (i' := 743) (ls' := [.ref 1000000, .ref 0, .ref 99, .ref 145, .int x4, .int v1, d6]) (st' := [.ref 1000000, .ref 99]) (E' := E1) (I' := I1) (J' := J1) (S' := S1) am_e291 rfl rfl rfl rfl ?_
  refine w_st (i' := 744) (ls' := [.ref 1000000, .ref 0, .ref 99, .ref 145, .int x4, .int v1, d6]) (st' := [.int x4, .ref 1000000, .ref 99]) (E' := E1) (I' := I1) (J' := J1) (S' := S1) am_e291 rfl rfl rfl rfl ?_
  refine w_st (i' := 745) (ls' := [.ref 1000000, .ref 0, .ref 99, .ref 145, .int x4, .int v1, d6]) (st' := [.int (nI 1), .int x4, .ref 1000000, .ref 99]) (E' := E1) (I' := I1) (J' := J1) (S' := S1) am_e291 rfl rfl rfl rfl ?_
  refine w_st (i' := 746) (ls' := [.ref 1000000, .ref 0, .ref 99, .ref 145, .int x4, .int v1, d6]) (st' := [.int (x4 + (nI 1)), .ref 1000000, .ref 99]) (E' := E1) (I' := I1) (J' := J1) (S' := S1) am_e291 rfl rfl rfl rfl ?_
  refine w_sa am_e291 rfl h.1 ?_
  replace h := h.2
  refine w_cI am_e291 rfl rfl (as := [.ref 99, .int (E1.2.2.2 (x4 + (nI 1)).toNatClampNeg)]) (rest := []) rfl rfl (am_ww.mono h ?_)
  rintro _ E2 I2 J2 S2 ⟨v2, rfl, h⟩
  refine q_mkI ?_
  refine w_st (i' := 749) (ls' := [.ref 1000000, .ref 0, .ref 99, .ref 145, .int x4, .int v1, .int v2]) (st' := []) (E' := E2) (I' := I2) (J' := J2) (S' := S2) am_e291 rfl rfl rfl rfl ?_
  refine w_st (i' := 750) (ls' := [.ref 1000000, .ref 0, .ref 99, .ref 145, .int x4, .int v1, .int v2]) (st' := [.ref 99]) (E' := E2) (I' := I2) (J' := J2) (S' := S2) am_e291 rfl rfl rfl rfl ?_
  refine w_cI am_e291 rfl rfl (as := [.ref 99]) (rest := []) rfl rfl ?_
  show am_ww 186 0 [.ref 99] [] E2 I2 J2 S2 _
  refine w_st (i' := 1) (ls' := [.ref 99]) (st' := [.ref 99]) (E' := E2) (I' := I2) (J' := J2) (S' := S2) am_e186 rfl rfl rfl rfl ?_
  refine w_st (i' := 2) (ls' := [.ref 99]) (st' := [.int ((I2 99) 3)]) (E' := E2) (I' := I2) (J' := J2) (S' := S2) am_e186 rfl rfl rfl rfl ?_
  refine w_ri am_e186 rfl rfl (q_mkI ?_)
  show am_ww 291 751 [.ref 1000000, .ref 0, .ref 99, .ref 145, .int x4, .int v1, .int v2] [.int ((I2 99) 3)] E2 I2 J2 S2 _
  refine w_st (i' := 752) (ls' := [.ref 1000000, .ref 0, .ref 99, .ref 145, .int x4, .int v1, .int v2]) (st' := [.int v1, .int ((I2 99) 3)]) (E' := E2) (I' := I2) (J' := J2) (S' := S2) am_e291 rfl rfl rfl rfl ?_
  refine w_if2 am_e291 rfl rfl (fun c => ?_) (fun c => ?_)
  · replace h := h.1 (of_decide_eq_true c)
    refine w_st (i' := 756) (ls' := [.ref 1000000, .ref 0, .ref 99, .ref 145, .int x4, .int v1, .int v2]) (st' := [.int v1]) (E' := E2) (I' := I2) (J' := J2) (S' := S2) am_e291 rfl rfl rfl rfl ?_
    refine w_if1 am_e291 rfl rfl (fun c => ?_) (fun c => ?_)
    · replace h := h.2 (of_decide_eq_true c)
      refine w_st (i' := 1129) (ls' := [.ref 1000000, .ref 0, .ref 99, .ref 145, .int x4, .int v1, .int v2]) (st' := []) (E' := E2) (I' := I2) (J' := J2) (S' := S2) am_e291 rfl rfl rfl rfl ?_
      exact h
    · replace h := h.1 (Decidable.not_not.mp (of_decide_eq_false c))
      refine w_st (i' := 758) (ls' := [.ref 1000000, .ref 0, .ref 99, .ref 145, .int x4, .int v1, .int v2]) (st' := [.ref 145]) (E' := E2) (I' := I2) (J' := J2) (S' := S2) am_e291 rfl rfl rfl rfl ?_
      refine w_st (i' := 759) (ls' := [.ref 1000000, .ref 0, .ref 99, .ref 145, .int x4, .int v1, .int v2]) (st' := [.int (nI 0), .ref 145]) (E' := E2) (I' := I2) (J' := J2) (S' := S2) am_e291 rfl rfl rfl rfl ?_
      refine w_la (k := 145) (n := 1) (jn := 0) am_e291 rfl rfl (by decide) (vp_in_nI (by decide) (by decide)) rfl ?_
      show am_ww 291 760 [.ref 1000000, .ref 0, .ref 99, .ref 145, .int x4, .int v1, .int v2] [.long ((J2 145) 0)] E2 I2 J2 S2 _
      refine w_st (i' := 761) (ls' := [.ref 1000000, .ref 0, .ref 99, .ref 145, .int x4, .int v1, .int v2]) (st' := [.int v2, .long ((J2 145) 0)]) (E' := E2) (I' := I2) (J' := J2) (S' := S2) am_e291 rfl rfl rfl rfl ?_
      refine w_st (i' := 762) (ls' := [.ref 1000000, .ref 0, .ref 99, .ref 145, .int x4, .int v1, .int v2]) (st' := [.long v2.toInt64, .long ((J2 145) 0)]) (E' := E2) (I' := I2) (J' := J2) (S' := S2) am_e291 rfl rfl rfl rfl ?_
      refine w_st (i' := 763) (ls' := [.ref 1000000, .ref 0, .ref 99, .ref 145, .int x4, .int v1, .int v2]) (st' := [.int (lg_cmp ((J2 145) 0) v2.toInt64)]) (E' := E2) (I' := I2) (J' := J2) (S' := S2) am_e291 rfl rfl rfl rfl ?_
      refine w_if1 am_e291 rfl rfl (fun c => ?_) (fun c => ?_)
      · replace h := h.1 (of_decide_eq_true c)
        refine w_st (i' := 1129) (ls' := [.ref 1000000, .ref 0, .ref 99, .ref 145, .int x4, .int v1, .int v2]) (st' := []) (E' := E2) (I' := I2) (J' := J2) (S' := S2) am_e291 rfl rfl rfl rfl ?_
        exact h
      · replace h := h.2 (of_decide_eq_false c)
        refine w_st (i' := 765) (ls' := [.ref 1000000, .ref 0, .ref 99, .ref 145, .int x4, .int v1, .int v2]) (st' := [.int (nI 0)]) (E' := E2) (I' := I2) (J' := J2) (S' := S2) am_e291 rfl rfl rfl rfl ?_
        exact w_end am_e291 rfl rfl rfl h
  · replace h := h.2 (of_decide_eq_false c)
    refine w_st (i' := 754) (ls' := [.ref 1000000, .ref 0, .ref 99, .ref 145, .int x4, .int v1, .int v2]) (st' := [.int (nI 0)]) (E' := E2) (I' := I2) (J' := J2) (S' := S2) am_e291 rfl rfl rfl rfl ?_
    exact w_end am_e291 rfl rfl rfl h
set_option maxRecDepth 12000 in
theorem g291_767 {x4 : Int32} {d5 : Value} {d6 : Value} {E : am_Ev} {I : Nat → Nat → Int32} {J : Nat → Nat → Int64} {S : Nat → Nat → Option Nat} {Q : am_Qt} (hd5 : am_isL d5 = false) (hd6 : am_isL d6 = false) (h : vp_in (x4 + (nI 1)) E.2.2.1 ∧ (am_cl 143 [.ref 0, .int (E.2.2.2 (x4 + (nI 1)).toNatClampNeg), .ref 145] E I J S (q_I fun v1 E1 I1 J1 S1 => vp_in (x4 + (nI 1)) E1.2.2.1 ∧ (am_cl 264 [.ref 99, .int (E1.2.2.2 (x4 + (nI 1)).toNatClampNeg)] E1 I1 J1 S1 (q_I fun v2 E2 I2 J2 S2 => (((I2 99) 3) = v1 → ((v1 = 0 → (((lg_cmp ((J2 145) 0) v2.toInt64) = 0 → (am_ww 291 1129 [.ref 1000000, .ref 0, .ref 99, .ref 145, .int x4, .int v1, .int v2] [] E2 I2 J2 S2 Q)) ∧ (¬ (lg_cmp ((J2 145) 0) v2.toInt64) = 0 → (Q (.inl (some (.int (nI 0)))) E2 I2 J2 S2)))) ∧ (¬ v1 = 0 → (am_ww 291 1129 [.ref 1000000, .ref 0, .ref 99, .ref 145, .int x4, .int v1, .int v2] [] E2 I2 J2 S2 Q)))) ∧ (¬ ((I2 99) 3) = v1 → (Q (.inl (some (.int (nI 0)))) E2 I2 J2 S2))))))) : am_ww 291 767 [.ref 1000000, .ref 0, .ref 99, .ref 145, .int x4, d5, d6] [] E I J S Q := by
  refine w_st (i' := 768) (ls' := [.ref 1000000, .ref 0, .ref 99, .ref 145, .int x4, d5, d6]) (st' := [.ref 0]) (E' := E) (I' := I) (J' := J) (S' := S) am_e291 rfl rfl rfl rfl ?_
  refine w_st (i' := 769) (ls' := [.ref 1000000, .ref 0, .ref 99, .ref 145, .int x4, d5, d6]) (st' := [.ref 1000000, .ref 0]) (E' := E) (I' := I) (J' := J) (S' := S) am_e291 rfl rfl rfl rfl ?_
  refine w_st (i' := 770) (ls' := [.ref 1000000, .ref 0, .ref 99, .ref 145, .int x4, d5, d6]) (st' := [.int x4, .ref 1000000, .ref 0]) (E' := E) (I' := I) (J' := J) (S' := S) am_e291 rfl rfl rfl rfl ?_
  refine w_st (i' := 771) (ls' := [.ref 1000000, .ref 0, .ref 99, .ref 145, .int x4, d5, d6]) (st' := [.int (nI 1), .int x4, .ref 1000000, .ref 0]) (E' := E) (I' := I) (J' := J) (S' := S) am_e291 rfl rfl rfl rfl ?_
  refine w_st (i' := 772) (ls' := [.ref 1000000, .ref 0, .ref 99, .ref 145, .int x4, d5, d6]) (st' := [.int (x4 + (nI 1)), .ref 1000000, .ref 0]) (E' := E) (I' := I) (J' := J) (S' := S) am_e291 rfl rfl rfl rfl ?_
  refine w_sa am_e291 rfl h.1 ?_
  replace h := h.2
  refine w_st (i' := 774) (ls' := [.ref 1000000, .ref 0, .ref 99, .ref 145, .int x4, d5, d6]) (st' := [.ref 145, .int (E.2.2.2 (x4 + (nI 1)).toNatClampNeg), .ref 0]) (E' := E) (I' := I) (J' := J) (S' := S) am_e291 rfl rfl rfl rfl ?_
  refine w_cI am_e291 rfl rfl (as := [.ref 0, .int (E.2.2.2 (x4 + (nI 1)).toNatClampNeg), .ref 145]) (rest := []) rfl rfl (am_ww.mono h ?_)
  rintro _ E1 I1 J1 S1 ⟨v1, rfl, h⟩
  refine q_mkI ?_
  refine w_st (i' := 776) (ls' := [.ref 1000000, .ref 0, .ref 99, .ref 145, .int x4, .int v1, d6]) (st' := []) (E' := E1) (I' := I1) (J' := J1) (S' := S1) am_e291 rfl rfl rfl rfl ?_
  refine w_st (i' := 777) (ls' := [.ref 1000000, .ref 0, .ref 99, .ref 145, .int x4, .int v1, d6]) (st' := [.ref 99]) (E' := E1) (I' := I1) (J' := J1) (S' := S1) am_e291 rfl rfl rfl rfl ?_
  refine w_st (i' := 778) (ls' := [.ref 1000000, .ref 0, .ref 99, .ref 145, .int x4, .int v1, d6]) (st' := [.ref 1000000, .ref 99]) (E' := E1) (I' := I1) (J' := J1) (S' := S1) am_e291 rfl rfl rfl rfl ?_
  refine w_st (i' := 779) (ls' := [.ref 1000000, .ref 0, .ref 99, .ref 145, .int x4, .int v1, d6]) (st' := [.int x4, .ref 1000000, .ref 99]) (E' := E1) (I' := I1) (J' := J1) (S' := S1) am_e291 rfl rfl rfl rfl ?_
  refine w_st (i' := 780) (ls' := [.ref 1000000, .ref 0, .ref 99, .ref 145, .int x4, .int v1, d6]) (st' := [.int (nI 1), .int x4, .ref 1000000, .ref 99]) (E' := E1) (I' := I1) (J' := J1) (S' := S1) am_e291 rfl rfl rfl rfl ?_
  refine w_st (i' := 781) (ls' := [.ref 1000000, .ref 0, .ref 99, .ref 145, .int x4, .int v1, d6]) (st' := [.int (x4 + (nI 1)), .ref 1000000, .ref 99]) (E' := E1) (I' := I1) (J' := J1) (S' := S1) am_e291 rfl rfl rfl rfl ?_
  refine w_sa am_e291 rfl h.1 ?_
  replace h := h.2
  refine w_cI am_e291 rfl rfl (as := [.ref 99, .int (E1.2.2.2 (x4 + (nI 1)).toNatClampNeg)]) (rest := []) rfl rfl (am_ww.mono h ?_)
  rintro _ E2 I2 J2 S2 ⟨v2, rfl, h⟩
  refine q_mkI ?_
  refine w_st (i' := 784) (ls' := [.ref 1000000, .ref 0, .ref 99, .ref 145, .int x4, .int v1, .int v2]) (st' := []) (E' := E2) (I' := I2) (J' := J2) (S' := S2) am_e291 rfl rfl rfl rfl ?_
  refine w_st (i' := 785) (ls' := [.ref 1000000, .ref 0, .ref 99, .ref 145, .int x4, .int v1, .int v2]) (st' := [.ref 99]) (E' := E2) (I' := I2) (J' := J2) (S' := S2) am_e291 rfl rfl rfl rfl ?_
  refine w_cI am_e291 rfl rfl (as := [.ref 99]) (rest := []) rfl rfl ?_
  show am_ww 186 0 [.ref 99] [] E2 I2 J2 S2 _
  refine w_st (i' := 1) (ls' := [.ref 99]) (st' := [.ref 99]) (E' := E2) (I' := I2) (J' := J2) (S' := S2) am_e186 rfl rfl rfl rfl ?_
  refine w_st (i' := 2) (ls' := [.ref 99]) (st' := [.int ((I2 99) 3)]) (E' := E2) (I' := I2) (J' := J2) (S' := S2) am_e186 rfl rfl rfl rfl ?_
  refine w_ri am_e186 rfl rfl (q_mkI ?_)
  show am_ww 291 786 [.ref 1000000, .ref 0, .ref 99, .ref 145, .int x4, .int v1, .int v2] [.int ((I2 99) 3)] E2 I2 J2 S2 _
  refine w_st (i' := 787) (ls' := [.ref 1000000, .ref 0, .ref 99, .ref 145, .int x4, .int v1, .int v2]) (st' := [.int v1, .int ((I2 99) 3)]) (E' := E2) (I' := I2) (J' := J2) (S' := S2) am_e291 rfl rfl rfl rfl ?_
  refine w_if2 am_e291 rfl rfl (fun c => ?_) (fun c => ?_)
  · replace h := h.1 (of_decide_eq_true c)
    refine w_st (i' := 791) (ls' := [.ref 1000000, .ref 0, .ref 99, .ref 145, .int x4, .int v1, .int v2]) (st' := [.int v1]) (E' := E2) (I' := I2) (J' := J2) (S' := S2) am_e291 rfl rfl rfl rfl ?_
    refine w_if1 am_e291 rfl rfl (fun c => ?_) (fun c => ?_)
    · replace h := h.2 (of_decide_eq_true c)
      refine w_st (i' := 1129) (ls' := [.ref 1000000, .ref 0, .ref 99, .ref 145, .int x4, .int v1, .int v2]) (st' := []) (E' := E2) (I' := I2) (J' := J2) (S' := S2) am_e291 rfl rfl rfl rfl ?_
      exact h
    · replace h := h.1 (Decidable.not_not.mp (of_decide_eq_false c))
      refine w_st (i' := 793) (ls' := [.ref 1000000, .ref 0, .ref 99, .ref 145, .int x4, .int v1, .int v2]) (st' := [.ref 145]) (E' := E2) (I' := I2) (J' := J2) (S' := S2) am_e291 rfl rfl rfl rfl ?_
      refine w_st (i' := 794) (ls' := [.ref 1000000, .ref 0, .ref 99, .ref 145, .int x4, .int v1, .int v2]) (st' := [.int (nI 0), .ref 145]) (E' := E2) (I' := I2) (J' := J2) (S' := S2) am_e291 rfl rfl rfl rfl ?_
      refine w_la (k := 145) (n := 1) (jn := 0) am_e291 rfl rfl (by decide) (vp_in_nI (by decide) (by decide)) rfl ?_
      show am_ww 291 795 [.ref 1000000, .ref 0, .ref 99, .ref 145, .int x4, .int v1, .int v2] [.long ((J2 145) 0)] E2 I2 J2 S2 _
      refine w_st (i' := 796) (ls' := [.ref 1000000, .ref 0, .ref 99, .ref 145, .int x4, .int v1, .int v2]) (st' := [.int v2, .long ((J2 145) 0)]) (E' := E2) (I' := I2) (J' := J2) (S' := S2) am_e291 rfl rfl rfl rfl ?_
      refine w_st (i' := 797) (ls' := [.ref 1000000, .ref 0, .ref 99, .ref 145, .int x4, .int v1, .int v2]) (st' := [.long v2.toInt64, .long ((J2 145) 0)]) (E' := E2) (I' := I2) (J' := J2) (S' := S2) am_e291 rfl rfl rfl rfl ?_
      refine w_st (i' := 798) (ls' := [.ref 1000000, .ref 0, .ref 99, .ref 145, .int x4, .int v1, .int v2]) (st' := [.int (lg_cmp ((J2 145) 0) v2.toInt64)]) (E' := E2) (I' := I2) (J' := J2) (S' := S2) am_e291 rfl rfl rfl rfl ?_
      refine w_if1 am_e291 rfl rfl (fun c => ?_) (fun c => ?_)
      · replace h := h.1 (of_decide_eq_true c)
        refine w_st (i' := 1129) (ls' := [.ref 1000000, .ref 0, .ref 99, .ref 145, .int x4, .int v1, .int v2]) (st' := []) (E' := E2) (I' := I2) (J' := J2) (S' := S2) am_e291 rfl rfl rfl rfl ?_
        exact h
      · replace h := h.2 (of_decide_eq_false c)
        refine w_st (i' := 800) (ls' := [.ref 1000000, .ref 0, .ref 99, .ref 145, .int x4, .int v1, .int v2]) (st' := [.int (nI 0)]) (E' := E2) (I' := I2) (J' := J2) (S' := S2) am_e291 rfl rfl rfl rfl ?_
        exact w_end am_e291 rfl rfl rfl h
  · replace h := h.2 (of_decide_eq_false c)
    refine w_st (i' := 789) (ls' := [.ref 1000000, .ref 0, .ref 99, .ref 145, .int x4, .int v1, .int v2]) (st' := [.int (nI 0)]) (E' := E2) (I' := I2) (J' := J2) (S' := S2) am_e291 rfl rfl rfl rfl ?_
    exact w_end am_e291 rfl rfl rfl h
set_option maxRecDepth 12000 in
theorem g291_802 {x4 : Int32} {d5 : Value} {d6 : Value} {E : am_Ev} {I : Nat → Nat → Int32} {J : Nat → Nat → Int64} {S : Nat → Nat → Option Nat} {Q : am_Qt} (hd5 : am_isL d5 = false) (hd6 : am_isL d6 = false) (h : vp_in (x4 + (nI 1)) E.2.2.1 ∧ (vp_in (x4 + (nI 2)) E.2.2.1 ∧ (am_cl 156 [.ref 0, .int (E.2.2.2 (x4 + (nI 1)).toNatClampNeg), .int (E.2.2.2 (x4 + (nI 2)).toNatClampNeg), .ref 145] E I J S (q_I fun v1 E1 I1 J1 S1 => vp_in (x4 + (nI 1)) E1.2.2.1 ∧ (vp_in (x4 + (nI 2)) E1.2.2.1 ∧ (am_cl 270 [.ref 99, .int (E1.2.2.2 (x4 + (nI 1)).toNatClampNeg), .int (E1.2.2.2 (x4 + (nI 2)).toNatClampNeg)] E1 I1 J1 S1 (q_I fun v2 E2 I2 J2 S2 => (((I2 99) 3) = v1 → ((v1 = 0 → (((lg_cmp ((J2 145) 0) v2.toInt64) = 0 → (am_ww 291 1129 [.ref 1000000, .ref 0, .ref 99, .ref 145, .int x4, .int v1, .int v2] [] E2 I2 J2 S2 Q)) ∧ (¬ (lg_cmp ((J2 145) 0) v2.toInt64) = 0 → (Q (.inl (some (.int (nI 0)))) E2 I2 J2 S2)))) ∧ (¬ v1 = 0 → (am_ww 291 1129 [.ref 1000000, .ref 0, .ref 99, .ref 145, .int x4, .int v1, .int v2] [] E2 I2 J2 S2 Q)))) ∧ (¬ ((I2 99) 3) = v1 → (Q (.inl (some (.int (nI 0)))) E2 I2 J2 S2))))))))) : am_ww 291 802 [.ref 1000000, .ref 0, .ref 99, .ref 145, .int x4, d5, d6] [] E I J S Q := by
  refine w_st (i' := 803) (ls' := [.ref 1000000, .ref 0, .ref 99, .ref 145, .int x4, d5, d6]) (st' := [.ref 0]) (E' := E) (I' := I) (J' := J) (S' := S) am_e291 rfl rfl rfl rfl ?_
  refine w_st (i' := 804) (ls' := [.ref 1000000, .ref 0, .ref 99, .ref 145, .int x4, d5, d6]) (st' := [.ref 1000000, .ref 0]) (E' := E) (I' := I) (J' := J) (S' := S) am_e291 rfl rfl rfl rfl ?_
  refine w_st (i' := 805) (ls' := [.ref 1000000, .ref 0, .ref 99, .ref 145, .int x4, d5, d6]) (st' := [.int x4, .ref 1000000, .ref 0]) (E' := E) (I' := I) (J' := J) (S' := S) am_e291 rfl rfl rfl rfl ?_
  refine w_st (i' := 806) (ls' := [.ref 1000000, .ref 0, .ref 99, .ref 145, .int x4, d5, d6]) (st' := [.int (nI 1), .int x4, .ref 1000000, .ref 0]) (E' := E) (I' := I) (J' := J) (S' := S) am_e291 rfl rfl rfl rfl ?_
  refine w_st (i' := 807) (ls' := [.ref 1000000, .ref 0, .ref 99, .ref 145, .int x4, d5, d6]) (st' := [.int (x4 + (nI 1)), .ref 1000000, .ref 0]) (E' := E) (I' := I) (J' := J) (S' := S) am_e291 rfl rfl rfl rfl ?_
  refine w_sa am_e291 rfl h.1 ?_
  replace h := h.2
  refine w_st (i' := 809) (ls' := [.ref 1000000, .ref 0, .ref 99, .ref 145, .int x4, d5, d6]) (st' := [.ref 1000000, .int (E.2.2.2 (x4 + (nI 1)).toNatClampNeg), .ref 0]) (E' := E) (I' := I) (J' := J) (S' := S) am_e291 rfl rfl rfl rfl ?_
  refine w_st (i' := 810) (ls' := [.ref 1000000, .ref 0, .ref 99, .ref 145, .int x4, d5, d6]) (st' := [.int x4, .ref 1000000, .int (E.2.2.2 (x4 + (nI 1)).toNatClampNeg), .ref 0]) (E' := E) (I' := I) (J' := J) (S' := S) am_e291 rfl rfl rfl rfl ?_
  refine w_st (i' := 811) (ls' := [.ref 1000000, .ref 0, .ref 99, .ref 145, .int x4, d5, d6]) (st' := [.int (nI 2), .int x4, .ref 1000000, .int (E.2.2.2 (x4 + (nI 1)).toNatClampNeg), .ref 0]) (E' := E) (I' := I) (J' := J) (S' := S) am_e291 rfl rfl rfl rfl ?_
  refine w_st (i' := 812) (ls' := [.ref 1000000, .ref 0, .ref 99, .ref 145, .int x4, d5, d6]) (st' := [.int (x4 + (nI 2)), .ref 1000000, .int (E.2.2.2 (x4 + (nI 1)).toNatClampNeg), .ref 0]) (E' := E) (I' := I) (J' := J) (S' := S) am_e291 rfl rfl rfl rfl ?_
  refine w_sa am_e291 rfl h.1 ?_
  replace h := h.2
  refine w_st (i' := 814) (ls' := [.ref 1000000, .ref 0, .ref 99, .ref 145, .int x4, d5, d6]) (st' := [.ref 145, .int (E.2.2.2 (x4 + (nI 2)).toNatClampNeg), .int (E.2.2.2 (x4 + (nI 1)).toNatClampNeg), .ref 0]) (E' := E) (I' := I) (J' := J) (S' := S) am_e291 rfl rfl rfl rfl ?_
  refine w_cI am_e291 rfl rfl (as := [.ref 0, .int (E.2.2.2 (x4 + (nI 1)).toNatClampNeg), .int (E.2.2.2 (x4 + (nI 2)).toNatClampNeg), .ref 145]) (rest := []) rfl rfl (am_ww.mono h ?_)
  rintro _ E1 I1 J1 S1 ⟨v1, rfl, h⟩
  refine q_mkI ?_
  refine w_st (i' := 816) (ls' := [.ref 1000000, .ref 0, .ref 99, .ref 145, .int x4, .int v1, d6]) (st' := []) (E' := E1) (I' := I1) (J' := J1) (S' := S1) am_e291 rfl rfl rfl rfl ?_
  refine w_st (i' := 817) (ls' := [.ref 1000000, .ref 0, .ref 99, .ref 145, .int x4, .int v1, d6]) (st' := [.ref 99]) (E' := E1) (I' := I1) (J' := J1) (S' := S1) am_e291 rfl rfl rfl rfl ?_
  refine w_st (i' := 818) (ls' := [.ref 1000000, .ref 0, .ref 99, .ref 145, .int x4, .int v1, d6]) (st' := [.ref 1000000, .ref 99]) (E' := E1) (I' := I1) (J' := J1) (S' := S1) am_e291 rfl rfl rfl rfl ?_
  refine w_st (i' := 819) (ls' := [.ref 1000000, .ref 0, .ref 99, .ref 145, .int x4, .int v1, d6]) (st' := [.int x4, .ref 1000000, .ref 99]) (E' := E1) (I' := I1) (J' := J1) (S' := S1) am_e291 rfl rfl rfl rfl ?_
  refine w_st (i' := 820) (ls' := [.ref 1000000, .ref 0, .ref 99, .ref 145, .int x4, .int v1, d6]) (st' := [.int (nI 1), .int x4, .ref 1000000, .ref 99]) (E' := E1) (I' := I1) (J' := J1) (S' := S1) am_e291 rfl rfl rfl rfl ?_
  refine w_st (i' := 821) (ls' := [.ref 1000000, .ref 0, .ref 99, .ref 145, .int x4, .int v1, d6]) (st' := [.int (x4 + (nI 1)), .ref 1000000, .ref 99]) (E' := E1) (I' := I1) (J' := J1) (S' := S1) am_e291 rfl rfl rfl rfl ?_
  refine w_sa am_e291 rfl h.1 ?_
  replace h := h.2
  refine w_st (i' := 823) (ls' := [.ref 1000000, .ref 0, .ref 99, .ref 145, .int x4, .int v1, d6]) (st' := [.ref 1000000, .int (E1.2.2.2 (x4 + (nI 1)).toNatClampNeg), .ref 99]) (E' := E1) (I' := I1) (J' := J1) (S' := S1) am_e291 rfl rfl rfl rfl ?_
  refine w_st (i' := 824) (ls' := [.ref 1000000, .ref 0, .ref 99, .ref 145, .int x4, .int v1, d6]) (st' := [.int x4, .ref 1000000, .int (E1.2.2.2 (x4 + (nI 1)).toNatClampNeg), .ref 99]) (E' := E1) (I' := I1) (J' := J1) (S' := S1) am_e291 rfl rfl rfl rfl ?_
  refine w_st (i' := 825) (ls' := [.ref 1000000, .ref 0, .ref 99, .ref 145, .int x4, .int v1, d6]) (st' := [.int (nI 2), .int x4, .ref 1000000, .int (E1.2.2.2 (x4 + (nI 1)).toNatClampNeg), .ref 99]) (E' := E1) (I' := I1) (J' := J1) (S' := S1) am_e291 rfl rfl rfl rfl ?_
  refine w_st (i' := 826) (ls' := [.ref 1000000, .ref 0, .ref 99, .ref 145, .int x4, .int v1, d6]) (st' := [.int (x4 + (nI 2)), .ref 1000000, .int (E1.2.2.2 (x4 + (nI 1)).toNatClampNeg), .ref 99]) (E' := E1) (I' := I1) (J' := J1) (S' := S1) am_e291 rfl rfl rfl rfl ?_
  refine w_sa am_e291 rfl h.1 ?_
  replace h := h.2
  refine w_cI am_e291 rfl rfl (as := [.ref 99, .int (E1.2.2.2 (x4 + (nI 1)).toNatClampNeg), .int (E1.2.2.2 (x4 + (nI 2)).toNatClampNeg)]) (rest := []) rfl rfl (am_ww.mono h ?_)
  rintro _ E2 I2 J2 S2 ⟨v2, rfl, h⟩
  refine q_mkI ?_
  refine w_st (i' := 829) (ls' := [.ref 1000000, .ref 0, .ref 99, .ref 145, .int x4, .int v1, .int v2]) (st' := []) (E' := E2) (I' := I2) (J' := J2) (S' := S2) am_e291 rfl rfl rfl rfl ?_
  refine w_st (i' := 830) (ls' := [.ref 1000000, .ref 0, .ref 99, .ref 145, .int x4, .int v1, .int v2]) (st' := [.ref 99]) (E' := E2) (I' := I2) (J' := J2) (S' := S2) am_e291 rfl rfl rfl rfl ?_
  refine w_cI am_e291 rfl rfl (as := [.ref 99]) (rest := []) rfl rfl ?_
  show am_ww 186 0 [.ref 99] [] E2 I2 J2 S2 _
  refine w_st (i' := 1) (ls' := [.ref 99]) (st' := [.ref 99]) (E' := E2) (I' := I2) (J' := J2) (S' := S2) am_e186 rfl rfl rfl rfl ?_
  refine w_st (i' := 2) (ls' := [.ref 99]) (st' := [.int ((I2 99) 3)]) (E' := E2) (I' := I2) (J' := J2) (S' := S2) am_e186 rfl rfl rfl rfl ?_
  refine w_ri am_e186 rfl rfl (q_mkI ?_)
  show am_ww 291 831 [.ref 1000000, .ref 0, .ref 99, .ref 145, .int x4, .int v1, .int v2] [.int ((I2 99) 3)] E2 I2 J2 S2 _
  refine w_st (i' := 832) (ls' := [.ref 1000000, .ref 0, .ref 99, .ref 145, .int x4, .int v1, .int v2]) (st' := [.int v1, .int ((I2 99) 3)]) (E' := E2) (I' := I2) (J' := J2) (S' := S2) am_e291 rfl rfl rfl rfl ?_
  refine w_if2 am_e291 rfl rfl (fun c => ?_) (fun c => ?_)
  · replace h := h.1 (of_decide_eq_true c)
    refine w_st (i' := 836) (ls' := [.ref 1000000, .ref 0, .ref 99, .ref 145, .int x4, .int v1, .int v2]) (st' := [.int v1]) (E' := E2) (I' := I2) (J' := J2) (S' := S2) am_e291 rfl rfl rfl rfl ?_
    refine w_if1 am_e291 rfl rfl (fun c => ?_) (fun c => ?_)
    · replace h := h.2 (of_decide_eq_true c)
      refine w_st (i' := 1129) (ls' := [.ref 1000000, .ref 0, .ref 99, .ref 145, .int x4, .int v1, .int v2]) (st' := []) (E' := E2) (I' := I2) (J' := J2) (S' := S2) am_e291 rfl rfl rfl rfl ?_
      exact h
    · replace h := h.1 (Decidable.not_not.mp (of_decide_eq_false c))
      refine w_st (i' := 838) (ls' := [.ref 1000000, .ref 0, .ref 99, .ref 145, .int x4, .int v1, .int v2]) (st' := [.ref 145]) (E' := E2) (I' := I2) (J' := J2) (S' := S2) am_e291 rfl rfl rfl rfl ?_
      refine w_st (i' := 839) (ls' := [.ref 1000000, .ref 0, .ref 99, .ref 145, .int x4, .int v1, .int v2]) (st' := [.int (nI 0), .ref 145]) (E' := E2) (I' := I2) (J' := J2) (S' := S2) am_e291 rfl rfl rfl rfl ?_
      refine w_la (k := 145) (n := 1) (jn := 0) am_e291 rfl rfl (by decide) (vp_in_nI (by decide) (by decide)) rfl ?_
      show am_ww 291 840 [.ref 1000000, .ref 0, .ref 99, .ref 145, .int x4, .int v1, .int v2] [.long ((J2 145) 0)] E2 I2 J2 S2 _
      refine w_st (i' := 841) (ls' := [.ref 1000000, .ref 0, .ref 99, .ref 145, .int x4, .int v1, .int v2]) (st' := [.int v2, .long ((J2 145) 0)]) (E' := E2) (I' := I2) (J' := J2) (S' := S2) am_e291 rfl rfl rfl rfl ?_
      refine w_st (i' := 842) (ls' := [.ref 1000000, .ref 0, .ref 99, .ref 145, .int x4, .int v1, .int v2]) (st' := [.long v2.toInt64, .long ((J2 145) 0)]) (E' := E2) (I' := I2) (J' := J2) (S' := S2) am_e291 rfl rfl rfl rfl ?_
      refine w_st (i' := 843) (ls' := [.ref 1000000, .ref 0, .ref 99, .ref 145, .int x4, .int v1, .int v2]) (st' := [.int (lg_cmp ((J2 145) 0) v2.toInt64)]) (E' := E2) (I' := I2) (J' := J2) (S' := S2) am_e291 rfl rfl rfl rfl ?_
      refine w_if1 am_e291 rfl rfl (fun c => ?_) (fun c => ?_)
      · replace h := h.1 (of_decide_eq_true c)
        refine w_st (i' := 1129) (ls' := [.ref 1000000, .ref 0, .ref 99, .ref 145, .int x4, .int v1, .int v2]) (st' := []) (E' := E2) (I' := I2) (J' := J2) (S' := S2) am_e291 rfl rfl rfl rfl ?_
        exact h
      · replace h := h.2 (of_decide_eq_false c)
        refine w_st (i' := 845) (ls' := [.ref 1000000, .ref 0, .ref 99, .ref 145, .int x4, .int v1, .int v2]) (st' := [.int (nI 0)]) (E' := E2) (I' := I2) (J' := J2) (S' := S2) am_e291 rfl rfl rfl rfl ?_
        exact w_end am_e291 rfl rfl rfl h
  · replace h := h.2 (of_decide_eq_false c)
    refine w_st (i' := 834) (ls' := [.ref 1000000, .ref 0, .ref 99, .ref 145, .int x4, .int v1, .int v2]) (st' := [.int (nI 0)]) (E' := E2) (I' := I2) (J' := J2) (S' := S2) am_e291 rfl rfl rfl rfl ?_
    exact w_end am_e291 rfl rfl rfl h
set_option maxRecDepth 12000 in
theorem g291_847 {x4 : Int32} {d5 : Value} {d6 : Value} {E : am_Ev} {I : Nat → Nat → Int32} {J : Nat → Nat → Int64} {S : Nat → Nat → Option Nat} {Q : am_Qt} (hd5 : am_isL d5 = false) (hd6 : am_isL d6 = false) (h : vp_in (x4 + (nI 1)) E.2.2.1 ∧ (am_cl 160 [.ref 0, .int (E.2.2.2 (x4 + (nI 1)).toNatClampNeg), .ref 145] E I J S (q_I fun v1 E1 I1 J1 S1 => vp_in (x4 + (nI 1)) E1.2.2.1 ∧ (am_cl 271 [.ref 99, .int (E1.2.2.2 (x4 + (nI 1)).toNatClampNeg)] E1 I1 J1 S1 (q_I fun v2 E2 I2 J2 S2 => (((I2 99) 3) = v1 → ((v1 = 0 → (((lg_cmp ((J2 145) 0) v2.toInt64) = 0 → (am_ww 291 1129 [.ref 1000000, .ref 0, .ref 99, .ref 145, .int x4, .int v1, .int v2] [] E2 I2 J2 S2 Q)) ∧ (¬ (lg_cmp ((J2 145) 0) v2.toInt64) = 0 → (Q (.inl (some (.int (nI 0)))) E2 I2 J2 S2)))) ∧ (¬ v1 = 0 → (am_ww 291 1129 [.ref 1000000, .ref 0, .ref 99, .ref 145, .int x4, .int v1, .int v2] [] E2 I2 J2 S2 Q)))) ∧ (¬ ((I2 99) 3) = v1 → (Q (.inl (some (.int (nI 0)))) E2 I2 J2 S2))))))) : am_ww 291 847 [.ref 1000000, .ref 0, .ref 99, .ref 145, .int x4, d5, d6] [] E I J S Q := by
  refine w_st (i' := 848) (ls' := [.ref 1000000, .ref 0, .ref 99, .ref 145, .int x4, d5, d6]) (st' := [.ref 0]) (E' := E) (I' := I) (J' := J) (S' := S) am_e291 rfl rfl rfl rfl ?_
  refine w_st (i' := 849) (ls' := [.ref 1000000, .ref 0, .ref 99, .ref 145, .int x4, d5, d6]) (st' := [.ref 1000000, .ref 0]) (E' := E) (I' := I) (J' := J) (S' := S) am_e291 rfl rfl rfl rfl ?_
  refine w_st (i' := 850) (ls' := [.ref 1000000, .ref 0, .ref 99, .ref 145, .int x4, d5, d6]) (st' := [.int x4, .ref 1000000, .ref 0]) (E' := E) (I' := I) (J' := J) (S' := S) am_e291 rfl rfl rfl rfl ?_
  refine w_st (i' := 851) (ls' := [.ref 1000000, .ref 0, .ref 99, .ref 145, .int x4, d5, d6]) (st' := [.int (nI 1), .int x4, .ref 1000000, .ref 0]) (E' := E) (I' := I) (J' := J) (S' := S) am_e291 rfl rfl rfl rfl ?_
  refine w_st (i' := 852) (ls' := [.ref 1000000, .ref 0, .ref 99, .ref 145, .int x4, d5, d6]) (st' := [.int (x4 + (nI 1)), .ref 1000000, .ref 0]) (E' := E) (I' := I) (J' := J) (S' := S) am_e291 rfl rfl rfl rfl ?_
  refine w_sa am_e291 rfl h.1 ?_
  replace h := h.2
  refine w_st (i' := 854) (ls' := [.ref 1000000, .ref 0, .ref 99, .ref 145, .int x4, d5, d6]) (st' := [.ref 145, .int (E.2.2.2 (x4 + (nI 1)).toNatClampNeg), .ref 0]) (E' := E) (I' := I) (J' := J) (S' := S) am_e291 rfl rfl rfl rfl ?_
  refine w_cI am_e291 rfl rfl (as := [.ref 0, .int (E.2.2.2 (x4 + (nI 1)).toNatClampNeg), .ref 145]) (rest := []) rfl rfl (am_ww.mono h ?_)
  rintro _ E1 I1 J1 S1 ⟨v1, rfl, h⟩
  refine q_mkI ?_
  refine w_st (i' := 856) (ls' := [.ref 1000000, .ref 0, .ref 99, .ref 145, .int x4, .int v1, d6]) (st' := []) (E' := E1) (I' := I1) (J' := J1) (S' := S1) am_e291 rfl rfl rfl rfl ?_
  refine w_st (i' := 857) (ls' := [.ref 1000000, .ref 0, .ref 99, .ref 145, .int x4, .int v1, d6]) (st' := [.ref 99]) (E' := E1) (I' := I1) (J' := J1) (S' := S1) am_e291 rfl rfl rfl rfl ?_
  refine w_st (i' := 858) (ls' := [.ref 1000000, .ref 0, .ref 99, .ref 145, .int x4, .int v1, d6]) (st' := [.ref 1000000, .ref 99]) (E' := E1) (I' := I1) (J' := J1) (S' := S1) am_e291 rfl rfl rfl rfl ?_
  refine w_st (i' := 859) (ls' := [.ref 1000000, .ref 0, .ref 99, .ref 145, .int x4, .int v1, d6]) (st' := [.int x4, .ref 1000000, .ref 99]) (E' := E1) (I' := I1) (J' := J1) (S' := S1) am_e291 rfl rfl rfl rfl ?_
  refine w_st (i' := 860) (ls' := [.ref 1000000, .ref 0, .ref 99, .ref 145, .int x4, .int v1, d6]) (st' := [.int (nI 1), .int x4, .ref 1000000, .ref 99]) (E' := E1) (I' := I1) (J' := J1) (S' := S1) am_e291 rfl rfl rfl rfl ?_
  refine w_st (i' := 861) (ls' := [.ref 1000000, .ref 0, .ref 99, .ref 145, .int x4, .int v1, d6]) (st' := [.int (x4 + (nI 1)), .ref 1000000, .ref 99]) (E' := E1) (I' := I1) (J' := J1) (S' := S1) am_e291 rfl rfl rfl rfl ?_
  refine w_sa am_e291 rfl h.1 ?_
  replace h := h.2
  refine w_cI am_e291 rfl rfl (as := [.ref 99, .int (E1.2.2.2 (x4 + (nI 1)).toNatClampNeg)]) (rest := []) rfl rfl (am_ww.mono h ?_)
  rintro _ E2 I2 J2 S2 ⟨v2, rfl, h⟩
  refine q_mkI ?_
  refine w_st (i' := 864) (ls' := [.ref 1000000, .ref 0, .ref 99, .ref 145, .int x4, .int v1, .int v2]) (st' := []) (E' := E2) (I' := I2) (J' := J2) (S' := S2) am_e291 rfl rfl rfl rfl ?_
  refine w_st (i' := 865) (ls' := [.ref 1000000, .ref 0, .ref 99, .ref 145, .int x4, .int v1, .int v2]) (st' := [.ref 99]) (E' := E2) (I' := I2) (J' := J2) (S' := S2) am_e291 rfl rfl rfl rfl ?_
  refine w_cI am_e291 rfl rfl (as := [.ref 99]) (rest := []) rfl rfl ?_
  show am_ww 186 0 [.ref 99] [] E2 I2 J2 S2 _
  refine w_st (i' := 1) (ls' := [.ref 99]) (st' := [.ref 99]) (E' := E2) (I' := I2) (J' := J2) (S' := S2) am_e186 rfl rfl rfl rfl ?_
  refine w_st (i' := 2) (ls' := [.ref 99]) (st' := [.int ((I2 99) 3)]) (E' := E2) (I' := I2) (J' := J2) (S' := S2) am_e186 rfl rfl rfl rfl ?_
  refine w_ri am_e186 rfl rfl (q_mkI ?_)
  show am_ww 291 866 [.ref 1000000, .ref 0, .ref 99, .ref 145, .int x4, .int v1, .int v2] [.int ((I2 99) 3)] E2 I2 J2 S2 _
  refine w_st (i' := 867) (ls' := [.ref 1000000, .ref 0, .ref 99, .ref 145, .int x4, .int v1, .int v2]) (st' := [.int v1, .int ((I2 99) 3)]) (E' := E2) (I' := I2) (J' := J2) (S' := S2) am_e291 rfl rfl rfl rfl ?_
  refine w_if2 am_e291 rfl rfl (fun c => ?_) (fun c => ?_)
  · replace h := h.1 (of_decide_eq_true c)
    refine w_st (i' := 871) (ls' := [.ref 1000000, .ref 0, .ref 99, .ref 145, .int x4, .int v1, .int v2]) (st' := [.int v1]) (E' := E2) (I' := I2) (J' := J2) (S' := S2) am_e291 rfl rfl rfl rfl ?_
    refine w_if1 am_e291 rfl rfl (fun c => ?_) (fun c => ?_)
    · replace h := h.2 (of_decide_eq_true c)
      refine w_st (i' := 1129) (ls' := [.ref 1000000, .ref 0, .ref 99, .ref 145, .int x4, .int v1, .int v2]) (st' := []) (E' := E2) (I' := I2) (J' := J2) (S' := S2) am_e291 rfl rfl rfl rfl ?_
      exact h
    · replace h := h.1 (Decidable.not_not.mp (of_decide_eq_false c))
      refine w_st (i' := 873) (ls' := [.ref 1000000, .ref 0, .ref 99, .ref 145, .int x4, .int v1, .int v2]) (st' := [.ref 145]) (E' := E2) (I' := I2) (J' := J2) (S' := S2) am_e291 rfl rfl rfl rfl ?_
      refine w_st (i' := 874) (ls' := [.ref 1000000, .ref 0, .ref 99, .ref 145, .int x4, .int v1, .int v2]) (st' := [.int (nI 0), .ref 145]) (E' := E2) (I' := I2) (J' := J2) (S' := S2) am_e291 rfl rfl rfl rfl ?_
      refine w_la (k := 145) (n := 1) (jn := 0) am_e291 rfl rfl (by decide) (vp_in_nI (by decide) (by decide)) rfl ?_
      show am_ww 291 875 [.ref 1000000, .ref 0, .ref 99, .ref 145, .int x4, .int v1, .int v2] [.long ((J2 145) 0)] E2 I2 J2 S2 _
      refine w_st (i' := 876) (ls' := [.ref 1000000, .ref 0, .ref 99, .ref 145, .int x4, .int v1, .int v2]) (st' := [.int v2, .long ((J2 145) 0)]) (E' := E2) (I' := I2) (J' := J2) (S' := S2) am_e291 rfl rfl rfl rfl ?_
      refine w_st (i' := 877) (ls' := [.ref 1000000, .ref 0, .ref 99, .ref 145, .int x4, .int v1, .int v2]) (st' := [.long v2.toInt64, .long ((J2 145) 0)]) (E' := E2) (I' := I2) (J' := J2) (S' := S2) am_e291 rfl rfl rfl rfl ?_
      refine w_st (i' := 878) (ls' := [.ref 1000000, .ref 0, .ref 99, .ref 145, .int x4, .int v1, .int v2]) (st' := [.int (lg_cmp ((J2 145) 0) v2.toInt64)]) (E' := E2) (I' := I2) (J' := J2) (S' := S2) am_e291 rfl rfl rfl rfl ?_
      refine w_if1 am_e291 rfl rfl (fun c => ?_) (fun c => ?_)
      · replace h := h.1 (of_decide_eq_true c)
        refine w_st (i' := 1129) (ls' := [.ref 1000000, .ref 0, .ref 99, .ref 145, .int x4, .int v1, .int v2]) (st' := []) (E' := E2) (I' := I2) (J' := J2) (S' := S2) am_e291 rfl rfl rfl rfl ?_
        exact h
      · replace h := h.2 (of_decide_eq_false c)
        refine w_st (i' := 880) (ls' := [.ref 1000000, .ref 0, .ref 99, .ref 145, .int x4, .int v1, .int v2]) (st' := [.int (nI 0)]) (E' := E2) (I' := I2) (J' := J2) (S' := S2) am_e291 rfl rfl rfl rfl ?_
        exact w_end am_e291 rfl rfl rfl h
  · replace h := h.2 (of_decide_eq_false c)
    refine w_st (i' := 869) (ls' := [.ref 1000000, .ref 0, .ref 99, .ref 145, .int x4, .int v1, .int v2]) (st' := [.int (nI 0)]) (E' := E2) (I' := I2) (J' := J2) (S' := S2) am_e291 rfl rfl rfl rfl ?_
    exact w_end am_e291 rfl rfl rfl h
set_option maxRecDepth 12000 in
theorem g291_882 {x4 : Int32} {d5 : Value} {d6 : Value} {E : am_Ev} {I : Nat → Nat → Int32} {J : Nat → Nat → Int64} {S : Nat → Nat → Option Nat} {Q : am_Qt} (hd5 : am_isL d5 = false) (hd6 : am_isL d6 = false) (h : vp_in (x4 + (nI 1)) E.2.2.1 ∧ (vp_in (x4 + (nI 2)) E.2.2.1 ∧ (am_cl 163 [.ref 0, .int (E.2.2.2 (x4 + (nI 1)).toNatClampNeg), .int (E.2.2.2 (x4 + (nI 2)).toNatClampNeg), .ref 145] E I J S (q_I fun v1 E1 I1 J1 S1 => vp_in (x4 + (nI 1)) E1.2.2.1 ∧ (vp_in (x4 + (nI 2)) E1.2.2.1 ∧ (am_cl 272 [.ref 99, .int (E1.2.2.2 (x4 + (nI 1)).toNatClampNeg), .int (E1.2.2.2 (x4 + (nI 2)).toNatClampNeg)] E1 I1 J1 S1 (q_I fun v2 E2 I2 J2 S2 => (((I2 99) 3) = v1 → ((v1 = 0 → (((lg_cmp ((J2 145) 0) v2.toInt64) = 0 → (am_ww 291 1129 [.ref 1000000, .ref 0, .ref 99, .ref 145, .int x4, .int v1, .int v2] [] E2 I2 J2 S2 Q)) ∧ (¬ (lg_cmp ((J2 145) 0) v2.toInt64) = 0 → (Q (.inl (some (.int (nI 0)))) E2 I2 J2 S2)))) ∧ (¬ v1 = 0 → (am_ww 291 1129 [.ref 1000000, .ref 0, .ref 99, .ref 145, .int x4, .int v1, .int v2] [] E2 I2 J2 S2 Q)))) ∧ (¬ ((I2 99) 3) = v1 → (Q (.inl (some (.int (nI 0)))) E2 I2 J2 S2))))))))) : am_ww 291 882 [.ref 1000000, .ref 0, .ref 99, .ref 145, .int x4, d5, d6] [] E I J S Q := by
  refine w_st (i' := 883) (ls' := [.ref 1000000, .ref 0, .ref 99, .ref 145, .int x4, d5, d6]) (st' := [.ref 0]) (E' := E) (I' := I) (J' := J) (S' := S) am_e291 rfl rfl rfl rfl ?_
  refine w_st (i' := 884) (ls' := [.ref 1000000, .ref 0, .ref 99, .ref 145, .int x4, d5, d6]) (st' := [.ref 1000000, .ref 0]) (E' := E) (I' := I) (J' := J) (S' := S) am_e291 rfl rfl rfl rfl ?_
  refine w_st (i' := 885) (ls' := [.ref 1000000, .ref 0, .ref 99, .ref 145, .int x4, d5, d6]) (st' := [.int x4, .ref 1000000, .ref 0]) (E' := E) (I' := I) (J' := J) (S' := S) am_e291 rfl rfl rfl rfl ?_
  refine w_st (i' := 886) (ls' := [.ref 1000000, .ref 0, .ref 99, .ref 145, .int x4, d5, d6]) (st' := [.int (nI 1), .int x4, .ref 1000000, .ref 0]) (E' := E) (I' := I) (J' := J) (S' := S) am_e291 rfl rfl rfl rfl ?_
  refine w_st (i' := 887) (ls' := [.ref 1000000, .ref 0, .ref 99, .ref 145, .int x4, d5, d6]) (st' := [.int (x4 + (nI 1)), .ref 1000000, .ref 0]) (E' := E) (I' := I) (J' := J) (S' := S) am_e291 rfl rfl rfl rfl ?_
  refine w_sa am_e291 rfl h.1 ?_
  replace h := h.2
  refine w_st (i' := 889) (ls' := [.ref 1000000, .ref 0, .ref 99, .ref 145, .int x4, d5, d6]) (st' := [.ref 1000000, .int (E.2.2.2 (x4 + (nI 1)).toNatClampNeg), .ref 0]) (E' := E) (I' := I) (J' := J) (S' := S) am_e291 rfl rfl rfl rfl ?_
  refine w_st (i' := 890) (ls' := [.ref 1000000, .ref 0, .ref 99, .ref 145, .int x4, d5, d6]) (st' := [.int x4, .ref 1000000, .int (E.2.2.2 (x4 + (nI 1)).toNatClampNeg), .ref 0]) (E' := E) (I' := I) (J' := J) (S' := S) am_e291 rfl rfl rfl rfl ?_
  refine w_st (i' := 891) (ls' := [.ref 1000000, .ref 0, .ref 99, .ref 145, .int x4, d5, d6]) (st' := [.int (nI 2), .int x4, .ref 1000000, .int (E.2.2.2 (x4 + (nI 1)).toNatClampNeg), .ref 0]) (E' := E) (I' := I) (J' := J) (S' := S) am_e291 rfl rfl rfl rfl ?_
  refine w_st (i' := 892) (ls' := [.ref 1000000, .ref 0, .ref 99, .ref 145, .int x4, d5, d6]) (st' := [.int (x4 + (nI 2)), .ref 1000000, .int (E.2.2.2 (x4 + (nI 1)).toNatClampNeg), .ref 0]) (E' := E) (I' := I) (J' := J) (S' := S) am_e291 rfl rfl rfl rfl ?_
  refine w_sa am_e291 rfl h.1 ?_
  replace h := h.2
  refine w_st (i' := 894) (ls' := [.ref 1000000, .ref 0, .ref 99, .ref 145, .int x4, d5, d6]) (st' := [.ref 145, .int (E.2.2.2 (x4 + (nI 2)).toNatClampNeg), .int (E.2.2.2 (x4 + (nI 1)).toNatClampNeg), .ref 0]) (E' := E) (I' := I) (J' := J) (S' := S) am_e291 rfl rfl rfl rfl ?_
  refine w_cI am_e291 rfl rfl (as := [.ref 0, .int (E.2.2.2 (x4 + (nI 1)).toNatClampNeg), .int (E.2.2.2 (x4 + (nI 2)).toNatClampNeg), .ref 145]) (rest := []) rfl rfl (am_ww.mono h ?_)
  rintro _ E1 I1 J1 S1 ⟨v1, rfl, h⟩
  refine q_mkI ?_
  refine w_st (i' := 896) (ls' := [.ref 1000000, .ref 0, .ref 99, .ref 145, .int x4, .int v1, d6]) (st' := []) (E' := E1) (I' := I1) (J' := J1) (S' := S1) am_e291 rfl rfl rfl rfl ?_
  refine w_st (i' := 897) (ls' := [.ref 1000000, .ref 0, .ref 99, .ref 145, .int x4, .int v1, d6]) (st' := [.ref 99]) (E' := E1) (I' := I1) (J' := J1) (S' := S1) am_e291 rfl rfl rfl rfl ?_
  refine w_st (i' := 898) (ls' := [.ref 1000000, .ref 0, .ref 99, .ref 145, .int x4, .int v1, d6]) (st' := [.ref 1000000, .ref 99]) (E' := E1) (I' := I1) (J' := J1) (S' := S1) am_e291 rfl rfl rfl rfl ?_
  refine w_st (i' := 899) (ls' := [.ref 1000000, .ref 0, .ref 99, .ref 145, .int x4, .int v1, d6]) (st' := [.int x4, .ref 1000000, .ref 99]) (E' := E1) (I' := I1) (J' := J1) (S' := S1) am_e291 rfl rfl rfl rfl ?_
  refine w_st (i' := 900) (ls' := [.ref 1000000, .ref 0, .ref 99, .ref 145, .int x4, .int v1, d6]) (st' := [.int (nI 1), .int x4, .ref 1000000, .ref 99]) (E' := E1) (I' := I1) (J' := J1) (S' := S1) am_e291 rfl rfl rfl rfl ?_
  refine w_st (i' := 901) (ls' := [.ref 1000000, .ref 0, .ref 99, .ref 145, .int x4, .int v1, d6]) (st' := [.int (x4 + (nI 1)), .ref 1000000, .ref 99]) (E' := E1) (I' := I1) (J' := J1) (S' := S1) am_e291 rfl rfl rfl rfl ?_
  refine w_sa am_e291 rfl h.1 ?_
  replace h := h.2
  refine w_st (i' := 903) (ls' := [.ref 1000000, .ref 0, .ref 99, .ref 145, .int x4, .int v1, d6]) (st' := [.ref 1000000, .int (E1.2.2.2 (x4 + (nI 1)).toNatClampNeg), .ref 99]) (E' := E1) (I' := I1) (J' := J1) (S' := S1) am_e291 rfl rfl rfl rfl ?_
  refine w_st (i' := 904) (ls' := [.ref 1000000, .ref 0, .ref 99, .ref 145, .int x4, .int v1, d6]) (st' := [.int x4, .ref 1000000, .int (E1.2.2.2 (x4 + (nI 1)).toNatClampNeg), .ref 99]) (E' := E1) (I' := I1) (J' := J1) (S' := S1) am_e291 rfl rfl rfl rfl ?_
  refine w_st (i' := 905) (ls' := [.ref 1000000, .ref 0, .ref 99, .ref 145, .int x4, .int v1, d6]) (st' := [.int (nI 2), .int x4, .ref 1000000, .int (E1.2.2.2 (x4 + (nI 1)).toNatClampNeg), .ref 99]) (E' := E1) (I' := I1) (J' := J1) (S' := S1) am_e291 rfl rfl rfl rfl ?_
  refine w_st (i' := 906) (ls' := [.ref 1000000, .ref 0, .ref 99, .ref 145, .int x4, .int v1, d6]) (st' := [.int (x4 + (nI 2)), .ref 1000000, .int (E1.2.2.2 (x4 + (nI 1)).toNatClampNeg), .ref 99]) (E' := E1) (I' := I1) (J' := J1) (S' := S1) am_e291 rfl rfl rfl rfl ?_
  refine w_sa am_e291 rfl h.1 ?_
  replace h := h.2
  refine w_cI am_e291 rfl rfl (as := [.ref 99, .int (E1.2.2.2 (x4 + (nI 1)).toNatClampNeg), .int (E1.2.2.2 (x4 + (nI 2)).toNatClampNeg)]) (rest := []) rfl rfl (am_ww.mono h ?_)
  rintro _ E2 I2 J2 S2 ⟨v2, rfl, h⟩
  refine q_mkI ?_
  refine w_st (i' := 909) (ls' := [.ref 1000000, .ref 0, .ref 99, .ref 145, .int x4, .int v1, .int v2]) (st' := []) (E' := E2) (I' := I2) (J' := J2) (S' := S2) am_e291 rfl rfl rfl rfl ?_
  refine w_st (i' := 910) (ls' := [.ref 1000000, .ref 0, .ref 99, .ref 145, .int x4, .int v1, .int v2]) (st' := [.ref 99]) (E' := E2) (I' := I2) (J' := J2) (S' := S2) am_e291 rfl rfl rfl rfl ?_
  refine w_cI am_e291 rfl rfl (as := [.ref 99]) (rest := []) rfl rfl ?_
  show am_ww 186 0 [.ref 99] [] E2 I2 J2 S2 _
  refine w_st (i' := 1) (ls' := [.ref 99]) (st' := [.ref 99]) (E' := E2) (I' := I2) (J' := J2) (S' := S2) am_e186 rfl rfl rfl rfl ?_
  refine w_st (i' := 2) (ls' := [.ref 99]) (st' := [.int ((I2 99) 3)]) (E' := E2) (I' := I2) (J' := J2) (S' := S2) am_e186 rfl rfl rfl rfl ?_
  refine w_ri am_e186 rfl rfl (q_mkI ?_)
  show am_ww 291 911 [.ref 1000000, .ref 0, .ref 99, .ref 145, .int x4, .int v1, .int v2] [.int ((I2 99) 3)] E2 I2 J2 S2 _
  refine w_st (i' := 912) (ls' := [.ref 1000000, .ref 0, .ref 99, .ref 145, .int x4, .int v1, .int v2]) (st' := [.int v1, .int ((I2 99) 3)]) (E' := E2) (I' := I2) (J' := J2) (S' := S2) am_e291 rfl rfl rfl rfl ?_
  refine w_if2 am_e291 rfl rfl (fun c => ?_) (fun c => ?_)
  · replace h := h.1 (of_decide_eq_true c)
    refine w_st (i' := 916) (ls' := [.ref 1000000, .ref 0, .ref 99, .ref 145, .int x4, .int v1, .int v2]) (st' := [.int v1]) (E' := E2) (I' := I2) (J' := J2) (S' := S2) am_e291 rfl rfl rfl rfl ?_
    refine w_if1 am_e291 rfl rfl (fun c => ?_) (fun c => ?_)
    · replace h := h.2 (of_decide_eq_true c)
      refine w_st (i' := 1129) (ls' := [.ref 1000000, .ref 0, .ref 99, .ref 145, .int x4, .int v1, .int v2]) (st' := []) (E' := E2) (I' := I2) (J' := J2) (S' := S2) am_e291 rfl rfl rfl rfl ?_
      exact h
    · replace h := h.1 (Decidable.not_not.mp (of_decide_eq_false c))
      refine w_st (i' := 918) (ls' := [.ref 1000000, .ref 0, .ref 99, .ref 145, .int x4, .int v1, .int v2]) (st' := [.ref 145]) (E' := E2) (I' := I2) (J' := J2) (S' := S2) am_e291 rfl rfl rfl rfl ?_
      refine w_st (i' := 919) (ls' := [.ref 1000000, .ref 0, .ref 99, .ref 145, .int x4, .int v1, .int v2]) (st' := [.int (nI 0), .ref 145]) (E' := E2) (I' := I2) (J' := J2) (S' := S2) am_e291 rfl rfl rfl rfl ?_
      refine w_la (k := 145) (n := 1) (jn := 0) am_e291 rfl rfl (by decide) (vp_in_nI (by decide) (by decide)) rfl ?_
      show am_ww 291 920 [.ref 1000000, .ref 0, .ref 99, .ref 145, .int x4, .int v1, .int v2] [.long ((J2 145) 0)] E2 I2 J2 S2 _
      refine w_st (i' := 921) (ls' := [.ref 1000000, .ref 0, .ref 99, .ref 145, .int x4, .int v1, .int v2]) (st' := [.int v2, .long ((J2 145) 0)]) (E' := E2) (I' := I2) (J' := J2) (S' := S2) am_e291 rfl rfl rfl rfl ?_
      refine w_st (i' := 922) (ls' := [.ref 1000000, .ref 0, .ref 99, .ref 145, .int x4, .int v1, .int v2]) (st' := [.long v2.toInt64, .long ((J2 145) 0)]) (E' := E2) (I' := I2) (J' := J2) (S' := S2) am_e291 rfl rfl rfl rfl ?_
      refine w_st (i' := 923) (ls' := [.ref 1000000, .ref 0, .ref 99, .ref 145, .int x4, .int v1, .int v2]) (st' := [.int (lg_cmp ((J2 145) 0) v2.toInt64)]) (E' := E2) (I' := I2) (J' := J2) (S' := S2) am_e291 rfl rfl rfl rfl ?_
      refine w_if1 am_e291 rfl rfl (fun c => ?_) (fun c => ?_)
      · replace h := h.1 (of_decide_eq_true c)
        refine w_st (i' := 1129) (ls' := [.ref 1000000, .ref 0, .ref 99, .ref 145, .int x4, .int v1, .int v2]) (st' := []) (E' := E2) (I' := I2) (J' := J2) (S' := S2) am_e291 rfl rfl rfl rfl ?_
        exact h
      · replace h := h.2 (of_decide_eq_false c)
        refine w_st (i' := 925) (ls' := [.ref 1000000, .ref 0, .ref 99, .ref 145, .int x4, .int v1, .int v2]) (st' := [.int (nI 0)]) (E' := E2) (I' := I2) (J' := J2) (S' := S2) am_e291 rfl rfl rfl rfl ?_
        exact w_end am_e291 rfl rfl rfl h
  · replace h := h.2 (of_decide_eq_false c)
    refine w_st (i' := 914) (ls' := [.ref 1000000, .ref 0, .ref 99, .ref 145, .int x4, .int v1, .int v2]) (st' := [.int (nI 0)]) (E' := E2) (I' := I2) (J' := J2) (S' := S2) am_e291 rfl rfl rfl rfl ?_
    exact w_end am_e291 rfl rfl rfl h
set_option maxRecDepth 12000 in
theorem g291_927 {x4 : Int32} {d5 : Value} {d6 : Value} {E : am_Ev} {I : Nat → Nat → Int32} {J : Nat → Nat → Int64} {S : Nat → Nat → Option Nat} {Q : am_Qt} (hd5 : am_isL d5 = false) (hd6 : am_isL d6 = false) (h : vp_in (x4 + (nI 1)) E.2.2.1 ∧ (vp_in (x4 + (nI 2)) E.2.2.1 ∧ (vp_in (x4 + (nI 3)) E.2.2.1 ∧ (vp_in (x4 + (nI 4)) E.2.2.1 ∧ (am_cl 166 [.ref 0, .int (E.2.2.2 (x4 + (nI 1)).toNatClampNeg), .int (E.2.2.2 (x4 + (nI 2)).toNatClampNeg), .int (E.2.2.2 (x4 + (nI 3)).toNatClampNeg), .int (E.2.2.2 (x4 + (nI 4)).toNatClampNeg), .ref 145] E I J S (q_I fun v1 E1 I1 J1 S1 => vp_in (x4 + (nI 1)) E1.2.2.1 ∧ (vp_in (x4 + (nI 2)) E1.2.2.1 ∧ (vp_in (x4 + (nI 3)) E1.2.2.1 ∧ (vp_in (x4 + (nI 4)) E1.2.2.1 ∧ (am_cl 274 [.ref 99, .int (E1.2.2.2 (x4 + (nI 1)).toNatClampNeg), .int (E1.2.2.2 (x4 + (nI 2)).toNatClampNeg), .int (E1.2.2.2 (x4 + (nI 3)).toNatClampNeg), .int (E1.2.2.2 (x4 + (nI 4)).toNatClampNeg)] E1 I1 J1 S1 (q_I fun v2 E2 I2 J2 S2 => (((I2 99) 3) = v1 → ((v1 = 0 → (((lg_cmp ((J2 145) 0) v2.toInt64) = 0 → (am_ww 291 1129 [.ref 1000000, .ref 0, .ref 99, .ref 145, .int x4, .int v1, .int v2] [] E2 I2 J2 S2 Q)) ∧ (¬ (lg_cmp ((J2 145) 0) v2.toInt64) = 0 → (Q (.inl (some (.int (nI 0)))) E2 I2 J2 S2)))) ∧ (¬ v1 = 0 → (am_ww 291 1129 [.ref 1000000, .ref 0, .ref 99, .ref 145, .int x4, .int v1, .int v2] [] E2 I2 J2 S2 Q)))) ∧ (¬ ((I2 99) 3) = v1 → (Q (.inl (some (.int (nI 0)))) E2 I2 J2 S2))))))))))))) : am_ww 291 927 [.ref 1000000, .ref 0, .ref 99, .ref 145, .int x4, d5, d6] [] E I J S Q := by
  refine w_st (i' := 928) (ls' := [.ref 1000000, .ref 0, .ref 99, .ref 145, .int x4, d5, d6]) (st' := [.ref 0]) (E' := E) (I' := I) (J' := J) (S' := S) am_e291 rfl rfl rfl rfl ?_
  refine w_st (i' := 929) (ls' := [.ref 1000000, .ref 0, .ref 99, .ref 145, .int x4, d5, d6]) (st' := [.ref 1000000, .ref 0]) (E' := E) (I' := I) (J' := J) (S' := S) am_e291 rfl rfl rfl rfl ?_
  refine w_st (i' := 930) (ls' := [.ref 1000000, .ref 0, .ref 99, .ref 145, .int x4, d5, d6]) (st' := [.int x4, .ref 1000000, .ref 0]) (E' := E) (I' := I) (J' := J) (S' := S) am_e291 rfl rfl rfl rfl ?_
  refine w_st (i' := 931) (ls' := [.ref 1000000, .ref 0, .ref 99, .ref 145, .int x4, d5, d6]) (st' := [.int (nI 1), .int x4, .ref 1000000, .ref 0]) (E' := E) (I' := I) (J' := J) (S' := S) am_e291 rfl rfl rfl rfl ?_
  refine w_st (i' := 932) (ls' := [.ref 1000000, .ref 0, .ref 99, .ref 145, .int x4, d5, d6]) (st' := [.int (x4 + (nI 1)), .ref 1000000, .ref 0]) (E' := E) (I' := I) (J' := J) (S' := S) am_e291 rfl rfl rfl rfl ?_
  refine w_sa am_e291 rfl h.1 ?_
  replace h := h.2
  refine w_st (i' := 934) (ls' := [.ref 1000000, .ref 0, .ref 99, .ref 145, .int x4, d5, d6]) (st' := [.ref 1000000, .int (E.2.2.2 (x4 + (nI 1)).toNatClampNeg), .ref 0]) (E' := E) (I' := I) (J' := J) (S' := S) am_e291 rfl rfl rfl rfl ?_
  refine w_st (i' := 935) (ls' := [.ref 1000000, .ref 0, .ref 99, .ref 145, .int x4, d5, d6]) (st' := [.int x4, .ref 1000000, .int (E.2.2.2 (x4 + (nI 1)).toNatClampNeg), .ref 0]) (E' := E) (I' := I) (J' := J) (S' := S) am_e291 rfl rfl rfl rfl ?_
  refine w_st (i' := 936) (ls' := [.ref 1000000, .ref 0, .ref 99, .ref 145, .int x4, d5, d6]) (st' := [.int (nI 2), .int x4, .ref 1000000, .int (E.2.2.2 (x4 + (nI 1)).toNatClampNeg), .ref 0]) (E' := E) (I' := I) (J' := J) (S' := S) am_e291 rfl rfl rfl rfl ?_
  refine w_st (i' := 937) (ls' := [.ref 1000000, .ref 0, .ref 99, .ref 145, .int x4, d5, d6]) (st' := [.int (x4 + (nI 2)), .ref 1000000, .int (E.2.2.2 (x4 + (nI 1)).toNatClampNeg), .ref 0]) (E' := E) (I' := I) (J' := J) (S' := S) am_e291 rfl rfl rfl rfl ?_
  refine w_sa am_e291 rfl h.1 ?_
  replace h := h.2
  refine w_st (i' := 939) (ls' := [.ref 1000000, .ref 0, .ref 99, .ref 145, .int x4, d5, d6]) (st' := [.ref 1000000, .int (E.2.2.2 (x4 + (nI 2)).toNatClampNeg), .int (E.2.2.2 (x4 + (nI 1)).toNatClampNeg), .ref 0]) (E' := E) (I' := I) (J' := J) (S' := S) am_e291 rfl rfl rfl rfl ?_
  refine w_st (i' := 940) (ls' := [.ref 1000000, .ref 0, .ref 99, .ref 145, .int x4, d5, d6]) (st' := [.int x4, .ref 1000000, .int (E.2.2.2 (x4 + (nI 2)).toNatClampNeg), .int (E.2.2.2 (x4 + (nI 1)).toNatClampNeg), .ref 0]) (E' := E) (I' := I) (J' := J) (S' := S) am_e291 rfl rfl rfl rfl ?_
  refine w_st (i' := 941) (ls' := [.ref 1000000, .ref 0, .ref 99, .ref 145, .int x4, d5, d6]) (st' := [.int (nI 3), .int x4, .ref 1000000, .int (E.2.2.2 (x4 + (nI 2)).toNatClampNeg), .int (E.2.2.2 (x4 + (nI 1)).toNatClampNeg), .ref 0]) (E' := E) (I' := I) (J' := J) (S' := S) am_e291 rfl rfl rfl rfl ?_
  refine w_st (i' := 942) (ls' := [.ref 1000000, .ref 0, .ref 99, .ref 145, .int x4, d5, d6]) (st' := [.int (x4 + (nI 3)), .ref 1000000, .int (E.2.2.2 (x4 + (nI 2)).toNatClampNeg), .int (E.2.2.2 (x4 + (nI 1)).toNatClampNeg), .ref 0]) (E' := E) (I' := I) (J' := J) (S' := S) am_e291 rfl rfl rfl rfl ?_
  refine w_sa am_e291 rfl h.1 ?_
  replace h := h.2
  refine w_st (i' := 944) (ls' := [.ref 1000000, .ref 0, .ref 99, .ref 145, .int x4, d5, d6]) (st' := [.ref 1000000, .int (E.2.2.2 (x4 + (nI 3)).toNatClampNeg), .int (E.2.2.2 (x4 + (nI 2)).toNatClampNeg), .int (E.2.2.2 (x4 + (nI 1)).toNatClampNeg), .ref 0]) (E' := E) (I' := I) (J' := J) (S' := S) am_e291 rfl rfl rfl rfl ?_
  refine w_st (i' := 945) (ls' := [.ref 1000000, .ref 0, .ref 99, .ref 145, .int x4, d5, d6]) (st' := [.int x4, .ref 1000000, .int (E.2.2.2 (x4 + (nI 3)).toNatClampNeg), .int (E.2.2.2 (x4 + (nI 2)).toNatClampNeg), .int (E.2.2.2 (x4 + (nI 1)).toNatClampNeg), .ref 0]) (E' := E) (I' := I) (J' := J) (S' := S) am_e291 rfl rfl rfl rfl ?_
  refine w_st (i' := 946) (ls' := [.ref 1000000, .ref 0, .ref 99, .ref 145, .int x4, d5, d6]) (st' := [.int (nI 4), .int x4, .ref 1000000, .int (E.2.2.2 (x4 + (nI 3)).toNatClampNeg), .int (E.2.2.2 (x4 + (nI 2)).toNatClampNeg), .int (E.2.2.2 (x4 + (nI 1)).toNatClampNeg), .ref 0]) (E' := E) (I' := I) (J' := J) (S' := S) am_e291 rfl rfl rfl rfl ?_
  refine w_st (i' := 947) (ls' := [.ref 1000000, .ref 0, .ref 99, .ref 145, .int x4, d5, d6]) (st' := [.int (x4 + (nI 4)), .ref 1000000, .int (E.2.2.2 (x4 + (nI 3)).toNatClampNeg), .int (E.2.2.2 (x4 + (nI 2)).toNatClampNeg), .int (E.2.2.2 (x4 + (nI 1)).toNatClampNeg), .ref 0]) (E' := E) (I' := I) (J' := J) (S' := S) am_e291 rfl rfl rfl rfl ?_
  refine w_sa am_e291 rfl h.1 ?_
  replace h := h.2
  refine w_st (i' := 949) (ls' := [.ref 1000000, .ref 0, .ref 99, .ref 145, .int x4, d5, d6]) (st' := [.ref 145, .int (E.2.2.2 (x4 + (nI 4)).toNatClampNeg), .int (E.2.2.2 (x4 + (nI 3)).toNatClampNeg), .int (E.2.2.2 (x4 + (nI 2)).toNatClampNeg), .int (E.2.2.2 (x4 + (nI 1)).toNatClampNeg), .ref 0]) (E' := E) (I' := I) (J' := J) (S' := S) am_e291 rfl rfl rfl rfl ?_
  refine w_cI am_e291 rfl rfl (as := [.ref 0, .int (E.2.2.2 (x4 + (nI 1)).toNatClampNeg), .int (E.2.2.2 (x4 + (nI 2)).toNatClampNeg), .int (E.2.2.2 (x4 + (nI 3)).toNatClampNeg), .int (E.2.2.2 (x4 + (nI 4)).toNatClampNeg), .ref 145]) (rest := []) rfl rfl (am_ww.mono h ?_)
  rintro _ E1 I1 J1 S1 ⟨v1, rfl, h⟩
  refine q_mkI ?_
  refine w_st (i' := 951) (ls' := [.ref 1000000, .ref 0, .ref 99, .ref 145, .int x4, .int v1, d6]) (st' := []) (E' := E1) (I' := I1) (J' := J1) (S' := S1) am_e291 rfl rfl rfl rfl ?_
  refine w_st (i' := 952) (ls' := [.ref 1000000, .ref 0, .ref 99, .ref 145, .int x4, .int v1, d6]) (st' := [.ref 99]) (E' := E1) (I' := I1) (J' := J1) (S' := S1) am_e291 rfl rfl rfl rfl ?_
  refine w_st (i' := 953) (ls' := [.ref 1000000, .ref 0, .ref 99, .ref 145, .int x4, .int v1, d6]) (st' := [.ref 1000000, .ref 99]) (E' := E1) (I' := I1) (J' := J1) (S' := S1) am_e291 rfl rfl rfl rfl ?_
  refine w_st (i' := 954) (ls' := [.ref 1000000, .ref 0, .ref 99, .ref 145, .int x4, .int v1, d6]) (st' := [.int x4, .ref 1000000, .ref 99]) (E' := E1) (I' := I1) (J' := J1) (S' := S1) am_e291 rfl rfl rfl rfl ?_
  refine w_st (i' := 955) (ls' := [.ref 1000000, .ref 0, .ref 99, .ref 145, .int x4, .int v1, d6]) (st' := [.int (nI 1), .int x4, .ref 1000000, .ref 99]) (E' := E1) (I' := I1) (J' := J1) (S' := S1) am_e291 rfl rfl rfl rfl ?_
  refine w_st (i' := 956) (ls' := [.ref 1000000, .ref 0, .ref 99, .ref 145, .int x4, .int v1, d6]) (st' := [.int (x4 + (nI 1)), .ref 1000000, .ref 99]) (E' := E1) (I' := I1) (J' := J1) (S' := S1) am_e291 rfl rfl rfl rfl ?_
  refine w_sa am_e291 rfl h.1 ?_
  replace h := h.2
  refine w_st (i' := 958) (ls' := [.ref 1000000, .ref 0, .ref 99, .ref 145, .int x4, .int v1, d6]) (st' := [.ref 1000000, .int (E1.2.2.2 (x4 + (nI 1)).toNatClampNeg), .ref 99]) (E' := E1) (I' := I1) (J' := J1) (S' := S1) am_e291 rfl rfl rfl rfl ?_
  refine w_st (i' := 959) (ls' := [.ref 1000000, .ref 0, .ref 99, .ref 145, .int x4, .int v1, d6]) (st' := [.int x4, .ref 1000000, .int (E1.2.2.2 (x4 + (nI 1)).toNatClampNeg), .ref 99]) (E' := E1) (I' := I1) (J' := J1) (S' := S1) am_e291 rfl rfl rfl rfl ?_
  refine w_st (i' := 960) (ls' := [.ref 1000000, .ref 0, .ref 99, .ref 145, .int x4, .int v1, d6]) (st' := [.int (nI 2), .int x4, .ref 1000000, .int (E1.2.2.2 (x4 + (nI 1)).toNatClampNeg), .ref 99]) (E' := E1) (I' := I1) (J' := J1) (S' := S1) am_e291 rfl rfl rfl rfl ?_
  refine w_st (i' := 961) (ls' := [.ref 1000000, .ref 0, .ref 99, .ref 145, .int x4, .int v1, d6]) (st' := [.int (x4 + (nI 2)), .ref 1000000, .int (E1.2.2.2 (x4 + (nI 1)).toNatClampNeg), .ref 99]) (E' := E1) (I' := I1) (J' := J1) (S' := S1) am_e291 rfl rfl rfl rfl ?_
  refine w_sa am_e291 rfl h.1 ?_
  replace h := h.2
  refine w_st (i' := 963) (ls' := [.ref 1000000, .ref 0, .ref 99, .ref 145, .int x4, .int v1, d6]) (st' := [.ref 1000000, .int (E1.2.2.2 (x4 + (nI 2)).toNatClampNeg), .int (E1.2.2.2 (x4 + (nI 1)).toNatClampNeg), .ref 99]) (E' := E1) (I' := I1) (J' := J1) (S' := S1) am_e291 rfl rfl rfl rfl ?_
  refine w_st (i' := 964) (ls' := [.ref 1000000, .ref 0, .ref 99, .ref 145, .int x4, .int v1, d6]) (st' := [.int x4, .ref 1000000, .int (E1.2.2.2 (x4 + (nI 2)).toNatClampNeg), .int (E1.2.2.2 (x4 + (nI 1)).toNatClampNeg), .ref 99]) (E' := E1) (I' := I1) (J' := J1) (S' := S1) am_e291 rfl rfl rfl rfl ?_
  refine w_st (i' := 965) (ls' := [.ref 1000000, .ref 0, .ref 99, .ref 145, .int x4, .int v1, d6]) (st' := [.int (nI 3), .int x4, .ref 1000000, .int (E1.2.2.2 (x4 + (nI 2)).toNatClampNeg), .int (E1.2.2.2 (x4 + (nI 1)).toNatClampNeg), .ref 99]) (E' := E1) (I' := I1) (J' := J1) (S' := S1) am_e291 rfl rfl rfl rfl ?_
  refine w_st (i' := 966) (ls' := [.ref 1000000, .ref 0, .ref 99, .ref 145, .int x4, .int v1, d6]) (st' := [.int (x4 + (nI 3)), .ref 1000000, .int (E1.2.2.2 (x4 + (nI 2)).toNatClampNeg), .int (E1.2.2.2 (x4 + (nI 1)).toNatClampNeg), .ref 99]) (E' := E1) (I' := I1) (J' := J1) (S' := S1) am_e291 rfl rfl rfl rfl ?_
  refine w_sa am_e291 rfl h.1 ?_
  replace h := h.2
  refine w_st (i' := 968) (ls' := [.ref 1000000, .ref 0, .ref 99, .ref 145, .int x4, .int v1, d6]) (st' := [.ref 1000000, .int (E1.2.2.2 (x4 + (nI 3)).toNatClampNeg), .int (E1.2.2.2 (x4 + (nI 2)).toNatClampNeg), .int (E1.2.2.2 (x4 + (nI 1)).toNatClampNeg), .ref 99]) (E' := E1) (I' := I1) (J' := J1) (S' := S1) am_e291 rfl rfl rfl rfl ?_
  refine w_st (i' := 969) (ls' := [.ref 1000000, .ref 0, .ref 99, .ref 145, .int x4, .int v1, d6]) (st' := [.int x4, .ref 1000000, .int (E1.2.2.2 (x4 + (nI 3)).toNatClampNeg), .int (E1.2.2.2 (x4 + (nI 2)).toNatClampNeg), .int (E1.2.2.2 (x4 + (nI 1)).toNatClampNeg), .ref 99]) (E' := E1) (I' := I1) (J' := J1) (S' := S1) am_e291 rfl rfl rfl rfl ?_
  refine w_st (i' := 970) (ls' := [.ref 1000000, .ref 0, .ref 99, .ref 145, .int x4, .int v1, d6]) (st' := [.int (nI 4), .int x4, .ref 1000000, .int (E1.2.2.2 (x4 + (nI 3)).toNatClampNeg), .int (E1.2.2.2 (x4 + (nI 2)).toNatClampNeg), .int (E1.2.2.2 (x4 + (nI 1)).toNatClampNeg), .ref 99]) (E' := E1) (I' := I1) (J' := J1) (S' := S1) am_e291 rfl rfl rfl rfl ?_
  refine w_st (i' := 971) (ls' := [.ref 1000000, .ref 0, .ref 99, .ref 145, .int x4, .int v1, d6]) (st' := [.int (x4 + (nI 4)), .ref 1000000, .int (E1.2.2.2 (x4 + (nI 3)).toNatClampNeg), .int (E1.2.2.2 (x4 + (nI 2)).toNatClampNeg), .int (E1.2.2.2 (x4 + (nI 1)).toNatClampNeg), .ref 99]) (E' := E1) (I' := I1) (J' := J1) (S' := S1) am_e291 rfl rfl rfl rfl ?_
  refine w_sa am_e291 rfl h.1 ?_
  replace h := h.2
  refine w_cI am_e291 rfl rfl (as := [.ref 99, .int (E1.2.2.2 (x4 + (nI 1)).toNatClampNeg), .int (E1.2.2.2 (x4 + (nI 2)).toNatClampNeg), .int (E1.2.2.2 (x4 + (nI 3)).toNatClampNeg), .int (E1.2.2.2 (x4 + (nI 4)).toNatClampNeg)]) (rest := []) rfl rfl (am_ww.mono h ?_)
  rintro _ E2 I2 J2 S2 ⟨v2, rfl, h⟩
  refine q_mkI ?_
  refine w_st (i' := 974) (ls' := [.ref 1000000, .ref 0, .ref 99, .ref 145, .int x4, .int v1, .int v2]) (st' := []) (E' := E2) (I' := I2) (J' := J2) (S' := S2) am_e291 rfl rfl rfl rfl ?_
  refine w_st (i' := 975) (ls' := [.ref 1000000, .ref 0, .ref 99, .ref 145, .int x4, .int v1, .int v2]) (st' := [.ref 99]) (E' := E2) (I' := I2) (J' := J2) (S' := S2) am_e291 rfl rfl rfl rfl ?_
  refine w_cI am_e291 rfl rfl (as := [.ref 99]) (rest := []) rfl rfl ?_
  show am_ww 186 0 [.ref 99] [] E2 I2 J2 S2 _
  refine w_st (i' := 1) (ls' := [.ref 99]) (st' := [.ref 99]) (E' := E2) (I' := I2) (J' := J2) (S' := S2) am_e186 rfl rfl rfl rfl ?_
  refine w_st (i' := 2) (ls' := [.ref 99]) (st' := [.int ((I2 99) 3)]) (E' := E2) (I' := I2) (J' := J2) (S' := S2) am_e186 rfl rfl rfl rfl ?_
  refine w_ri am_e186 rfl rfl (q_mkI ?_)
  show am_ww 291 976 [.ref 1000000, .ref 0, .ref 99, .ref 145, .int x4, .int v1, .int v2] [.int ((I2 99) 3)] E2 I2 J2 S2 _
  refine w_st (i' := 977) (ls' := [.ref 1000000, .ref 0, .ref 99, .ref 145, .int x4, .int v1, .int v2]) (st' := [.int v1, .int ((I2 99) 3)]) (E' := E2) (I' := I2) (J' := J2) (S' := S2) am_e291 rfl rfl rfl rfl ?_
  refine w_if2 am_e291 rfl rfl (fun c => ?_) (fun c => ?_)
  · replace h := h.1 (of_decide_eq_true c)
    refine w_st (i' := 981) (ls' := [.ref 1000000, .ref 0, .ref 99, .ref 145, .int x4, .int v1, .int v2]) (st' := [.int v1]) (E' := E2) (I' := I2) (J' := J2) (S' := S2) am_e291 rfl rfl rfl rfl ?_
    refine w_if1 am_e291 rfl rfl (fun c => ?_) (fun c => ?_)
    · replace h := h.2 (of_decide_eq_true c)
      refine w_st (i' := 1129) (ls' := [.ref 1000000, .ref 0, .ref 99, .ref 145, .int x4, .int v1, .int v2]) (st' := []) (E' := E2) (I' := I2) (J' := J2) (S' := S2) am_e291 rfl rfl rfl rfl ?_
      exact h
    · replace h := h.1 (Decidable.not_not.mp (of_decide_eq_false c))
      refine w_st (i' := 983) (ls' := [.ref 1000000, .ref 0, .ref 99, .ref 145, .int x4, .int v1, .int v2]) (st' := [.ref 145]) (E' := E2) (I' := I2) (J' := J2) (S' := S2) am_e291 rfl rfl rfl rfl ?_
      refine w_st (i' := 984) (ls' := [.ref 1000000, .ref 0, .ref 99, .ref 145, .int x4, .int v1, .int v2]) (st' := [.int (nI 0), .ref 145]) (E' := E2) (I' := I2) (J' := J2) (S' := S2) am_e291 rfl rfl rfl rfl ?_
      refine w_la (k := 145) (n := 1) (jn := 0) am_e291 rfl rfl (by decide) (vp_in_nI (by decide) (by decide)) rfl ?_
      show am_ww 291 985 [.ref 1000000, .ref 0, .ref 99, .ref 145, .int x4, .int v1, .int v2] [.long ((J2 145) 0)] E2 I2 J2 S2 _
      refine w_st (i' := 986) (ls' := [.ref 1000000, .ref 0, .ref 99, .ref 145, .int x4, .int v1, .int v2]) (st' := [.int v2, .long ((J2 145) 0)]) (E' := E2) (I' := I2) (J' := J2) (S' := S2) am_e291 rfl rfl rfl rfl ?_
      refine w_st (i' := 987) (ls' := [.ref 1000000, .ref 0, .ref 99, .ref 145, .int x4, .int v1, .int v2]) (st' := [.long v2.toInt64, .long ((J2 145) 0)]) (E' := E2) (I' := I2) (J' := J2) (S' := S2) am_e291 rfl rfl rfl rfl ?_
      refine w_st (i' := 988) (ls' := [.ref 1000000, .ref 0, .ref 99, .ref 145, .int x4, .int v1, .int v2]) (st' := [.int (lg_cmp ((J2 145) 0) v2.toInt64)]) (E' := E2) (I' := I2) (J' := J2) (S' := S2) am_e291 rfl rfl rfl rfl ?_
      refine w_if1 am_e291 rfl rfl (fun c => ?_) (fun c => ?_)
      · replace h := h.1 (of_decide_eq_true c)
        refine w_st (i' := 1129) (ls' := [.ref 1000000, .ref 0, .ref 99, .ref 145, .int x4, .int v1, .int v2]) (st' := []) (E' := E2) (I' := I2) (J' := J2) (S' := S2) am_e291 rfl rfl rfl rfl ?_
        exact h
      · replace h := h.2 (of_decide_eq_false c)
        refine w_st (i' := 990) (ls' := [.ref 1000000, .ref 0, .ref 99, .ref 145, .int x4, .int v1, .int v2]) (st' := [.int (nI 0)]) (E' := E2) (I' := I2) (J' := J2) (S' := S2) am_e291 rfl rfl rfl rfl ?_
        exact w_end am_e291 rfl rfl rfl h
  · replace h := h.2 (of_decide_eq_false c)
    refine w_st (i' := 979) (ls' := [.ref 1000000, .ref 0, .ref 99, .ref 145, .int x4, .int v1, .int v2]) (st' := [.int (nI 0)]) (E' := E2) (I' := I2) (J' := J2) (S' := S2) am_e291 rfl rfl rfl rfl ?_
    exact w_end am_e291 rfl rfl rfl h
set_option maxRecDepth 12000 in
theorem g291_992 {x4 : Int32} {d5 : Value} {d6 : Value} {E : am_Ev} {I : Nat → Nat → Int32} {J : Nat → Nat → Int64} {S : Nat → Nat → Option Nat} {Q : am_Qt} (hd5 : am_isL d5 = false) (hd6 : am_isL d6 = false) (h : vp_in (x4 + (nI 1)) E.2.2.1 ∧ (am_cl 174 [.ref 0, .int (E.2.2.2 (x4 + (nI 1)).toNatClampNeg), .ref 145] E I J S (q_I fun v1 E1 I1 J1 S1 => vp_in (x4 + (nI 1)) E1.2.2.1 ∧ (am_cl 282 [.ref 99, .int (E1.2.2.2 (x4 + (nI 1)).toNatClampNeg)] E1 I1 J1 S1 (q_I fun v2 E2 I2 J2 S2 => (((I2 99) 3) = v1 → ((v1 = 0 → (((lg_cmp ((J2 145) 0) v2.toInt64) = 0 → (am_ww 291 1129 [.ref 1000000, .ref 0, .ref 99, .ref 145, .int x4, .int v1, .int v2] [] E2 I2 J2 S2 Q)) ∧ (¬ (lg_cmp ((J2 145) 0) v2.toInt64) = 0 → (Q (.inl (some (.int (nI 0)))) E2 I2 J2 S2)))) ∧ (¬ v1 = 0 → (am_ww 291 1129 [.ref 1000000, .ref 0, .ref 99, .ref 145, .int x4, .int v1, .int v2] [] E2 I2 J2 S2 Q)))) ∧ (¬ ((I2 99) 3) = v1 → (Q (.inl (some (.int (nI 0)))) E2 I2 J2 S2))))))) : am_ww 291 992 [.ref 1000000, .ref 0, .ref 99, .ref 145, .int x4, d5, d6] [] E I J S Q := by
  refine w_st (i' := 993) (ls' := [.ref 1000000, .ref 0, .ref 99, .ref 145, .int x4, d5, d6]) (st' := [.ref 0]) (E' := E) (I' := I) (J' := J) (S' := S) am_e291 rfl rfl rfl rfl ?_
  refine w_st (i' := 994) (ls' := [.ref 1000000, .ref 0, .ref 99, .ref 145, .int x4, d5, d6]) (st' := [.ref 1000000, .ref 0]) (E' := E) (I' := I) (J' := J) (S' := S) am_e291 rfl rfl rfl rfl ?_
  refine w_st (i' := 995) (ls' := [.ref 1000000, .ref 0, .ref 99, .ref 145, .int x4, d5, d6]) (st' := [.int x4, .ref 1000000, .ref 0]) (E' := E) (I' := I) (J' := J) (S' := S) am_e291 rfl rfl rfl rfl ?_
  refine w_st (i' := 996) (ls' := [.ref 1000000, .ref 0, .ref 99, .ref 145, .int x4, d5, d6]) (st' := [.int (nI 1), .int x4, .ref 1000000, .ref 0]) (E' := E) (I' := I) (J' := J) (S' := S) am_e291 rfl rfl rfl rfl ?_
  refine w_st (i' := 997) (ls' := [.ref 1000000, .ref 0, .ref 99, .ref 145, .int x4, d5, d6]) (st' := [.int (x4 + (nI 1)), .ref 1000000, .ref 0]) (E' := E) (I' := I) (J' := J) (S' := S) am_e291 rfl rfl rfl rfl ?_
  refine w_sa am_e291 rfl h.1 ?_
  replace h := h.2
  refine w_st (i' := 999) (ls' := [.ref 1000000, .ref 0, .ref 99, .ref 145, .int x4, d5, d6]) (st' := [.ref 145, .int (E.2.2.2 (x4 + (nI 1)).toNatClampNeg), .ref 0]) (E' := E) (I' := I) (J' := J) (S' := S) am_e291 rfl rfl rfl rfl ?_
  refine w_cI am_e291 rfl rfl (as := [.ref 0, .int (E.2.2.2 (x4 + (nI 1)).toNatClampNeg), .ref 145]) (rest := []) rfl rfl (am_ww.mono h ?_)
  rintro _ E1 I1 J1 S1 ⟨v1, rfl, h⟩
  refine q_mkI ?_
  refine w_st (i' := 1001) (ls' := [.ref 1000000, .ref 0, .ref 99, .ref 145, .int x4, .int v1, d6]) (st' := []) (E' := E1) (I' := I1) (J' := J1) (S' := S1) am_e291 rfl rfl rfl rfl ?_
  refine w_st (i' := 1002) (ls' := [.ref 1000000, .ref 0, .ref 99, .ref 145, .int x4, .int v1, d6]) (st' := [.ref 99]) (E' := E1) (I' := I1) (J' := J1) (S' := S1) am_e291 rfl rfl rfl rfl ?_
  refine w_st (i' := 1003) (ls' := [.ref 1000000, .ref 0, .ref 99, .ref 145, .int x4, .int v1, d6]) (st' := [.ref 1000000, .ref 99]) (E' := E1) (I' := I1) (J' := J1) (S' := S1) am_e291 rfl rfl rfl rfl ?_
  refine w_st (i' := 1004) (ls' := [.ref 1000000, .ref 0, .ref 99, .ref 145, .int x4, .int v1, d6]) (st' := [.int x4, .ref 1000000, .ref 99]) (E' := E1) (I' := I1) (J' := J1) (S' := S1) am_e291 rfl rfl rfl rfl ?_
  refine w_st (i' := 1005) (ls' := [.ref 1000000, .ref 0, .ref 99, .ref 145, .int x4, .int v1, d6]) (st' := [.int (nI 1), .int x4, .ref 1000000, .ref 99]) (E' := E1) (I' := I1) (J' := J1) (S' := S1) am_e291 rfl rfl rfl rfl ?_
  refine w_st (i' := 1006) (ls' := [.ref 1000000, .ref 0, .ref 99, .ref 145, .int x4, .int v1, d6]) (st' := [.int (x4 + (nI 1)), .ref 1000000, .ref 99]) (E' := E1) (I' := I1) (J' := J1) (S' := S1) am_e291 rfl rfl rfl rfl ?_
  refine w_sa am_e291 rfl h.1 ?_
  replace h := h.2
  refine w_cI am_e291 rfl rfl (as := [.ref 99, .int (E1.2.2.2 (x4 + (nI 1)).toNatClampNeg)]) (rest := []) rfl rfl (am_ww.mono h ?_)
  rintro _ E2 I2 J2 S2 ⟨v2, rfl, h⟩
  refine q_mkI ?_
  refine w_st (i' := 1009) (ls' := [.ref 1000000, .ref 0, .ref 99, .ref 145, .int x4, .int v1, .int v2]) (st' := []) (E' := E2) (I' := I2) (J' := J2) (S' := S2) am_e291 rfl rfl rfl rfl ?_
  refine w_st (i' := 1010) (ls' := [.ref 1000000, .ref 0, .ref 99, .ref 145, .int x4, .int v1, .int v2]) (st' := [.ref 99]) (E' := E2) (I' := I2) (J' := J2) (S' := S2) am_e291 rfl rfl rfl rfl ?_
  refine w_cI am_e291 rfl rfl (as := [.ref 99]) (rest := []) rfl rfl ?_
  show am_ww 186 0 [.ref 99] [] E2 I2 J2 S2 _
  refine w_st (i' := 1) (ls' := [.ref 99]) (st' := [.ref 99]) (E' := E2) (I' := I2) (J' := J2) (S' := S2) am_e186 rfl rfl rfl rfl ?_
  refine w_st (i' := 2) (ls' := [.ref 99]) (st' := [.int ((I2 99) 3)]) (E' := E2) (I' := I2) (J' := J2) (S' := S2) am_e186 rfl rfl rfl rfl ?_
  refine w_ri am_e186 rfl rfl (q_mkI ?_)
  show am_ww 291 1011 [.ref 1000000, .ref 0, .ref 99, .ref 145, .int x4, .int v1, .int v2] [.int ((I2 99) 3)] E2 I2 J2 S2 _
  refine w_st (i' := 1012) (ls' := [.ref 1000000, .ref 0, .ref 99, .ref 145, .int x4, .int v1, .int v2]) (st' := [.int v1, .int ((I2 99) 3)]) (E' := E2) (I' := I2) (J' := J2) (S' := S2) am_e291 rfl rfl rfl rfl ?_
  refine w_if2 am_e291 rfl rfl (fun c => ?_) (fun c => ?_)
  · replace h := h.1 (of_decide_eq_true c)
    refine w_st (i' := 1016) (ls' := [.ref 1000000, .ref 0, .ref 99, .ref 145, .int x4, .int v1, .int v2]) (st' := [.int v1]) (E' := E2) (I' := I2) (J' := J2) (S' := S2) am_e291 rfl rfl rfl rfl ?_
    refine w_if1 am_e291 rfl rfl (fun c => ?_) (fun c => ?_)
    · replace h := h.2 (of_decide_eq_true c)
      refine w_st (i' := 1129) (ls' := [.ref 1000000, .ref 0, .ref 99, .ref 145, .int x4, .int v1, .int v2]) (st' := []) (E' := E2) (I' := I2) (J' := J2) (S' := S2) am_e291 rfl rfl rfl rfl ?_
      exact h
    · replace h := h.1 (Decidable.not_not.mp (of_decide_eq_false c))
      refine w_st (i' := 1018) (ls' := [.ref 1000000, .ref 0, .ref 99, .ref 145, .int x4, .int v1, .int v2]) (st' := [.ref 145]) (E' := E2) (I' := I2) (J' := J2) (S' := S2) am_e291 rfl rfl rfl rfl ?_
      refine w_st (i' := 1019) (ls' := [.ref 1000000, .ref 0, .ref 99, .ref 145, .int x4, .int v1, .int v2]) (st' := [.int (nI 0), .ref 145]) (E' := E2) (I' := I2) (J' := J2) (S' := S2) am_e291 rfl rfl rfl rfl ?_
      refine w_la (k := 145) (n := 1) (jn := 0) am_e291 rfl rfl (by decide) (vp_in_nI (by decide) (by decide)) rfl ?_
      show am_ww 291 1020 [.ref 1000000, .ref 0, .ref 99, .ref 145, .int x4, .int v1, .int v2] [.long ((J2 145) 0)] E2 I2 J2 S2 _
      refine w_st (i' := 1021) (ls' := [.ref 1000000, .ref 0, .ref 99, .ref 145, .int x4, .int v1, .int v2]) (st' := [.int v2, .long ((J2 145) 0)]) (E' := E2) (I' := I2) (J' := J2) (S' := S2) am_e291 rfl rfl rfl rfl ?_
      refine w_st (i' := 1022) (ls' := [.ref 1000000, .ref 0, .ref 99, .ref 145, .int x4, .int v1, .int v2]) (st' := [.long v2.toInt64, .long ((J2 145) 0)]) (E' := E2) (I' := I2) (J' := J2) (S' := S2) am_e291 rfl rfl rfl rfl ?_
      refine w_st (i' := 1023) (ls' := [.ref 1000000, .ref 0, .ref 99, .ref 145, .int x4, .int v1, .int v2]) (st' := [.int (lg_cmp ((J2 145) 0) v2.toInt64)]) (E' := E2) (I' := I2) (J' := J2) (S' := S2) am_e291 rfl rfl rfl rfl ?_
      refine w_if1 am_e291 rfl rfl (fun c => ?_) (fun c => ?_)
      · replace h := h.1 (of_decide_eq_true c)
        refine w_st (i' := 1129) (ls' := [.ref 1000000, .ref 0, .ref 99, .ref 145, .int x4, .int v1, .int v2]) (st' := []) (E' := E2) (I' := I2) (J' := J2) (S' := S2) am_e291 rfl rfl rfl rfl ?_
        exact h
      · replace h := h.2 (of_decide_eq_false c)
        refine w_st (i' := 1025) (ls' := [.ref 1000000, .ref 0, .ref 99, .ref 145, .int x4, .int v1, .int v2]) (st' := [.int (nI 0)]) (E' := E2) (I' := I2) (J' := J2) (S' := S2) am_e291 rfl rfl rfl rfl ?_
        exact w_end am_e291 rfl rfl rfl h
  · replace h := h.2 (of_decide_eq_false c)
    refine w_st (i' := 1014) (ls' := [.ref 1000000, .ref 0, .ref 99, .ref 145, .int x4, .int v1, .int v2]) (st' := [.int (nI 0)]) (E' := E2) (I' := I2) (J' := J2) (S' := S2) am_e291 rfl rfl rfl rfl ?_
    exact w_end am_e291 rfl rfl rfl h
set_option maxRecDepth 12000 in
theorem g291_1027 {x4 : Int32} {d5 : Value} {d6 : Value} {E : am_Ev} {I : Nat → Nat → Int32} {J : Nat → Nat → Int64} {S : Nat → Nat → Option Nat} {Q : am_Qt} (hd5 : am_isL d5 = false) (hd6 : am_isL d6 = false) (h : vp_in (x4 + (nI 1)) E.2.2.1 ∧ (vp_in (x4 + (nI 2)) E.2.2.1 ∧ (am_cl 176 [.ref 0, .int (E.2.2.2 (x4 + (nI 1)).toNatClampNeg), .int (E.2.2.2 (x4 + (nI 2)).toNatClampNeg), .ref 145] E I J S (q_I fun v1 E1 I1 J1 S1 => vp_in (x4 + (nI 1)) E1.2.2.1 ∧ (vp_in (x4 + (nI 2)) E1.2.2.1 ∧ (am_cl 284 [.ref 99, .int (E1.2.2.2 (x4 + (nI 1)).toNatClampNeg), .int (E1.2.2.2 (x4 + (nI 2)).toNatClampNeg)] E1 I1 J1 S1 (q_I fun v2 E2 I2 J2 S2 => (((I2 99) 3) = v1 → ((v1 = 0 → (((lg_cmp ((J2 145) 0) v2.toInt64) = 0 → (am_ww 291 1129 [.ref 1000000, .ref 0, .ref 99, .ref 145, .int x4, .int v1, .int v2] [] E2 I2 J2 S2 Q)) ∧ (¬ (lg_cmp ((J2 145) 0) v2.toInt64) = 0 → (Q (.inl (some (.int (nI 0)))) E2 I2 J2 S2)))) ∧ (¬ v1 = 0 → (am_ww 291 1129 [.ref 1000000, .ref 0, .ref 99, .ref 145, .int x4, .int v1, .int v2] [] E2 I2 J2 S2 Q)))) ∧ (¬ ((I2 99) 3) = v1 → (Q (.inl (some (.int (nI 0)))) E2 I2 J2 S2))))))))) : am_ww 291 1027 [.ref 1000000, .ref 0, .ref 99, .ref 145, .int x4, d5, d6] [] E I J S Q := by
  refine w_st (i' := 1028) (ls' := [.ref 1000000, .ref 0, .ref 99, .ref 145, .int x4, d5, d6]) (st' := [.ref 0]) (E' := E) (I' := I) (J' := J) (S' := S) am_e291 rfl rfl rfl rfl ?_
  refine w_st (i' := 1029) (ls' := [.ref 1000000, .ref 0, .ref 99, .ref 145, .int x4, d5, d6]) (st' := [.ref 1000000, .ref 0]) (E' := E) (I' := I) (J' := J) (S' := S) am_e291 rfl rfl rfl rfl ?_
  refine w_st (i' := 1030) (ls' := [.ref 1000000, .ref 0, .ref 99, .ref 145, .int x4, d5, d6]) (st' := [.int x4, .ref 1000000, .ref 0]) (E' := E) (I' := I) (J' := J) (S' := S) am_e291 rfl rfl rfl rfl ?_
  refine w_st (i' := 1031) (ls' := [.ref 1000000, .ref 0, .ref 99, .ref 145, .int x4, d5, d6]) (st' := [.int (nI 1), .int x4, .ref 1000000, .ref 0]) (E' := E) (I' := I) (J' := J) (S' := S) am_e291 rfl rfl rfl rfl ?_
  refine w_st (i' := 1032) (ls' := [.ref 1000000, .ref 0, .ref 99, .ref 145, .int x4, d5, d6]) (st' := [.int (x4 + (nI 1)), .ref 1000000, .ref 0]) (E' := E) (I' := I) (J' := J) (S' := S) am_e291 rfl rfl rfl rfl ?_
  refine w_sa am_e291 rfl h.1 ?_
  replace h := h.2
  refine w_st (i' := 1034) (ls' := [.ref 1000000, .ref 0, .ref 99, .ref 145, .int x4, d5, d6]) (st' := [.ref 1000000, .int (E.2.2.2 (x4 + (nI 1)).toNatClampNeg), .ref 0]) (E' := E) (I' := I) (J' := J) (S' := S) am_e291 rfl rfl rfl rfl ?_
  refine w_st (i' := 1035) (ls' := [.ref 1000000, .ref 0, .ref 99, .ref 145, .int x4, d5, d6]) (st' := [.int x4, .ref 1000000, .int (E.2.2.2 (x4 + (nI 1)).toNatClampNeg), .ref 0]) (E' := E) (I' := I) (J' := J) (S' := S) am_e291 rfl rfl rfl rfl ?_
  refine w_st (i' := 1036) (ls' := [.ref 1000000, .ref 0, .ref 99, .ref 145, .int x4, d5, d6]) (st' := [.int (nI 2), .int x4, .ref 1000000, .int (E.2.2.2 (x4 + (nI 1)).toNatClampNeg), .ref 0]) (E' := E) (I' := I) (J' := J) (S' := S) am_e291 rfl rfl rfl rfl ?_
  refine w_st (i' := 1037) (ls' := [.ref 1000000, .ref 0, .ref 99, .ref 145, .int x4, d5, d6]) (st' := [.int (x4 + (nI 2)), .ref 1000000, .int (E.2.2.2 (x4 + (nI 1)).toNatClampNeg), .ref 0]) (E' := E) (I' := I) (J' := J) (S' := S) am_e291 rfl rfl rfl rfl ?_
  refine w_sa am_e291 rfl h.1 ?_
  replace h := h.2
  refine w_st (i' := 1039) (ls' := [.ref 1000000, .ref 0, .ref 99, .ref 145, .int x4, d5, d6]) (st' := [.ref 145, .int (E.2.2.2 (x4 + (nI 2)).toNatClampNeg), .int (E.2.2.2 (x4 + (nI 1)).toNatClampNeg), .ref 0]) (E' := E) (I' := I) (J' := J) (S' := S) am_e291 rfl rfl rfl rfl ?_
  refine w_cI am_e291 rfl rfl (as := [.ref 0, .int (E.2.2.2 (x4 + (nI 1)).toNatClampNeg), .int (E.2.2.2 (x4 + (nI 2)).toNatClampNeg), .ref 145]) (rest := []) rfl rfl (am_ww.mono h ?_)
  rintro _ E1 I1 J1 S1 ⟨v1, rfl, h⟩
  refine q_mkI ?_
  refine w_st (i' := 1041) (ls' := [.ref 1000000, .ref 0, .ref 99, .ref 145, .int x4, .int v1, d6]) (st' := []) (E' := E1) (I' := I1) (J' := J1) (S' := S1) am_e291 rfl rfl rfl rfl ?_
  refine w_st (i' := 1042) (ls' := [.ref 1000000, .ref 0, .ref 99, .ref 145, .int x4, .int v1, d6]) (st' := [.ref 99]) (E' := E1) (I' := I1) (J' := J1) (S' := S1) am_e291 rfl rfl rfl rfl ?_
  refine w_st (i' := 1043) (ls' := [.ref 1000000, .ref 0, .ref 99, .ref 145, .int x4, .int v1, d6]) (st' := [.ref 1000000, .ref 99]) (E' := E1) (I' := I1) (J' := J1) (S' := S1) am_e291 rfl rfl rfl rfl ?_
  refine w_st (i' := 1044) (ls' := [.ref 1000000, .ref 0, .ref 99, .ref 145, .int x4, .int v1, d6]) (st' := [.int x4, .ref 1000000, .ref 99]) (E' := E1) (I' := I1) (J' := J1) (S' := S1) am_e291 rfl rfl rfl rfl ?_
  refine w_st (i' := 1045) (ls' := [.ref 1000000, .ref 0, .ref 99, .ref 145, .int x4, .int v1, d6]) (st' := [.int (nI 1), .int x4, .ref 1000000, .ref 99]) (E' := E1) (I' := I1) (J' := J1) (S' := S1) am_e291 rfl rfl rfl rfl ?_
  refine w_st (i' := 1046) (ls' := [.ref 1000000, .ref 0, .ref 99, .ref 145, .int x4, .int v1, d6]) (st' := [.int (x4 + (nI 1)), .ref 1000000, .ref 99]) (E' := E1) (I' := I1) (J' := J1) (S' := S1) am_e291 rfl rfl rfl rfl ?_
  refine w_sa am_e291 rfl h.1 ?_
  replace h := h.2
  refine w_st (i' := 1048) (ls' := [.ref 1000000, .ref 0, .ref 99, .ref 145, .int x4, .int v1, d6]) (st' := [.ref 1000000, .int (E1.2.2.2 (x4 + (nI 1)).toNatClampNeg), .ref 99]) (E' := E1) (I' := I1) (J' := J1) (S' := S1) am_e291 rfl rfl rfl rfl ?_
  refine w_st (i' := 1049) (ls' := [.ref 1000000, .ref 0, .ref 99, .ref 145, .int x4, .int v1, d6]) (st' := [.int x4, .ref 1000000, .int (E1.2.2.2 (x4 + (nI 1)).toNatClampNeg), .ref 99]) (E' := E1) (I' := I1) (J' := J1) (S' := S1) am_e291 rfl rfl rfl rfl ?_
  refine w_st (i' := 1050) (ls' := [.ref 1000000, .ref 0, .ref 99, .ref 145, .int x4, .int v1, d6]) (st' := [.int (nI 2), .int x4, .ref 1000000, .int (E1.2.2.2 (x4 + (nI 1)).toNatClampNeg), .ref 99]) (E' := E1) (I' := I1) (J' := J1) (S' := S1) am_e291 rfl rfl rfl rfl ?_
  refine w_st (i' := 1051) (ls' := [.ref 1000000, .ref 0, .ref 99, .ref 145, .int x4, .int v1, d6]) (st' := [.int (x4 + (nI 2)), .ref 1000000, .int (E1.2.2.2 (x4 + (nI 1)).toNatClampNeg), .ref 99]) (E' := E1) (I' := I1) (J' := J1) (S' := S1) am_e291 rfl rfl rfl rfl ?_
  refine w_sa am_e291 rfl h.1 ?_
  replace h := h.2
  refine w_cI am_e291 rfl rfl (as := [.ref 99, .int (E1.2.2.2 (x4 + (nI 1)).toNatClampNeg), .int (E1.2.2.2 (x4 + (nI 2)).toNatClampNeg)]) (rest := []) rfl rfl (am_ww.mono h ?_)
  rintro _ E2 I2 J2 S2 ⟨v2, rfl, h⟩
  refine q_mkI ?_
  refine w_st (i' := 1054) (ls' := [.ref 1000000, .ref 0, .ref 99, .ref 145, .int x4, .int v1, .int v2]) (st' := []) (E' := E2) (I' := I2) (J' := J2) (S' := S2) am_e291 rfl rfl rfl rfl ?_
  refine w_st (i' := 1055) (ls' := [.ref 1000000, .ref 0, .ref 99, .ref 145, .int x4, .int v1, .int v2]) (st' := [.ref 99]) (E' := E2) (I' := I2) (J' := J2) (S' := S2) am_e291 rfl rfl rfl rfl ?_
  refine w_cI am_e291 rfl rfl (as := [.ref 99]) (rest := []) rfl rfl ?_
  show am_ww 186 0 [.ref 99] [] E2 I2 J2 S2 _
  refine w_st (i' := 1) (ls' := [.ref 99]) (st' := [.ref 99]) (E' := E2) (I' := I2) (J' := J2) (S' := S2) am_e186 rfl rfl rfl rfl ?_
  refine w_st (i' := 2) (ls' := [.ref 99]) (st' := [.int ((I2 99) 3)]) (E' := E2) (I' := I2) (J' := J2) (S' := S2) am_e186 rfl rfl rfl rfl ?_
  refine w_ri am_e186 rfl rfl (q_mkI ?_)
  show am_ww 291 1056 [.ref 1000000, .ref 0, .ref 99, .ref 145, .int x4, .int v1, .int v2] [.int ((I2 99) 3)] E2 I2 J2 S2 _
  refine w_st (i' := 1057) (ls' := [.ref 1000000, .ref 0, .ref 99, .ref 145, .int x4, .int v1, .int v2]) (st' := [.int v1, .int ((I2 99) 3)]) (E' := E2) (I' := I2) (J' := J2) (S' := S2) am_e291 rfl rfl rfl rfl ?_
  refine w_if2 am_e291 rfl rfl (fun c => ?_) (fun c => ?_)
  · replace h := h.1 (of_decide_eq_true c)
    refine w_st (i' := 1061) (ls' := [.ref 1000000, .ref 0, .ref 99, .ref 145, .int x4, .int v1, .int v2]) (st' := [.int v1]) (E' := E2) (I' := I2) (J' := J2) (S' := S2) am_e291 rfl rfl rfl rfl ?_
    refine w_if1 am_e291 rfl rfl (fun c => ?_) (fun c => ?_)
    · replace h := h.2 (of_decide_eq_true c)
      refine w_st (i' := 1129) (ls' := [.ref 1000000, .ref 0, .ref 99, .ref 145, .int x4, .int v1, .int v2]) (st' := []) (E' := E2) (I' := I2) (J' := J2) (S' := S2) am_e291 rfl rfl rfl rfl ?_
      exact h
    · replace h := h.1 (Decidable.not_not.mp (of_decide_eq_false c))
      refine w_st (i' := 1063) (ls' := [.ref 1000000, .ref 0, .ref 99, .ref 145, .int x4, .int v1, .int v2]) (st' := [.ref 145]) (E' := E2) (I' := I2) (J' := J2) (S' := S2) am_e291 rfl rfl rfl rfl ?_
      refine w_st (i' := 1064) (ls' := [.ref 1000000, .ref 0, .ref 99, .ref 145, .int x4, .int v1, .int v2]) (st' := [.int (nI 0), .ref 145]) (E' := E2) (I' := I2) (J' := J2) (S' := S2) am_e291 rfl rfl rfl rfl ?_
      refine w_la (k := 145) (n := 1) (jn := 0) am_e291 rfl rfl (by decide) (vp_in_nI (by decide) (by decide)) rfl ?_
      show am_ww 291 1065 [.ref 1000000, .ref 0, .ref 99, .ref 145, .int x4, .int v1, .int v2] [.long ((J2 145) 0)] E2 I2 J2 S2 _
      refine w_st (i' := 1066) (ls' := [.ref 1000000, .ref 0, .ref 99, .ref 145, .int x4, .int v1, .int v2]) (st' := [.int v2, .long ((J2 145) 0)]) (E' := E2) (I' := I2) (J' := J2) (S' := S2) am_e291 rfl rfl rfl rfl ?_
      refine w_st (i' := 1067) (ls' := [.ref 1000000, .ref 0, .ref 99, .ref 145, .int x4, .int v1, .int v2]) (st' := [.long v2.toInt64, .long ((J2 145) 0)]) (E' := E2) (I' := I2) (J' := J2) (S' := S2) am_e291 rfl rfl rfl rfl ?_
      refine w_st (i' := 1068) (ls' := [.ref 1000000, .ref 0, .ref 99, .ref 145, .int x4, .int v1, .int v2]) (st' := [.int (lg_cmp ((J2 145) 0) v2.toInt64)]) (E' := E2) (I' := I2) (J' := J2) (S' := S2) am_e291 rfl rfl rfl rfl ?_
      refine w_if1 am_e291 rfl rfl (fun c => ?_) (fun c => ?_)
      · replace h := h.1 (of_decide_eq_true c)
        refine w_st (i' := 1129) (ls' := [.ref 1000000, .ref 0, .ref 99, .ref 145, .int x4, .int v1, .int v2]) (st' := []) (E' := E2) (I' := I2) (J' := J2) (S' := S2) am_e291 rfl rfl rfl rfl ?_
        exact h
      · replace h := h.2 (of_decide_eq_false c)
        refine w_st (i' := 1070) (ls' := [.ref 1000000, .ref 0, .ref 99, .ref 145, .int x4, .int v1, .int v2]) (st' := [.int (nI 0)]) (E' := E2) (I' := I2) (J' := J2) (S' := S2) am_e291 rfl rfl rfl rfl ?_
        exact w_end am_e291 rfl rfl rfl h
  · replace h := h.2 (of_decide_eq_false c)
    refine w_st (i' := 1059) (ls' := [.ref 1000000, .ref 0, .ref 99, .ref 145, .int x4, .int v1, .int v2]) (st' := [.int (nI 0)]) (E' := E2) (I' := I2) (J' := J2) (S' := S2) am_e291 rfl rfl rfl rfl ?_
    exact w_end am_e291 rfl rfl rfl h
set_option maxRecDepth 12000 in
theorem g291_1072 {x4 : Int32} {d5 : Value} {d6 : Value} {E : am_Ev} {I : Nat → Nat → Int32} {J : Nat → Nat → Int64} {S : Nat → Nat → Option Nat} {Q : am_Qt} (hd5 : am_isL d5 = false) (hd6 : am_isL d6 = false) (h : vp_in (x4 + (nI 1)) E.2.2.1 ∧ (vp_in (x4 + (nI 2)) E.2.2.1 ∧ (am_cl 181 [.ref 0, .int (E.2.2.2 (x4 + (nI 1)).toNatClampNeg), .int (E.2.2.2 (x4 + (nI 2)).toNatClampNeg), .ref 145] E I J S (q_I fun v1 E1 I1 J1 S1 => vp_in (x4 + (nI 1)) E1.2.2.1 ∧ (vp_in (x4 + (nI 2)) E1.2.2.1 ∧ (am_cl 287 [.ref 99, .int (E1.2.2.2 (x4 + (nI 1)).toNatClampNeg), .int (E1.2.2.2 (x4 + (nI 2)).toNatClampNeg)] E1 I1 J1 S1 (q_I fun v2 E2 I2 J2 S2 => (((I2 99) 3) = v1 → ((v1 = 0 → (((lg_cmp ((J2 145) 0) v2.toInt64) = 0 → (am_ww 291 1129 [.ref 1000000, .ref 0, .ref 99, .ref 145, .int x4, .int v1, .int v2] [] E2 I2 J2 S2 Q)) ∧ (¬ (lg_cmp ((J2 145) 0) v2.toInt64) = 0 → (Q (.inl (some (.int (nI 0)))) E2 I2 J2 S2)))) ∧ (¬ v1 = 0 → (am_ww 291 1129 [.ref 1000000, .ref 0, .ref 99, .ref 145, .int x4, .int v1, .int v2] [] E2 I2 J2 S2 Q)))) ∧ (¬ ((I2 99) 3) = v1 → (Q (.inl (some (.int (nI 0)))) E2 I2 J2 S2))))))))) : am_ww 291 1072 [.ref 1000000, .ref 0, .ref 99, .ref 145, .int x4, d5, d6] [] E I J S Q := by
  refine w_st (i' := 1073) (ls' := [.ref 1000000, .ref 0, .ref 99, .ref 145, .int x4, d5, d6]) (st' := [.ref 0]) (E' := E) (I' := I) (J' := J) (S' := S) am_e291 rfl rfl rfl rfl ?_
  refine w_st (i' := 1074) (ls' := [.ref 1000000, .ref 0, .ref 99, .ref 145, .int x4, d5, d6]) (st' := [.ref 1000000, .ref 0]) (E' := E) (I' := I) (J' := J) (S' := S) am_e291 rfl rfl rfl rfl ?_
  refine w_st (i' := 1075) (ls' := [.ref 1000000, .ref 0, .ref 99, .ref 145, .int x4, d5, d6]) (st' := [.int x4, .ref 1000000, .ref 0]) (E' := E) (I' := I) (J' := J) (S' := S) am_e291 rfl rfl rfl rfl ?_
  refine w_st (i' := 1076) (ls' := [.ref 1000000, .ref 0, .ref 99, .ref 145, .int x4, d5, d6]) (st' := [.int (nI 1), .int x4, .ref 1000000, .ref 0]) (E' := E) (I' := I) (J' := J) (S' := S) am_e291 rfl rfl rfl rfl ?_
  refine w_st (i' := 1077) (ls' := [.ref 1000000, .ref 0, .ref 99, .ref 145, .int x4, d5, d6]) (st' := [.int (x4 + (nI 1)), .ref 1000000, .ref 0]) (E' := E) (I' := I) (J' := J) (S' := S) am_e291 rfl rfl rfl rfl ?_
  refine w_sa am_e291 rfl h.1 ?_
  replace h := h.2
  refine w_st (i' := 1079) (ls' := [.ref 1000000, .ref 0, .ref 99, .ref 145, .int x4, d5, d6]) (st' := [.ref 1000000, .int (E.2.2.2 (x4 + (nI 1)).toNatClampNeg), .ref 0]) (E' := E) (I' := I) (J' := J) (S' := S) am_e291 rfl rfl rfl rfl ?_
  refine w_st (i' := 1080) (ls' := [.ref 1000000, .ref 0, .ref 99, .ref 145, .int x4, d5, d6]) (st' := [.int x4, .ref 1000000, .int (E.2.2.2 (x4 + (nI 1)).toNatClampNeg), .ref 0]) (E' := E) (I' := I) (J' := J) (S' := S) am_e291 rfl rfl rfl rfl ?_
  refine w_st (i' := 1081) (ls' := [.ref 1000000, .ref 0, .ref 99, .ref 145, .int x4, d5, d6]) (st' := [.int (nI 2), .int x4, .ref 1000000, .int (E.2.2.2 (x4 + (nI 1)).toNatClampNeg), .ref 0]) (E' := E) (I' := I) (J' := J) (S' := S) am_e291 rfl rfl rfl rfl ?_
  refine w_st (i' := 1082) (ls' := [.ref 1000000, .ref 0, .ref 99, .ref 145, .int x4, d5, d6]) (st' := [.int (x4 + (nI 2)), .ref 1000000, .int (E.2.2.2 (x4 + (nI 1)).toNatClampNeg), .ref 0]) (E' := E) (I' := I) (J' := J) (S' := S) am_e291 rfl rfl rfl rfl ?_
  refine w_sa am_e291 rfl h.1 ?_
  replace h := h.2
  refine w_st (i' := 1084) (ls' := [.ref 1000000, .ref 0, .ref 99, .ref 145, .int x4, d5, d6]) (st' := [.ref 145, .int (E.2.2.2 (x4 + (nI 2)).toNatClampNeg), .int (E.2.2.2 (x4 + (nI 1)).toNatClampNeg), .ref 0]) (E' := E) (I' := I) (J' := J) (S' := S) am_e291 rfl rfl rfl rfl ?_
  refine w_cI am_e291 rfl rfl (as := [.ref 0, .int (E.2.2.2 (x4 + (nI 1)).toNatClampNeg), .int (E.2.2.2 (x4 + (nI 2)).toNatClampNeg), .ref 145]) (rest := []) rfl rfl (am_ww.mono h ?_)
  rintro _ E1 I1 J1 S1 ⟨v1, rfl, h⟩
  refine q_mkI ?_
  refine w_st (i' := 1086) (ls' := [.ref 1000000, .ref 0, .ref 99, .ref 145, .int x4, .int v1, d6]) (st' := []) (E' := E1) (I' := I1) (J' := J1) (S' := S1) am_e291 rfl rfl rfl rfl ?_
  refine w_st (i' := 1087) (ls' := [.ref 1000000, .ref 0, .ref 99, .ref 145, .int x4, .int v1, d6]) (st' := [.ref 99]) (E' := E1) (I' := I1) (J' := J1) (S' := S1) am_e291 rfl rfl rfl rfl ?_
  refine w_st (i' := 1088) (ls' := [.ref 1000000, .ref 0, .ref 99, .ref 145, .int x4, .int v1, d6]) (st' := [.ref 1000000, .ref 99]) (E' := E1) (I' := I1) (J' := J1) (S' := S1) am_e291 rfl rfl rfl rfl ?_
  refine w_st (i' := 1089) (ls' := [.ref 1000000, .ref 0, .ref 99, .ref 145, .int x4, .int v1, d6]) (st' := [.int x4, .ref 1000000, .ref 99]) (E' := E1) (I' := I1) (J' := J1) (S' := S1) am_e291 rfl rfl rfl rfl ?_
  refine w_st (i' := 1090) (ls' := [.ref 1000000, .ref 0, .ref 99, .ref 145, .int x4, .int v1, d6]) (st' := [.int (nI 1), .int x4, .ref 1000000, .ref 99]) (E' := E1) (I' := I1) (J' := J1) (S' := S1) am_e291 rfl rfl rfl rfl ?_
  refine w_st (i' := 1091) (ls' := [.ref 1000000, .ref 0, .ref 99, .ref 145, .int x4, .int v1, d6]) (st' := [.int (x4 + (nI 1)), .ref 1000000, .ref 99]) (E' := E1) (I' := I1) (J' := J1) (S' := S1) am_e291 rfl rfl rfl rfl ?_
  refine w_sa am_e291 rfl h.1 ?_
  replace h := h.2
  refine w_st (i' := 1093) (ls' := [.ref 1000000, .ref 0, .ref 99, .ref 145, .int x4, .int v1, d6]) (st' := [.ref 1000000, .int (E1.2.2.2 (x4 + (nI 1)).toNatClampNeg), .ref 99]) (E' := E1) (I' := I1) (J' := J1) (S' := S1) am_e291 rfl rfl rfl rfl ?_
  refine w_st (i' := 1094) (ls' := [.ref 1000000, .ref 0, .ref 99, .ref 145, .int x4, .int v1, d6]) (st' := [.int x4, .ref 1000000, .int (E1.2.2.2 (x4 + (nI 1)).toNatClampNeg), .ref 99]) (E' := E1) (I' := I1) (J' := J1) (S' := S1) am_e291 rfl rfl rfl rfl ?_
  refine w_st (i' := 1095) (ls' := [.ref 1000000, .ref 0, .ref 99, .ref 145, .int x4, .int v1, d6]) (st' := [.int (nI 2), .int x4, .ref 1000000, .int (E1.2.2.2 (x4 + (nI 1)).toNatClampNeg), .ref 99]) (E' := E1) (I' := I1) (J' := J1) (S' := S1) am_e291 rfl rfl rfl rfl ?_
  refine w_st (i' := 1096) (ls' := [.ref 1000000, .ref 0, .ref 99, .ref 145, .int x4, .int v1, d6]) (st' := [.int (x4 + (nI 2)), .ref 1000000, .int (E1.2.2.2 (x4 + (nI 1)).toNatClampNeg), .ref 99]) (E' := E1) (I' := I1) (J' := J1) (S' := S1) am_e291 rfl rfl rfl rfl ?_
  refine w_sa am_e291 rfl h.1 ?_
  replace h := h.2
  refine w_cI am_e291 rfl rfl (as := [.ref 99, .int (E1.2.2.2 (x4 + (nI 1)).toNatClampNeg), .int (E1.2.2.2 (x4 + (nI 2)).toNatClampNeg)]) (rest := []) rfl rfl (am_ww.mono h ?_)
  rintro _ E2 I2 J2 S2 ⟨v2, rfl, h⟩
  refine q_mkI ?_
  refine w_st (i' := 1099) (ls' := [.ref 1000000, .ref 0, .ref 99, .ref 145, .int x4, .int v1, .int v2]) (st' := []) (E' := E2) (I' := I2) (J' := J2) (S' := S2) am_e291 rfl rfl rfl rfl ?_
  refine w_st (i' := 1100) (ls' := [.ref 1000000, .ref 0, .ref 99, .ref 145, .int x4, .int v1, .int v2]) (st' := [.ref 99]) (E' := E2) (I' := I2) (J' := J2) (S' := S2) am_e291 rfl rfl rfl rfl ?_
  refine w_cI am_e291 rfl rfl (as := [.ref 99]) (rest := []) rfl rfl ?_
  show am_ww 186 0 [.ref 99] [] E2 I2 J2 S2 _
  refine w_st (i' := 1) (ls' := [.ref 99]) (st' := [.ref 99]) (E' := E2) (I' := I2) (J' := J2) (S' := S2) am_e186 rfl rfl rfl rfl ?_
  refine w_st (i' := 2) (ls' := [.ref 99]) (st' := [.int ((I2 99) 3)]) (E' := E2) (I' := I2) (J' := J2) (S' := S2) am_e186 rfl rfl rfl rfl ?_
  refine w_ri am_e186 rfl rfl (q_mkI ?_)
  show am_ww 291 1101 [.ref 1000000, .ref 0, .ref 99, .ref 145, .int x4, .int v1, .int v2] [.int ((I2 99) 3)] E2 I2 J2 S2 _
  refine w_st (i' := 1102) (ls' := [.ref 1000000, .ref 0, .ref 99, .ref 145, .int x4, .int v1, .int v2]) (st' := [.int v1, .int ((I2 99) 3)]) (E' := E2) (I' := I2) (J' := J2) (S' := S2) am_e291 rfl rfl rfl rfl ?_
  refine w_if2 am_e291 rfl rfl (fun c => ?_) (fun c => ?_)
  · replace h := h.1 (of_decide_eq_true c)
    refine w_st (i' := 1106) (ls' := [.ref 1000000, .ref 0, .ref 99, .ref 145, .int x4, .int v1, .int v2]) (st' := [.int v1]) (E' := E2) (I' := I2) (J' := J2) (S' := S2) am_e291 rfl rfl rfl rfl ?_
    refine w_if1 am_e291 rfl rfl (fun c => ?_) (fun c => ?_)
    · replace h := h.2 (of_decide_eq_true c)
      refine w_st (i' := 1129) (ls' := [.ref 1000000, .ref 0, .ref 99, .ref 145, .int x4, .int v1, .int v2]) (st' := []) (E' := E2) (I' := I2) (J' := J2) (S' := S2) am_e291 rfl rfl rfl rfl ?_
      exact h
    · replace h := h.1 (Decidable.not_not.mp (of_decide_eq_false c))
      refine w_st (i' := 1108) (ls' := [.ref 1000000, .ref 0, .ref 99, .ref 145, .int x4, .int v1, .int v2]) (st' := [.ref 145]) (E' := E2) (I' := I2) (J' := J2) (S' := S2) am_e291 rfl rfl rfl rfl ?_
      refine w_st (i' := 1109) (ls' := [.ref 1000000, .ref 0, .ref 99, .ref 145, .int x4, .int v1, .int v2]) (st' := [.int (nI 0), .ref 145]) (E' := E2) (I' := I2) (J' := J2) (S' := S2) am_e291 rfl rfl rfl rfl ?_
      refine w_la (k := 145) (n := 1) (jn := 0) am_e291 rfl rfl (by decide) (vp_in_nI (by decide) (by decide)) rfl ?_
      show am_ww 291 1110 [.ref 1000000, .ref 0, .ref 99, .ref 145, .int x4, .int v1, .int v2] [.long ((J2 145) 0)] E2 I2 J2 S2 _
      refine w_st (i' := 1111) (ls' := [.ref 1000000, .ref 0, .ref 99, .ref 145, .int x4, .int v1, .int v2]) (st' := [.int v2, .long ((J2 145) 0)]) (E' := E2) (I' := I2) (J' := J2) (S' := S2) am_e291 rfl rfl rfl rfl ?_
      refine w_st (i' := 1112) (ls' := [.ref 1000000, .ref 0, .ref 99, .ref 145, .int x4, .int v1, .int v2]) (st' := [.long v2.toInt64, .long ((J2 145) 0)]) (E' := E2) (I' := I2) (J' := J2) (S' := S2) am_e291 rfl rfl rfl rfl ?_
      refine w_st (i' := 1113) (ls' := [.ref 1000000, .ref 0, .ref 99, .ref 145, .int x4, .int v1, .int v2]) (st' := [.int (lg_cmp ((J2 145) 0) v2.toInt64)]) (E' := E2) (I' := I2) (J' := J2) (S' := S2) am_e291 rfl rfl rfl rfl ?_
      refine w_if1 am_e291 rfl rfl (fun c => ?_) (fun c => ?_)
      · replace h := h.1 (of_decide_eq_true c)
        refine w_st (i' := 1129) (ls' := [.ref 1000000, .ref 0, .ref 99, .ref 145, .int x4, .int v1, .int v2]) (st' := []) (E' := E2) (I' := I2) (J' := J2) (S' := S2) am_e291 rfl rfl rfl rfl ?_
        exact h
      · replace h := h.2 (of_decide_eq_false c)
        refine w_st (i' := 1115) (ls' := [.ref 1000000, .ref 0, .ref 99, .ref 145, .int x4, .int v1, .int v2]) (st' := [.int (nI 0)]) (E' := E2) (I' := I2) (J' := J2) (S' := S2) am_e291 rfl rfl rfl rfl ?_
        exact w_end am_e291 rfl rfl rfl h
  · replace h := h.2 (of_decide_eq_false c)
    refine w_st (i' := 1104) (ls' := [.ref 1000000, .ref 0, .ref 99, .ref 145, .int x4, .int v1, .int v2]) (st' := [.int (nI 0)]) (E' := E2) (I' := I2) (J' := J2) (S' := S2) am_e291 rfl rfl rfl rfl ?_
    exact w_end am_e291 rfl rfl rfl h
set_option maxRecDepth 12000 in
theorem g291_1117 {x4 : Int32} {d5 : Value} {d6 : Value} {E : am_Ev} {I : Nat → Nat → Int32} {J : Nat → Nat → Int64} {S : Nat → Nat → Option Nat} {Q : am_Qt} (hd5 : am_isL d5 = false) (hd6 : am_isL d6 = false) (h : am_cl 53 [.ref 0] E I J S (q_V fun E1 I1 J1 S1 => am_cl 288 [.ref 99] E1 I1 J1 S1 (q_V fun E2 I2 J2 S2 => am_ww 291 1129 [.ref 1000000, .ref 0, .ref 99, .ref 145, .int x4, d5, d6] [] E2 I2 J2 S2 Q))) : am_ww 291 1117 [.ref 1000000, .ref 0, .ref 99, .ref 145, .int x4, d5, d6] [] E I J S Q := by
  refine w_st (i' := 1118) (ls' := [.ref 1000000, .ref 0, .ref 99, .ref 145, .int x4, d5, d6]) (st' := [.ref 0]) (E' := E) (I' := I) (J' := J) (S' := S) am_e291 rfl rfl rfl rfl ?_
  refine w_cV am_e291 rfl rfl (as := [.ref 0]) (rest := []) rfl rfl (am_ww.mono h ?_)
  rintro _ E1 I1 J1 S1 ⟨rfl, h⟩
  refine q_mkV ?_
  refine w_st (i' := 1120) (ls' := [.ref 1000000, .ref 0, .ref 99, .ref 145, .int x4, d5, d6]) (st' := [.ref 99]) (E' := E1) (I' := I1) (J' := J1) (S' := S1) am_e291 rfl rfl rfl rfl ?_
  refine w_cV am_e291 rfl rfl (as := [.ref 99]) (rest := []) rfl rfl (am_ww.mono h ?_)
  rintro _ E2 I2 J2 S2 ⟨rfl, h⟩
  refine q_mkV ?_
  refine w_st (i' := 1129) (ls' := [.ref 1000000, .ref 0, .ref 99, .ref 145, .int x4, d5, d6]) (st' := []) (E' := E2) (I' := I2) (J' := J2) (S' := S2) am_e291 rfl rfl rfl rfl ?_
  exact h
set_option maxRecDepth 12000 in
theorem g291_1122 {x4 : Int32} {d5 : Value} {d6 : Value} {E : am_Ev} {I : Nat → Nat → Int32} {J : Nat → Nat → Int64} {S : Nat → Nat → Option Nat} {Q : am_Qt} (hd5 : am_isL d5 = false) (hd6 : am_isL d6 = false) (h : am_cl 57 [.ref 0] E I J S (q_I fun v1 E1 I1 J1 S1 => am_cl 290 [.ref 99] E1 I1 J1 S1 (q_I fun v2 E2 I2 J2 S2 => (v1 = v2 → (am_ww 291 1129 [.ref 1000000, .ref 0, .ref 99, .ref 145, .int x4, d5, d6] [] E2 I2 J2 S2 Q)) ∧ (¬ v1 = v2 → (Q (.inl (some (.int (nI 0)))) E2 I2 J2 S2))))) : am_ww 291 1122 [.ref 1000000, .ref 0, .ref 99, .ref 145, .int x4, d5, d6] [] E I J S Q := by
  refine w_st (i' := 1123) (ls' := [.ref 1000000, .ref 0, .ref 99, .ref 145, .int x4, d5, d6]) (st' := [.ref 0]) (E' := E) (I' := I) (J' := J) (S' := S) am_e291 rfl rfl rfl rfl ?_
  refine w_cI am_e291 rfl rfl (as := [.ref 0]) (rest := []) rfl rfl (am_ww.mono h ?_)
  rintro _ E1 I1 J1 S1 ⟨v1, rfl, h⟩
  refine q_mkI ?_
  refine w_st (i' := 1125) (ls' := [.ref 1000000, .ref 0, .ref 99, .ref 145, .int x4, d5, d6]) (st' := [.ref 99, .int v1]) (E' := E1) (I' := I1) (J' := J1) (S' := S1) am_e291 rfl rfl rfl rfl ?_
  refine w_cI am_e291 rfl rfl (as := [.ref 99]) (rest := [.int v1]) rfl rfl (am_ww.mono h ?_)
  rintro _ E2 I2 J2 S2 ⟨v2, rfl, h⟩
  refine q_mkI ?_
  refine w_if2 am_e291 rfl rfl (fun c => ?_) (fun c => ?_)
  · replace h := h.1 (of_decide_eq_true c)
    exact h
  · replace h := h.2 (of_decide_eq_false c)
    refine w_st (i' := 1128) (ls' := [.ref 1000000, .ref 0, .ref 99, .ref 145, .int x4, d5, d6]) (st' := [.int (nI 0)]) (E' := E2) (I' := I2) (J' := J2) (S' := S2) am_e291 rfl rfl rfl rfl ?_
    exact w_end am_e291 rfl rfl rfl h
set_option maxRecDepth 12000 in
theorem g291_1129 {x4 : Int32} {d5 : Value} {d6 : Value} {E : am_Ev} {I : Nat → Nat → Int32} {J : Nat → Nat → Int64} {S : Nat → Nat → Option Nat} {Q : am_Qt} (hd5 : am_isL d5 = false) (hd6 : am_isL d6 = false) (h : am_ww 291 13 [.ref 1000000, .ref 0, .ref 99, .ref 145, .int (x4 + nI 6), d5, d6] [] E I J S Q) : am_ww 291 1129 [.ref 1000000, .ref 0, .ref 99, .ref 145, .int x4, d5, d6] [] E I J S Q := by
  refine w_st (i' := 1130) (ls' := [.ref 1000000, .ref 0, .ref 99, .ref 145, .int (x4 + nI 6), d5, d6]) (st' := []) (E' := E) (I' := I) (J' := J) (S' := S) am_e291 rfl rfl rfl rfl ?_
  refine w_st (i' := 13) (ls' := [.ref 1000000, .ref 0, .ref 99, .ref 145, .int (x4 + nI 6), d5, d6]) (st' := []) (E' := E) (I' := I) (J' := J) (S' := S) am_e291 rfl rfl rfl rfl ?_
  exact h
