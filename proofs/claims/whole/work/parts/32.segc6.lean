/-! rows of methods, by program -/
-- 98 count
theorem g98_0 {p1 : Int32} {E : am_Ev} {I : Nat → Nat → Int32} {J : Nat → Nat → Int64} {S : Nat → Nat → Option Nat} {Q : am_Qt}  (h : (p1 = nI 0 → (Q (.inl (some (.int ((I 12) 5)))) E I J S)) ∧ (p1 = nI 1 → (Q (.inl (some (.int ((I 18) 10)))) E I J S)) ∧ (p1 = nI 2 → (Q (.inl (some (.int ((I 20) 6)))) E I J S)) ∧ (p1 = nI 3 → (Q (.inl (some (.int ((I 19) 2)))) E I J S)) ∧ (p1 = nI 4 → (Q (.inl (some (.int ((I 18) 9)))) E I J S)) ∧ (p1 = nI 5 → (am_cl 99 [.ref 26] E I J S (q_I fun v1 E1 I1 J1 S1 => Q (.inl (some (.int v1))) E1 I1 J1 S1))) ∧ (p1 = nI 6 → (∀ w2 : Int32, w2 = (if (nI 1) < ((I 17) 2) then ((I 17) 2) else (nI 1)) → ((¬ w2 = 0) ∧ (Q (.inl (some (.int (((I 18) 10) / w2)))) E I J S)))) ∧ (p1 = nI 7 → (am_cl 22 [.ref 20, .ref 12, .ref 28] E I J S (q_I fun v3 E3 I3 J3 S3 => Q (.inl (some (.int v3))) E3 I3 J3 S3))) ∧ (p1 = nI 8 → (am_cl 100 [.ref 20, .ref 12] E I J S (q_I fun v4 E4 I4 J4 S4 => Q (.inl (some (.int v4))) E4 I4 J4 S4))) ∧ (p1 = nI 9 → (am_cl 101 [.ref 0] E I J S (q_R fun a E5 I5 J5 S5 => a = 85 ∧ (Q (.inl (some (.int ((I5 85) 1)))) E5 I5 J5 S5)))) ∧ (p1 = nI 10 → (am_cl 101 [.ref 0] E I J S (q_R fun a E6 I6 J6 S6 => a = 85 ∧ (am_cl 105 [.ref 85, .int ((I6 18) 10)] E6 I6 J6 S6 (q_I fun v7 E7 I7 J7 S7 => Q (.inl (some (.int v7))) E7 I7 J7 S7))))) ∧ (p1 = nI 11 → (Q (.inl (some (.int ((I 18) 11)))) E I J S)) ∧ (p1 = nI 12 → (am_cl 107 [.ref 20, .ref 12] E I J S (q_I fun v8 E8 I8 J8 S8 => Q (.inl (some (.int v8))) E8 I8 J8 S8))) ∧ (p1 = nI 13 → (am_cl 99 [.ref 28] E I J S (q_I fun v9 E9 I9 J9 S9 => am_cl 99 [.ref 26] E9 I9 J9 S9 (q_I fun v10 E10 I10 J10 S10 => Q (.inl (some (.int (v9 - v10)))) E10 I10 J10 S10)))) ∧ (p1 = nI 14 → (Q (.inl (some (.int ((I 34) 4)))) E I J S)) ∧ (p1 = nI 15 → (Q (.inl (some (.int ((I 1) 1)))) E I J S)) ∧ (p1 = nI 16 → (Q (.inl (some (.int ((I 18) 12)))) E I J S)) ∧ (p1 = nI 17 → (Q (.inl (some (.int ((I 18) 13)))) E I J S)) ∧ (¬ p1 = nI 0 → ¬ p1 = nI 1 → ¬ p1 = nI 2 → ¬ p1 = nI 3 → ¬ p1 = nI 4 → ¬ p1 = nI 5 → ¬ p1 = nI 6 → ¬ p1 = nI 7 → ¬ p1 = nI 8 → ¬ p1 = nI 9 → ¬ p1 = nI 10 → ¬ p1 = nI 11 → ¬ p1 = nI 12 → ¬ p1 = nI 13 → ¬ p1 = nI 14 → ¬ p1 = nI 15 → ¬ p1 = nI 16 → ¬ p1 = nI 17 → (Q (.inr 0) (E.1 + 1, E.2.1 + 6, E.2.2) I J S))) : am_ww 98 0 [.ref 0, .int p1, am_U] [] E I J S Q := by
  refine w_st (i' := 1) (ls' := [.ref 0, .int p1, am_U]) (st' := [.ref 0]) (E' := E) (I' := I) (J' := J) (S' := S) am_e98 rfl rfl rfl rfl ?_
  refine w_st (i' := 2) (ls' := [.ref 0, .int p1, am_U]) (st' := [.ref 18]) (E' := E) (I' := I) (J' := J) (S' := S) am_e98 rfl rfl rfl rfl ?_
  refine w_st (i' := 3) (ls' := [.ref 0, .int p1, am_U]) (st' := [.ref 19]) (E' := E) (I' := I) (J' := J) (S' := S) am_e98 rfl rfl rfl rfl ?_
  refine w_st (i' := 4) (ls' := [.ref 0, .int p1, am_U]) (st' := [.ref 20]) (E' := E) (I' := I) (J' := J) (S' := S) am_e98 rfl rfl rfl rfl ?_
  refine w_st (i' := 5) (ls' := [.ref 0, .int p1, .ref 20]) (st' := []) (E' := E) (I' := I) (J' := J) (S' := S) am_e98 rfl rfl rfl rfl ?_
  refine w_st (i' := 6) (ls' := [.ref 0, .int p1, .ref 20]) (st' := [.int p1]) (E' := E) (I' := I) (J' := J) (S' := S) am_e98 rfl rfl rfl rfl ?_
  refine w_tb am_e98 rfl ?_
  by_cases c0 : p1 = nI 0
  · replace h := h.1 c0
    refine w_to (i2 := 7) (by rw [c0]; first | done | rfl) ?_
    refine w_st (i' := 8) (ls' := [.ref 0, .int p1, .ref 20]) (st' := [.ref 0]) (E' := E) (I' := I) (J' := J) (S' := S) am_e98 rfl rfl rfl rfl ?_
    refine w_st (i' := 9) (ls' := [.ref 0, .int p1, .ref 20]) (st' := [.ref 12]) (E' := E) (I' := I) (J' := J) (S' := S) am_e98 rfl rfl rfl rfl ?_
    refine w_st (i' := 10) (ls' := [.ref 0, .int p1, .ref 20]) (st' := [.int ((I 12) 5)]) (E' := E) (I' := I) (J' := J) (S' := S) am_e98 rfl rfl rfl rfl ?_
    exact w_ri am_e98 rfl rfl h
  by_cases c1 : p1 = nI 1
  · replace h := h.2.1 c1
    refine w_to (i2 := 11) (by rw [c1]; first | done | rfl) ?_
    refine w_st (i' := 12) (ls' := [.ref 0, .int p1, .ref 20]) (st' := [.ref 0]) (E' := E) (I' := I) (J' := J) (S' := S) am_e98 rfl rfl rfl rfl ?_
    refine w_st (i' := 13) (ls' := [.ref 0, .int p1, .ref 20]) (st' := [.ref 18]) (E' := E) (I' := I) (J' := J) (S' := S) am_e98 rfl rfl rfl rfl ?_
    refine w_st (i' := 14) (ls' := [.ref 0, .int p1, .ref 20]) (st' := [.int ((I 18) 10)]) (E' := E) (I' := I) (J' := J) (S' := S) am_e98 rfl rfl rfl rfl ?_
    exact w_ri am_e98 rfl rfl h
  by_cases c2 : p1 = nI 2
  · replace h := h.2.2.1 c2
    refine w_to (i2 := 15) (by rw [c2]; first | done | rfl) ?_
    refine w_st (i' := 16) (ls' := [.ref 0, .int p1, .ref 20]) (st' := [.ref 20]) (E' := E) (I' := I) (J' := J) (S' := S) am_e98 rfl rfl rfl rfl ?_
    refine w_st (i' := 17) (ls' := [.ref 0, .int p1, .ref 20]) (st' := [.int ((I 20) 6)]) (E' := E) (I' := I) (J' := J) (S' := S) am_e98 rfl rfl rfl rfl ?_
    exact w_ri am_e98 rfl rfl h
  by_cases c3 : p1 = nI 3
  · replace h := h.2.2.2.1 c3
    refine w_to (i2 := 18) (by rw [c3]; first | done | rfl) ?_
    refine w_st (i' := 19) (ls' := [.ref 0, .int p1, .ref 20]) (st' := [.ref 0]) (E' := E) (I' := I) (J' := J) (S' := S) am_e98 rfl rfl rfl rfl ?_
    refine w_st (i' := 20) (ls' := [.ref 0, .int p1, .ref 20]) (st' := [.ref 18]) (E' := E) (I' := I) (J' := J) (S' := S) am_e98 rfl rfl rfl rfl ?_
    refine w_st (i' := 21) (ls' := [.ref 0, .int p1, .ref 20]) (st' := [.ref 19]) (E' := E) (I' := I) (J' := J) (S' := S) am_e98 rfl rfl rfl rfl ?_
    refine w_st (i' := 22) (ls' := [.ref 0, .int p1, .ref 20]) (st' := [.int ((I 19) 2)]) (E' := E) (I' := I) (J' := J) (S' := S) am_e98 rfl rfl rfl rfl ?_
    exact w_ri am_e98 rfl rfl h
  by_cases c4 : p1 = nI 4
  · replace h := h.2.2.2.2.1 c4
    refine w_to (i2 := 23) (by rw [c4]; first | done | rfl) ?_
    refine w_st (i' := 24) (ls' := [.ref 0, .int p1, .ref 20]) (st' := [.ref 0]) (E' := E) (I' := I) (J' := J) (S' := S) am_e98 rfl rfl rfl rfl ?_
    refine w_st (i' := 25) (ls' := [.ref 0, .int p1, .ref 20]) (st' := [.ref 18]) (E' := E) (I' := I) (J' := J) (S' := S) am_e98 rfl rfl rfl rfl ?_
    refine w_st (i' := 26) (ls' := [.ref 0, .int p1, .ref 20]) (st' := [.int ((I 18) 9)]) (E' := E) (I' := I) (J' := J) (S' := S) am_e98 rfl rfl rfl rfl ?_
    exact w_ri am_e98 rfl rfl h
  by_cases c5 : p1 = nI 5
  · replace h := h.2.2.2.2.2.1 c5
    refine w_to (i2 := 27) (by rw [c5]; first | done | rfl) ?_
    refine w_st (i' := 28) (ls' := [.ref 0, .int p1, .ref 20]) (st' := [.ref 20]) (E' := E) (I' := I) (J' := J) (S' := S) am_e98 rfl rfl rfl rfl ?_
    refine w_st (i' := 29) (ls' := [.ref 0, .int p1, .ref 20]) (st' := [.ref 26]) (E' := E) (I' := I) (J' := J) (S' := S) am_e98 rfl rfl rfl rfl ?_
    refine w_cI am_e98 rfl rfl (as := [.ref 26]) (rest := []) rfl rfl (am_ww.mono h ?_)
    rintro _ E1 I1 J1 S1 ⟨v1, rfl, h⟩
    refine q_mkI ?_
    exact w_ri am_e98 rfl rfl h
  by_cases c6 : p1 = nI 6
  · replace h := h.2.2.2.2.2.2.1 c6
    refine w_to (i2 := 31) (by rw [c6]; first | done | rfl) ?_
    refine w_st (i' := 32) (ls' := [.ref 0, .int p1, .ref 20]) (st' := [.ref 0]) (E' := E) (I' := I) (J' := J) (S' := S) am_e98 rfl rfl rfl rfl ?_
    refine w_st (i' := 33) (ls' := [.ref 0, .int p1, .ref 20]) (st' := [.ref 18]) (E' := E) (I' := I) (J' := J) (S' := S) am_e98 rfl rfl rfl rfl ?_
    refine w_st (i' := 34) (ls' := [.ref 0, .int p1, .ref 20]) (st' := [.int ((I 18) 10)]) (E' := E) (I' := I) (J' := J) (S' := S) am_e98 rfl rfl rfl rfl ?_
    refine w_st (i' := 35) (ls' := [.ref 0, .int p1, .ref 20]) (st' := [.ref 0, .int ((I 18) 10)]) (E' := E) (I' := I) (J' := J) (S' := S) am_e98 rfl rfl rfl rfl ?_
    refine w_st (i' := 36) (ls' := [.ref 0, .int p1, .ref 20]) (st' := [.ref 12, .int ((I 18) 10)]) (E' := E) (I' := I) (J' := J) (S' := S) am_e98 rfl rfl rfl rfl ?_
    refine w_cI am_e98 rfl rfl (as := [.ref 12]) (rest := [.int ((I 18) 10)]) rfl rfl ?_
    show am_ww 39 0 [.ref 12] [] E I J S _
    refine w_st (i' := 1) (ls' := [.ref 12]) (st' := [.int (nI 1)]) (E' := E) (I' := I) (J' := J) (S' := S) am_e39 rfl rfl rfl rfl ?_
    refine w_st (i' := 2) (ls' := [.ref 12]) (st' := [.ref 12, .int (nI 1)]) (E' := E) (I' := I) (J' := J) (S' := S) am_e39 rfl rfl rfl rfl ?_
    refine w_st (i' := 3) (ls' := [.ref 12]) (st' := [.ref 17, .int (nI 1)]) (E' := E) (I' := I) (J' := J) (S' := S) am_e39 rfl rfl rfl rfl ?_
    refine w_st (i' := 4) (ls' := [.ref 12]) (st' := [.int (nI 2), .ref 17, .int (nI 1)]) (E' := E) (I' := I) (J' := J) (S' := S) am_e39 rfl rfl rfl rfl ?_
    refine w_ia (k := 17) (n := 4) (jn := 2) am_e39 rfl rfl (by decide) (vp_in_nI (by decide) (by decide)) rfl ?_
    show am_ww 39 5 [.ref 12] [.int ((I 17) 2), .int (nI 1)] E I J S _
    refine w_st (i' := 6) (ls' := [.ref 12]) (st' := [.int (if (nI 1) < ((I 17) 2) then ((I 17) 2) else (nI 1))]) (E' := E) (I' := I) (J' := J) (S' := S) am_e39 rfl rfl rfl rfl ?_
    refine w_ri am_e39 rfl rfl (q_mkI ?_)
    show am_ww 98 37 [.ref 0, .int p1, .ref 20] [.int (if (nI 1) < ((I 17) 2) then ((I 17) 2) else (nI 1)), .int ((I 18) 10)] E I J S _
    refine w_var (fun w2 => am_ww 98 37 [.ref 0, .int p1, .ref 20] [.int w2, .int ((I 18) 10)] E I J S _) (if (nI 1) < ((I 17) 2) then ((I 17) 2) else (nI 1)) (fun w2 hw2 => ?_)
    replace h := h w2 hw2
    refine w_dv h.1 am_e98 rfl ?_
    replace h := h.2
    exact w_ri am_e98 rfl rfl h
  by_cases c7 : p1 = nI 7
  · replace h := h.2.2.2.2.2.2.2.1 c7
    refine w_to (i2 := 39) (by rw [c7]; first | done | rfl) ?_
    refine w_st (i' := 40) (ls' := [.ref 0, .int p1, .ref 20]) (st' := [.ref 20]) (E' := E) (I' := I) (J' := J) (S' := S) am_e98 rfl rfl rfl rfl ?_
    refine w_st (i' := 41) (ls' := [.ref 0, .int p1, .ref 20]) (st' := [.ref 0, .ref 20]) (E' := E) (I' := I) (J' := J) (S' := S) am_e98 rfl rfl rfl rfl ?_
    refine w_st (i' := 42) (ls' := [.ref 0, .int p1, .ref 20]) (st' := [.ref 12, .ref 20]) (E' := E) (I' := I) (J' := J) (S' := S) am_e98 rfl rfl rfl rfl ?_
    refine w_st (i' := 43) (ls' := [.ref 0, .int p1, .ref 20]) (st' := [.ref 0, .ref 12, .ref 20]) (E' := E) (I' := I) (J' := J) (S' := S) am_e98 rfl rfl rfl rfl ?_
    refine w_st (i' := 44) (ls' := [.ref 0, .int p1, .ref 20]) (st' := [.ref 18, .ref 12, .ref 20]) (E' := E) (I' := I) (J' := J) (S' := S) am_e98 rfl rfl rfl rfl ?_
    refine w_st (i' := 45) (ls' := [.ref 0, .int p1, .ref 20]) (st' := [.ref 28, .ref 12, .ref 20]) (E' := E) (I' := I) (J' := J) (S' := S) am_e98 rfl rfl rfl rfl ?_
    refine w_cI am_e98 rfl rfl (as := [.ref 20, .ref 12, .ref 28]) (rest := []) rfl rfl (am_ww.mono h ?_)
    rintro _ E3 I3 J3 S3 ⟨v3, rfl, h⟩
    refine q_mkI ?_
    exact w_ri am_e98 rfl rfl h
  by_cases c8 : p1 = nI 8
  · replace h := h.2.2.2.2.2.2.2.2.1 c8
    refine w_to (i2 := 47) (by rw [c8]; first | done | rfl) ?_
    refine w_st (i' := 48) (ls' := [.ref 0, .int p1, .ref 20]) (st' := [.ref 20]) (E' := E) (I' := I) (J' := J) (S' := S) am_e98 rfl rfl rfl rfl ?_
    refine w_st (i' := 49) (ls' := [.ref 0, .int p1, .ref 20]) (st' := [.ref 0, .ref 20]) (E' := E) (I' := I) (J' := J) (S' := S) am_e98 rfl rfl rfl rfl ?_
    refine w_st (i' := 50) (ls' := [.ref 0, .int p1, .ref 20]) (st' := [.ref 12, .ref 20]) (E' := E) (I' := I) (J' := J) (S' := S) am_e98 rfl rfl rfl rfl ?_
    refine w_cI am_e98 rfl rfl (as := [.ref 20, .ref 12]) (rest := []) rfl rfl (am_ww.mono h ?_)
    rintro _ E4 I4 J4 S4 ⟨v4, rfl, h⟩
    refine q_mkI ?_
    exact w_ri am_e98 rfl rfl h
  by_cases c9 : p1 = nI 9
  · replace h := h.2.2.2.2.2.2.2.2.2.1 c9
    refine w_to (i2 := 52) (by rw [c9]; first | done | rfl) ?_
    refine w_st (i' := 53) (ls' := [.ref 0, .int p1, .ref 20]) (st' := [.ref 0]) (E' := E) (I' := I) (J' := J) (S' := S) am_e98 rfl rfl rfl rfl ?_
    refine w_cR am_e98 rfl rfl (as := [.ref 0]) (rest := []) rfl rfl (am_ww.mono h ?_)
    rintro _ E5 I5 J5 S5 ⟨_, rfl, rfl, h⟩
    refine q_mkR ?_
    refine w_st (i' := 55) (ls' := [.ref 0, .int p1, .ref 20]) (st' := [.int ((I5 85) 1)]) (E' := E5) (I' := I5) (J' := J5) (S' := S5) am_e98 rfl rfl rfl rfl ?_
    exact w_ri am_e98 rfl rfl h
  by_cases c10 : p1 = nI 10
  · replace h := h.2.2.2.2.2.2.2.2.2.2.1 c10
    refine w_to (i2 := 56) (by rw [c10]; first | done | rfl) ?_
    refine w_st (i' := 57) (ls' := [.ref 0, .int p1, .ref 20]) (st' := [.ref 0]) (E' := E) (I' := I) (J' := J) (S' := S) am_e98 rfl rfl rfl rfl ?_
    refine w_cR am_e98 rfl rfl (as := [.ref 0]) (rest := []) rfl rfl (am_ww.mono h ?_)
    rintro _ E6 I6 J6 S6 ⟨_, rfl, rfl, h⟩
    refine q_mkR ?_
    refine w_st (i' := 59) (ls' := [.ref 0, .int p1, .ref 20]) (st' := [.ref 0, .ref 85]) (E' := E6) (I' := I6) (J' := J6) (S' := S6) am_e98 rfl rfl rfl rfl ?_
    refine w_st (i' := 60) (ls' := [.ref 0, .int p1, .ref 20]) (st' := [.ref 18, .ref 85]) (E' := E6) (I' := I6) (J' := J6) (S' := S6) am_e98 rfl rfl rfl rfl ?_
    refine w_st (i' := 61) (ls' := [.ref 0, .int p1, .ref 20]) (st' := [.int ((I6 18) 10), .ref 85]) (E' := E6) (I' := I6) (J' := J6) (S' := S6) am_e98 rfl rfl rfl rfl ?_
    refine w_cI am_e98 rfl rfl (as := [.ref 85, .int ((I6 18) 10)]) (rest := []) rfl rfl (am_ww.mono h ?_)
    rintro _ E7 I7 J7 S7 ⟨v7, rfl, h⟩
    refine q_mkI ?_
    exact w_ri am_e98 rfl rfl h
  by_cases c11 : p1 = nI 11
  · replace h := h.2.2.2.2.2.2.2.2.2.2.2.1 c11
    refine w_to (i2 := 63) (by rw [c11]; first | done | rfl) ?_
    refine w_st (i' := 64) (ls' := [.ref 0, .int p1, .ref 20]) (st' := [.ref 0]) (E' := E) (I' := I) (J' := J) (S' := S) am_e98 rfl rfl rfl rfl ?_
    refine w_st (i' := 65) (ls' := [.ref 0, .int p1, .ref 20]) (st' := [.ref 18]) (E' := E) (I' := I) (J' := J) (S' := S) am_e98 rfl rfl rfl rfl ?_
    refine w_st (i' := 66) (ls' := [.ref 0, .int p1, .ref 20]) (st' := [.int ((I 18) 11)]) (E' := E) (I' := I) (J' := J) (S' := S) am_e98 rfl rfl rfl rfl ?_
    exact w_ri am_e98 rfl rfl h
  by_cases c12 : p1 = nI 12
  · replace h := h.2.2.2.2.2.2.2.2.2.2.2.2.1 c12
    refine w_to (i2 := 67) (by rw [c12]; first | done | rfl) ?_
    refine w_st (i' := 68) (ls' := [.ref 0, .int p1, .ref 20]) (st' := [.ref 20]) (E' := E) (I' := I) (J' := J) (S' := S) am_e98 rfl rfl rfl rfl ?_
    refine w_st (i' := 69) (ls' := [.ref 0, .int p1, .ref 20]) (st' := [.ref 0, .ref 20]) (E' := E) (I' := I) (J' := J) (S' := S) am_e98 rfl rfl rfl rfl ?_
    refine w_st (i' := 70) (ls' := [.ref 0, .int p1, .ref 20]) (st' := [.ref 12, .ref 20]) (E' := E) (I' := I) (J' := J) (S' := S) am_e98 rfl rfl rfl rfl ?_
    refine w_cI am_e98 rfl rfl (as := [.ref 20, .ref 12]) (rest := []) rfl rfl (am_ww.mono h ?_)
    rintro _ E8 I8 J8 S8 ⟨v8, rfl, h⟩
    refine q_mkI ?_
    exact w_ri am_e98 rfl rfl h
  by_cases c13 : p1 = nI 13
  · replace h := h.2.2.2.2.2.2.2.2.2.2.2.2.2.1 c13
    refine w_to (i2 := 72) (by rw [c13]; first | done | rfl) ?_
    refine w_st (i' := 73) (ls' := [.ref 0, .int p1, .ref 20]) (st' := [.ref 0]) (E' := E) (I' := I) (J' := J) (S' := S) am_e98 rfl rfl rfl rfl ?_
    refine w_st (i' := 74) (ls' := [.ref 0, .int p1, .ref 20]) (st' := [.ref 18]) (E' := E) (I' := I) (J' := J) (S' := S) am_e98 rfl rfl rfl rfl ?_
    refine w_st (i' := 75) (ls' := [.ref 0, .int p1, .ref 20]) (st' := [.ref 28]) (E' := E) (I' := I) (J' := J) (S' := S) am_e98 rfl rfl rfl rfl ?_
    refine w_cI am_e98 rfl rfl (as := [.ref 28]) (rest := []) rfl rfl (am_ww.mono h ?_)
    rintro _ E9 I9 J9 S9 ⟨v9, rfl, h⟩
    refine q_mkI ?_
    refine w_st (i' := 77) (ls' := [.ref 0, .int p1, .ref 20]) (st' := [.ref 20, .int v9]) (E' := E9) (I' := I9) (J' := J9) (S' := S9) am_e98 rfl rfl rfl rfl ?_
    refine w_st (i' := 78) (ls' := [.ref 0, .int p1, .ref 20]) (st' := [.ref 26, .int v9]) (E' := E9) (I' := I9) (J' := J9) (S' := S9) am_e98 rfl rfl rfl rfl ?_
    refine w_cI am_e98 rfl rfl (as := [.ref 26]) (rest := [.int v9]) rfl rfl (am_ww.mono h ?_)
    rintro _ E10 I10 J10 S10 ⟨v10, rfl, h⟩
    refine q_mkI ?_
    refine w_st (i' := 80) (ls' := [.ref 0, .int p1, .ref 20]) (st' := [.int (v9 - v10)]) (E' := E10) (I' := I10) (J' := J10) (S' := S10) am_e98 rfl rfl rfl rfl ?_
    exact w_ri am_e98 rfl rfl h
  by_cases c14 : p1 = nI 14
  · replace h := h.2.2.2.2.2.2.2.2.2.2.2.2.2.2.1 c14
    refine w_to (i2 := 81) (by rw [c14]; first | done | rfl) ?_
    refine w_st (i' := 82) (ls' := [.ref 0, .int p1, .ref 20]) (st' := [.ref 0]) (E' := E) (I' := I) (J' := J) (S' := S) am_e98 rfl rfl rfl rfl ?_
    refine w_st (i' := 83) (ls' := [.ref 0, .int p1, .ref 20]) (st' := [.ref 18]) (E' := E) (I' := I) (J' := J) (S' := S) am_e98 rfl rfl rfl rfl ?_
    refine w_st (i' := 84) (ls' := [.ref 0, .int p1, .ref 20]) (st' := [.ref 34]) (E' := E) (I' := I) (J' := J) (S' := S) am_e98 rfl rfl rfl rfl ?_
    refine w_st (i' := 85) (ls' := [.ref 0, .int p1, .ref 20]) (st' := [.int ((I 34) 4)]) (E' := E) (I' := I) (J' := J) (S' := S) am_e98 rfl rfl rfl rfl ?_
    exact w_ri am_e98 rfl rfl h
  by_cases c15 : p1 = nI 15
  · replace h := h.2.2.2.2.2.2.2.2.2.2.2.2.2.2.2.1 c15
    refine w_to (i2 := 86) (by rw [c15]; first | done | rfl) ?_
    refine w_st (i' := 87) (ls' := [.ref 0, .int p1, .ref 20]) (st' := [.ref 0]) (E' := E) (I' := I) (J' := J) (S' := S) am_e98 rfl rfl rfl rfl ?_
    refine w_st (i' := 88) (ls' := [.ref 0, .int p1, .ref 20]) (st' := [.ref 1]) (E' := E) (I' := I) (J' := J) (S' := S) am_e98 rfl rfl rfl rfl ?_
    refine w_st (i' := 89) (ls' := [.ref 0, .int p1, .ref 20]) (st' := [.int ((I 1) 1)]) (E' := E) (I' := I) (J' := J) (S' := S) am_e98 rfl rfl rfl rfl ?_
    exact w_ri am_e98 rfl rfl h
  by_cases c16 : p1 = nI 16
  · replace h := h.2.2.2.2.2.2.2.2.2.2.2.2.2.2.2.2.1 c16
    refine w_to (i2 := 90) (by rw [c16]; first | done | rfl) ?_
    refine w_st (i' := 91) (ls' := [.ref 0, .int p1, .ref 20]) (st' := [.ref 0]) (E' := E) (I' := I) (J' := J) (S' := S) am_e98 rfl rfl rfl rfl ?_
    refine w_st (i' := 92) (ls' := [.ref 0, .int p1, .ref 20]) (st' := [.ref 18]) (E' := E) (I' := I) (J' := J) (S' := S) am_e98 rfl rfl rfl rfl ?_
    refine w_st (i' := 93) (ls' := [.ref 0, .int p1, .ref 20]) (st' := [.int ((I 18) 12)]) (E' := E) (I' := I) (J' := J) (S' := S) am_e98 rfl rfl rfl rfl ?_
    exact w_ri am_e98 rfl rfl h
  by_cases c17 : p1 = nI 17
  · replace h := h.2.2.2.2.2.2.2.2.2.2.2.2.2.2.2.2.2.1 c17
    refine w_to (i2 := 94) (by rw [c17]; first | done | rfl) ?_
    refine w_st (i' := 95) (ls' := [.ref 0, .int p1, .ref 20]) (st' := [.ref 0]) (E' := E) (I' := I) (J' := J) (S' := S) am_e98 rfl rfl rfl rfl ?_
    refine w_st (i' := 96) (ls' := [.ref 0, .int p1, .ref 20]) (st' := [.ref 18]) (E' := E) (I' := I) (J' := J) (S' := S) am_e98 rfl rfl rfl rfl ?_
    refine w_st (i' := 97) (ls' := [.ref 0, .int p1, .ref 20]) (st' := [.int ((I 18) 13)]) (E' := E) (I' := I) (J' := J) (S' := S) am_e98 rfl rfl rfl rfl ?_
    exact w_ri am_e98 rfl rfl h
  replace h := h.2.2.2.2.2.2.2.2.2.2.2.2.2.2.2.2.2.2 c0 c1 c2 c3 c4 c5 c6 c7 c8 c9 c10 c11 c12 c13 c14 c15 c16 c17
  refine w_to (i2 := 98) (am_tb_out (lo := 0) (up := 17) (by intro q h1 h2; have : q = 0 ∨ q = 1 ∨ q = 2 ∨ q = 3 ∨ q = 4 ∨ q = 5 ∨ q = 6 ∨ q = 7 ∨ q = 8 ∨ q = 9 ∨ q = 10 ∨ q = 11 ∨ q = 12 ∨ q = 13 ∨ q = 14 ∨ q = 15 ∨ q = 16 ∨ q = 17 := (by omega); rcases this with rfl | rfl | rfl | rfl | rfl | rfl | rfl | rfl | rfl | rfl | rfl | rfl | rfl | rfl | rfl | rfl | rfl | rfl <;> assumption)) ?_
  exact w_end (r := .inr 0) (E' := (E.1 + 1, E.2.1 + 6, E.2.2)) am_e98 rfl rfl rfl h
-- 110 set
theorem g110_0 {p1 : Int32} {E : am_Ev} {I : Nat → Nat → Int32} {J : Nat → Nat → Int64} {S : Nat → Nat → Option Nat} {Q : am_Qt}  (h : (p1 < 0 → (Q (.inr 0) (E.1 + 1, E.2.1 + 6, E.2.2) I J S)) ∧ (¬ p1 < 0 → ((p1 ≤ (nI 3) → (vp_in p1 4 ∧ (Q (.inl (some (.int ((I 17) p1.toNatClampNeg)))) E I J S))) ∧ (¬ p1 ≤ (nI 3) → (Q (.inr 0) (E.1 + 1, E.2.1 + 6, E.2.2) I J S))))) : am_ww 110 0 [.ref 0, .int p1] [] E I J S Q := by
  refine w_st (i' := 1) (ls' := [.ref 0, .int p1]) (st' := [.int p1]) (E' := E) (I' := I) (J' := J) (S' := S) am_e110 rfl rfl rfl rfl ?_
  refine w_if1 am_e110 rfl rfl (fun c => ?_) (fun c => ?_)
  · replace h := h.1 (of_decide_eq_true c)
    exact w_end (r := .inr 0) (E' := (E.1 + 1, E.2.1 + 6, E.2.2)) am_e110 rfl rfl rfl h
  · replace h := h.2 (of_decide_eq_false c)
    refine w_st (i' := 3) (ls' := [.ref 0, .int p1]) (st' := [.int p1]) (E' := E) (I' := I) (J' := J) (S' := S) am_e110 rfl rfl rfl rfl ?_
    refine w_st (i' := 4) (ls' := [.ref 0, .int p1]) (st' := [.int (nI 3), .int p1]) (E' := E) (I' := I) (J' := J) (S' := S) am_e110 rfl rfl rfl rfl ?_
    refine w_if2 am_e110 rfl rfl (fun c => ?_) (fun c => ?_)
    · replace h := h.1 (of_decide_eq_true c)
      refine w_st (i' := 11) (ls' := [.ref 0, .int p1]) (st' := [.ref 0]) (E' := E) (I' := I) (J' := J) (S' := S) am_e110 rfl rfl rfl rfl ?_
      refine w_st (i' := 12) (ls' := [.ref 0, .int p1]) (st' := [.ref 12]) (E' := E) (I' := I) (J' := J) (S' := S) am_e110 rfl rfl rfl rfl ?_
      refine w_st (i' := 13) (ls' := [.ref 0, .int p1]) (st' := [.ref 17]) (E' := E) (I' := I) (J' := J) (S' := S) am_e110 rfl rfl rfl rfl ?_
      refine w_st (i' := 14) (ls' := [.ref 0, .int p1]) (st' := [.int p1, .ref 17]) (E' := E) (I' := I) (J' := J) (S' := S) am_e110 rfl rfl rfl rfl ?_
      have hf1 := h.1
      replace h := h.2
      refine w_ia (k := 17) (n := 4) (jn := p1.toNatClampNeg) am_e110 rfl rfl (by decide) hf1 rfl ?_
      exact w_ri am_e110 rfl rfl h
    · replace h := h.2 (of_decide_eq_false c)
      exact w_end (r := .inr 0) (E' := (E.1 + 1, E.2.1 + 6, E.2.2)) am_e110 rfl rfl rfl h
-- 112 switched
theorem g112_0 {p1 : Int32} {p2 : Int32} {E : am_Ev} {I : Nat → Nat → Int32} {J : Nat → Nat → Int64} {S : Nat → Nat → Option Nat} {Q : am_Qt}  (h : (p1 < 0 → (Q (.inr 0) (E.1 + 1, E.2.1 + 6, E.2.2) I J S)) ∧ (¬ p1 < 0 → ((p1 < ((I 18) 9) → ((p2 = nI 0 → (vp_in p1 400 ∧ (Q (.inl (some (.int ((I 29) p1.toNatClampNeg)))) E I J S))) ∧ (p2 = nI 1 → (vp_in p1 400 ∧ (Q (.inl (some (.int ((I 30) p1.toNatClampNeg)))) E I J S))) ∧ (p2 = nI 2 → (vp_in p1 400 ∧ (Q (.inl (some (.int ((I 31) p1.toNatClampNeg)))) E I J S))) ∧ (¬ p2 = nI 0 → ¬ p2 = nI 1 → ¬ p2 = nI 2 → (Q (.inr 0) (E.1 + 1, E.2.1 + 6, E.2.2) I J S)))) ∧ (¬ p1 < ((I 18) 9) → (Q (.inr 0) (E.1 + 1, E.2.1 + 6, E.2.2) I J S))))) : am_ww 112 0 [.ref 0, .int p1, .int p2] [] E I J S Q := by
  refine w_st (i' := 1) (ls' := [.ref 0, .int p1, .int p2]) (st' := [.int p1]) (E' := E) (I' := I) (J' := J) (S' := S) am_e112 rfl rfl rfl rfl ?_
  refine w_if1 am_e112 rfl rfl (fun c => ?_) (fun c => ?_)
  · replace h := h.1 (of_decide_eq_true c)
    exact w_end (r := .inr 0) (E' := (E.1 + 1, E.2.1 + 6, E.2.2)) am_e112 rfl rfl rfl h
  · replace h := h.2 (of_decide_eq_false c)
    refine w_st (i' := 3) (ls' := [.ref 0, .int p1, .int p2]) (st' := [.int p1]) (E' := E) (I' := I) (J' := J) (S' := S) am_e112 rfl rfl rfl rfl ?_
    refine w_st (i' := 4) (ls' := [.ref 0, .int p1, .int p2]) (st' := [.ref 0, .int p1]) (E' := E) (I' := I) (J' := J) (S' := S) am_e112 rfl rfl rfl rfl ?_
    refine w_st (i' := 5) (ls' := [.ref 0, .int p1, .int p2]) (st' := [.ref 18, .int p1]) (E' := E) (I' := I) (J' := J) (S' := S) am_e112 rfl rfl rfl rfl ?_
    refine w_st (i' := 6) (ls' := [.ref 0, .int p1, .int p2]) (st' := [.int ((I 18) 9), .int p1]) (E' := E) (I' := I) (J' := J) (S' := S) am_e112 rfl rfl rfl rfl ?_
    refine w_if2 am_e112 rfl rfl (fun c => ?_) (fun c => ?_)
    · replace h := h.1 (of_decide_eq_true c)
      refine w_st (i' := 13) (ls' := [.ref 0, .int p1, .int p2]) (st' := [.int p2]) (E' := E) (I' := I) (J' := J) (S' := S) am_e112 rfl rfl rfl rfl ?_
      refine w_tb am_e112 rfl ?_
      by_cases c0 : p2 = nI 0
      · replace h := h.1 c0
        refine w_to (i2 := 14) (by rw [c0]; first | done | rfl) ?_
        refine w_st (i' := 15) (ls' := [.ref 0, .int p1, .int p2]) (st' := [.ref 0]) (E' := E) (I' := I) (J' := J) (S' := S) am_e112 rfl rfl rfl rfl ?_
        refine w_st (i' := 16) (ls' := [.ref 0, .int p1, .int p2]) (st' := [.ref 18]) (E' := E) (I' := I) (J' := J) (S' := S) am_e112 rfl rfl rfl rfl ?_
        refine w_st (i' := 17) (ls' := [.ref 0, .int p1, .int p2]) (st' := [.ref 29]) (E' := E) (I' := I) (J' := J) (S' := S) am_e112 rfl rfl rfl rfl ?_
        refine w_st (i' := 18) (ls' := [.ref 0, .int p1, .int p2]) (st' := [.int p1, .ref 29]) (E' := E) (I' := I) (J' := J) (S' := S) am_e112 rfl rfl rfl rfl ?_
        have hf1 := h.1
        replace h := h.2
        refine w_ia (k := 29) (n := 400) (jn := p1.toNatClampNeg) am_e112 rfl rfl (by decide) hf1 rfl ?_
        exact w_ri am_e112 rfl rfl h
      by_cases c1 : p2 = nI 1
      · replace h := h.2.1 c1
        refine w_to (i2 := 20) (by rw [c1]; first | done | rfl) ?_
        refine w_st (i' := 21) (ls' := [.ref 0, .int p1, .int p2]) (st' := [.ref 0]) (E' := E) (I' := I) (J' := J) (S' := S) am_e112 rfl rfl rfl rfl ?_
        refine w_st (i' := 22) (ls' := [.ref 0, .int p1, .int p2]) (st' := [.ref 18]) (E' := E) (I' := I) (J' := J) (S' := S) am_e112 rfl rfl rfl rfl ?_
        refine w_st (i' := 23) (ls' := [.ref 0, .int p1, .int p2]) (st' := [.ref 30]) (E' := E) (I' := I) (J' := J) (S' := S) am_e112 rfl rfl rfl rfl ?_
        refine w_st (i' := 24) (ls' := [.ref 0, .int p1, .int p2]) (st' := [.int p1, .ref 30]) (E' := E) (I' := I) (J' := J) (S' := S) am_e112 rfl rfl rfl rfl ?_
        have hf2 := h.1
        replace h := h.2
        refine w_ia (k := 30) (n := 400) (jn := p1.toNatClampNeg) am_e112 rfl rfl (by decide) hf2 rfl ?_
        exact w_ri am_e112 rfl rfl h
      by_cases c2 : p2 = nI 2
      · replace h := h.2.2.1 c2
        refine w_to (i2 := 26) (by rw [c2]; first | done | rfl) ?_
        refine w_st (i' := 27) (ls' := [.ref 0, .int p1, .int p2]) (st' := [.ref 0]) (E' := E) (I' := I) (J' := J) (S' := S) am_e112 rfl rfl rfl rfl ?_
        refine w_st (i' := 28) (ls' := [.ref 0, .int p1, .int p2]) (st' := [.ref 18]) (E' := E) (I' := I) (J' := J) (S' := S) am_e112 rfl rfl rfl rfl ?_
        refine w_st (i' := 29) (ls' := [.ref 0, .int p1, .int p2]) (st' := [.ref 31]) (E' := E) (I' := I) (J' := J) (S' := S) am_e112 rfl rfl rfl rfl ?_
        refine w_st (i' := 30) (ls' := [.ref 0, .int p1, .int p2]) (st' := [.int p1, .ref 31]) (E' := E) (I' := I) (J' := J) (S' := S) am_e112 rfl rfl rfl rfl ?_
        have hf3 := h.1
        replace h := h.2
        refine w_ia (k := 31) (n := 400) (jn := p1.toNatClampNeg) am_e112 rfl rfl (by decide) hf3 rfl ?_
        exact w_ri am_e112 rfl rfl h
      replace h := h.2.2.2 c0 c1 c2
      refine w_to (i2 := 32) (am_tb_out (lo := 0) (up := 2) (by intro q h1 h2; have : q = 0 ∨ q = 1 ∨ q = 2 := (by omega); rcases this with rfl | rfl | rfl <;> assumption)) ?_
      exact w_end (r := .inr 0) (E' := (E.1 + 1, E.2.1 + 6, E.2.2)) am_e112 rfl rfl rfl h
    · replace h := h.2 (of_decide_eq_false c)
      exact w_end (r := .inr 0) (E' := (E.1 + 1, E.2.1 + 6, E.2.2)) am_e112 rfl rfl rfl h
-- 114 input
theorem g114_0 {p1 : Int32} {p2 : Int32} {E : am_Ev} {I : Nat → Nat → Int32} {J : Nat → Nat → Int64} {S : Nat → Nat → Option Nat} {Q : am_Qt}  (h : (p1 < 0 → (Q (.inr 0) (E.1 + 1, E.2.1 + 6, E.2.2) I J S)) ∧ (¬ p1 < 0 → (((nI 3) ≤ p1 → (Q (.inr 0) (E.1 + 1, E.2.1 + 6, E.2.2) I J S)) ∧ (¬ (nI 3) ≤ p1 → ((p2 < 0 → (Q (.inr 0) (E.1 + 1, E.2.1 + 6, E.2.2) I J S)) ∧ (¬ p2 < 0 → (vp_in p1 3 ∧ ((((I 26) p1.toNatClampNeg) ≤ p2 → (Q (.inr 0) (E.1 + 1, E.2.1 + 6, E.2.2) I J S)) ∧ (¬ ((I 26) p1.toNatClampNeg) ≤ p2 → (vp_in ((p1 * (nI 30)) + p2) 90 ∧ (Q (.inl (some (.int ((I 27) (((p1 * (nI 30)) + p2).toNatClampNeg))))) E I J S))))))))))) : am_ww 114 0 [.ref 0, .int p1, .int p2] [] E I J S Q := by
  refine w_st (i' := 1) (ls' := [.ref 0, .int p1, .int p2]) (st' := [.ref 0]) (E' := E) (I' := I) (J' := J) (S' := S) am_e114 rfl rfl rfl rfl ?_
  refine w_st (i' := 2) (ls' := [.ref 0, .int p1, .int p2]) (st' := [.int p1, .ref 0]) (E' := E) (I' := I) (J' := J) (S' := S) am_e114 rfl rfl rfl rfl ?_
  refine w_st (i' := 3) (ls' := [.ref 0, .int p1, .int p2]) (st' := [.int p2, .int p1, .ref 0]) (E' := E) (I' := I) (J' := J) (S' := S) am_e114 rfl rfl rfl rfl ?_
  refine w_cI am_e114 rfl rfl (as := [.ref 0, .int p1, .int p2]) (rest := []) rfl rfl ?_
  show am_ww 115 0 [.ref 0, .int p1, .int p2] [] E I J S _
  refine w_st (i' := 1) (ls' := [.ref 0, .int p1, .int p2]) (st' := [.int p1]) (E' := E) (I' := I) (J' := J) (S' := S) am_e115 rfl rfl rfl rfl ?_
  refine w_cI am_e115 rfl rfl (as := [.int p1]) (rest := []) rfl rfl ?_
  show am_ww 43 0 [.int p1] [] E I J S _
  refine w_st (i' := 1) (ls' := [.int p1]) (st' := [.int p1]) (E' := E) (I' := I) (J' := J) (S' := S) am_e43 rfl rfl rfl rfl ?_
  refine w_if1 am_e43 rfl rfl (fun c => ?_) (fun c => ?_)
  · replace h := h.1 (of_decide_eq_true c)
    refine w_st (i' := 8) (ls' := [.int p1]) (st' := [.int (nI 0)]) (E' := E) (I' := I) (J' := J) (S' := S) am_e43 rfl rfl rfl rfl ?_
    refine w_end (E' := E) (I' := I) (J' := J) (S' := S) am_e43 rfl rfl rfl (q_mkI ?_)
    show am_ww 115 2 [.ref 0, .int p1, .int p2] [.int (nI 0)] E I J S _
    refine w_st (i' := 16) (ls' := [.ref 0, .int p1, .int p2]) (st' := []) (E' := E) (I' := I) (J' := J) (S' := S) am_e115 rfl rfl rfl rfl ?_
    refine w_st (i' := 17) (ls' := [.ref 0, .int p1, .int p2]) (st' := [.int (nI 0)]) (E' := E) (I' := I) (J' := J) (S' := S) am_e115 rfl rfl rfl rfl ?_
    refine w_end (E' := E) (I' := I) (J' := J) (S' := S) am_e115 rfl rfl rfl (q_mkI ?_)
    show am_ww 114 4 [.ref 0, .int p1, .int p2] [.int (nI 0)] E I J S _
    refine w_st (i' := 5) (ls' := [.ref 0, .int p1, .int p2]) (st' := []) (E' := E) (I' := I) (J' := J) (S' := S) am_e114 rfl rfl rfl rfl ?_
    exact w_end (r := .inr 0) (E' := (E.1 + 1, E.2.1 + 6, E.2.2)) am_e114 rfl rfl rfl h
  · replace h := h.2 (of_decide_eq_false c)
    refine w_st (i' := 3) (ls' := [.int p1]) (st' := [.int p1]) (E' := E) (I' := I) (J' := J) (S' := S) am_e43 rfl rfl rfl rfl ?_
    refine w_st (i' := 4) (ls' := [.int p1]) (st' := [.int (nI 3), .int p1]) (E' := E) (I' := I) (J' := J) (S' := S) am_e43 rfl rfl rfl rfl ?_
    refine w_if2 am_e43 rfl rfl (fun c => ?_) (fun c => ?_)
    · replace h := h.1 (of_decide_eq_true c)
      refine w_st (i' := 8) (ls' := [.int p1]) (st' := [.int (nI 0)]) (E' := E) (I' := I) (J' := J) (S' := S) am_e43 rfl rfl rfl rfl ?_
      refine w_end (E' := E) (I' := I) (J' := J) (S' := S) am_e43 rfl rfl rfl (q_mkI ?_)
      show am_ww 115 2 [.ref 0, .int p1, .int p2] [.int (nI 0)] E I J S _
      refine w_st (i' := 16) (ls' := [.ref 0, .int p1, .int p2]) (st' := []) (E' := E) (I' := I) (J' := J) (S' := S) am_e115 rfl rfl rfl rfl ?_
      refine w_st (i' := 17) (ls' := [.ref 0, .int p1, .int p2]) (st' := [.int (nI 0)]) (E' := E) (I' := I) (J' := J) (S' := S) am_e115 rfl rfl rfl rfl ?_
      refine w_end (E' := E) (I' := I) (J' := J) (S' := S) am_e115 rfl rfl rfl (q_mkI ?_)
      show am_ww 114 4 [.ref 0, .int p1, .int p2] [.int (nI 0)] E I J S _
      refine w_st (i' := 5) (ls' := [.ref 0, .int p1, .int p2]) (st' := []) (E' := E) (I' := I) (J' := J) (S' := S) am_e114 rfl rfl rfl rfl ?_
      exact w_end (r := .inr 0) (E' := (E.1 + 1, E.2.1 + 6, E.2.2)) am_e114 rfl rfl rfl h
    · replace h := h.2 (of_decide_eq_false c)
      refine w_st (i' := 6) (ls' := [.int p1]) (st' := [.int (nI 1)]) (E' := E) (I' := I) (J' := J) (S' := S) am_e43 rfl rfl rfl rfl ?_
      refine w_st (i' := 8) (ls' := [.int p1]) (st' := [.int (nI 1)]) (E' := E) (I' := I) (J' := J) (S' := S) am_e43 rfl rfl rfl rfl ?_
      refine w_end (E' := E) (I' := I) (J' := J) (S' := S) am_e43 rfl rfl rfl (q_mkI ?_)
      show am_ww 115 2 [.ref 0, .int p1, .int p2] [.int (nI 1)] E I J S _
      refine w_st (i' := 3) (ls' := [.ref 0, .int p1, .int p2]) (st' := []) (E' := E) (I' := I) (J' := J) (S' := S) am_e115 rfl rfl rfl rfl ?_
      refine w_st (i' := 4) (ls' := [.ref 0, .int p1, .int p2]) (st' := [.int p2]) (E' := E) (I' := I) (J' := J) (S' := S) am_e115 rfl rfl rfl rfl ?_
      refine w_if1 am_e115 rfl rfl (fun c => ?_) (fun c => ?_)
      · replace h := h.1 (of_decide_eq_true c)
        refine w_st (i' := 17) (ls' := [.ref 0, .int p1, .int p2]) (st' := [.int (nI 0)]) (E' := E) (I' := I) (J' := J) (S' := S) am_e115 rfl rfl rfl rfl ?_
        refine w_end (E' := E) (I' := I) (J' := J) (S' := S) am_e115 rfl rfl rfl (q_mkI ?_)
        show am_ww 114 4 [.ref 0, .int p1, .int p2] [.int (nI 0)] E I J S _
        refine w_st (i' := 5) (ls' := [.ref 0, .int p1, .int p2]) (st' := []) (E' := E) (I' := I) (J' := J) (S' := S) am_e114 rfl rfl rfl rfl ?_
        exact w_end (r := .inr 0) (E' := (E.1 + 1, E.2.1 + 6, E.2.2)) am_e114 rfl rfl rfl h
      · replace h := h.2 (of_decide_eq_false c)
        refine w_st (i' := 6) (ls' := [.ref 0, .int p1, .int p2]) (st' := [.int p2]) (E' := E) (I' := I) (J' := J) (S' := S) am_e115 rfl rfl rfl rfl ?_
        refine w_st (i' := 7) (ls' := [.ref 0, .int p1, .int p2]) (st' := [.ref 0, .int p2]) (E' := E) (I' := I) (J' := J) (S' := S) am_e115 rfl rfl rfl rfl ?_
        refine w_st (i' := 8) (ls' := [.ref 0, .int p1, .int p2]) (st' := [.ref 18, .int p2]) (E' := E) (I' := I) (J' := J) (S' := S) am_e115 rfl rfl rfl rfl ?_
        refine w_st (i' := 9) (ls' := [.ref 0, .int p1, .int p2]) (st' := [.ref 19, .int p2]) (E' := E) (I' := I) (J' := J) (S' := S) am_e115 rfl rfl rfl rfl ?_
        refine w_st (i' := 10) (ls' := [.ref 0, .int p1, .int p2]) (st' := [.ref 20, .int p2]) (E' := E) (I' := I) (J' := J) (S' := S) am_e115 rfl rfl rfl rfl ?_
        refine w_st (i' := 11) (ls' := [.ref 0, .int p1, .int p2]) (st' := [.ref 26, .int p2]) (E' := E) (I' := I) (J' := J) (S' := S) am_e115 rfl rfl rfl rfl ?_
        refine w_st (i' := 12) (ls' := [.ref 0, .int p1, .int p2]) (st' := [.int p1, .ref 26, .int p2]) (E' := E) (I' := I) (J' := J) (S' := S) am_e115 rfl rfl rfl rfl ?_
        have hf1 := h.1
        replace h := h.2
        refine w_ia (k := 26) (n := 3) (jn := p1.toNatClampNeg) am_e115 rfl rfl (by decide) hf1 rfl ?_
        refine w_if2 am_e115 rfl rfl (fun c => ?_) (fun c => ?_)
        · replace h := h.1 (of_decide_eq_true c)
          refine w_st (i' := 17) (ls' := [.ref 0, .int p1, .int p2]) (st' := [.int (nI 0)]) (E' := E) (I' := I) (J' := J) (S' := S) am_e115 rfl rfl rfl rfl ?_
          refine w_end (E' := E) (I' := I) (J' := J) (S' := S) am_e115 rfl rfl rfl (q_mkI ?_)
          show am_ww 114 4 [.ref 0, .int p1, .int p2] [.int (nI 0)] E I J S _
          refine w_st (i' := 5) (ls' := [.ref 0, .int p1, .int p2]) (st' := []) (E' := E) (I' := I) (J' := J) (S' := S) am_e114 rfl rfl rfl rfl ?_
          exact w_end (r := .inr 0) (E' := (E.1 + 1, E.2.1 + 6, E.2.2)) am_e114 rfl rfl rfl h
        · replace h := h.2 (of_decide_eq_false c)
          refine w_st (i' := 15) (ls' := [.ref 0, .int p1, .int p2]) (st' := [.int (nI 1)]) (E' := E) (I' := I) (J' := J) (S' := S) am_e115 rfl rfl rfl rfl ?_
          refine w_st (i' := 17) (ls' := [.ref 0, .int p1, .int p2]) (st' := [.int (nI 1)]) (E' := E) (I' := I) (J' := J) (S' := S) am_e115 rfl rfl rfl rfl ?_
          refine w_end (E' := E) (I' := I) (J' := J) (S' := S) am_e115 rfl rfl rfl (q_mkI ?_)
          show am_ww 114 4 [.ref 0, .int p1, .int p2] [.int (nI 1)] E I J S _
          refine w_st (i' := 10) (ls' := [.ref 0, .int p1, .int p2]) (st' := []) (E' := E) (I' := I) (J' := J) (S' := S) am_e114 rfl rfl rfl rfl ?_
          refine w_st (i' := 11) (ls' := [.ref 0, .int p1, .int p2]) (st' := [.ref 0]) (E' := E) (I' := I) (J' := J) (S' := S) am_e114 rfl rfl rfl rfl ?_
          refine w_st (i' := 12) (ls' := [.ref 0, .int p1, .int p2]) (st' := [.ref 18]) (E' := E) (I' := I) (J' := J) (S' := S) am_e114 rfl rfl rfl rfl ?_
          refine w_st (i' := 13) (ls' := [.ref 0, .int p1, .int p2]) (st' := [.ref 27]) (E' := E) (I' := I) (J' := J) (S' := S) am_e114 rfl rfl rfl rfl ?_
          refine w_st (i' := 14) (ls' := [.ref 0, .int p1, .int p2]) (st' := [.int p1, .ref 27]) (E' := E) (I' := I) (J' := J) (S' := S) am_e114 rfl rfl rfl rfl ?_
          refine w_st (i' := 15) (ls' := [.ref 0, .int p1, .int p2]) (st' := [.int (nI 30), .int p1, .ref 27]) (E' := E) (I' := I) (J' := J) (S' := S) am_e114 rfl rfl rfl rfl ?_
          refine w_st (i' := 16) (ls' := [.ref 0, .int p1, .int p2]) (st' := [.int (p1 * (nI 30)), .ref 27]) (E' := E) (I' := I) (J' := J) (S' := S) am_e114 rfl rfl rfl rfl ?_
          refine w_st (i' := 17) (ls' := [.ref 0, .int p1, .int p2]) (st' := [.int p2, .int (p1 * (nI 30)), .ref 27]) (E' := E) (I' := I) (J' := J) (S' := S) am_e114 rfl rfl rfl rfl ?_
          refine w_st (i' := 18) (ls' := [.ref 0, .int p1, .int p2]) (st' := [.int ((p1 * (nI 30)) + p2), .ref 27]) (E' := E) (I' := I) (J' := J) (S' := S) am_e114 rfl rfl rfl rfl ?_
          have hf2 := h.1
          replace h := h.2
          refine w_ia (k := 27) (n := 90) (jn := ((p1 * (nI 30)) + p2).toNatClampNeg) am_e114 rfl rfl (by decide) hf2 rfl ?_
          exact w_ri am_e114 rfl rfl h
-- 117 digest
theorem g117_0 {p1 : Int32} {E : am_Ev} {I : Nat → Nat → Int32} {J : Nat → Nat → Int64} {S : Nat → Nat → Option Nat} {Q : am_Qt}  (h : (p1 < 0 → (Q (.inr 0) (E.1 + 1, E.2.1 + 6, E.2.2) I J S)) ∧ (¬ p1 < 0 → (∀ w1 : Int32, w1 = (if (nI 1) < ((I 17) 2) then ((I 17) 2) else (nI 1)) → ((¬ w1 = 0) ∧ ((p1 < (((I 18) 10) / w1) → (vp_in p1 400 ∧ (Q (.inl (some (.int ((I 32) p1.toNatClampNeg)))) E I J S))) ∧ (¬ p1 < (((I 18) 10) / w1) → (Q (.inr 0) (E.1 + 1, E.2.1 + 6, E.2.2) I J S))))))) : am_ww 117 0 [.ref 0, .int p1] [] E I J S Q := by
  refine w_st (i' := 1) (ls' := [.ref 0, .int p1]) (st' := [.int p1]) (E' := E) (I' := I) (J' := J) (S' := S) am_e117 rfl rfl rfl rfl ?_
  refine w_if1 am_e117 rfl rfl (fun c => ?_) (fun c => ?_)
  · replace h := h.1 (of_decide_eq_true c)
    exact w_end (r := .inr 0) (E' := (E.1 + 1, E.2.1 + 6, E.2.2)) am_e117 rfl rfl rfl h
  · replace h := h.2 (of_decide_eq_false c)
    refine w_st (i' := 3) (ls' := [.ref 0, .int p1]) (st' := [.int p1]) (E' := E) (I' := I) (J' := J) (S' := S) am_e117 rfl rfl rfl rfl ?_
    refine w_st (i' := 4) (ls' := [.ref 0, .int p1]) (st' := [.ref 0, .int p1]) (E' := E) (I' := I) (J' := J) (S' := S) am_e117 rfl rfl rfl rfl ?_
    refine w_st (i' := 5) (ls' := [.ref 0, .int p1]) (st' := [.ref 18, .int p1]) (E' := E) (I' := I) (J' := J) (S' := S) am_e117 rfl rfl rfl rfl ?_
    refine w_st (i' := 6) (ls' := [.ref 0, .int p1]) (st' := [.int ((I 18) 10), .int p1]) (E' := E) (I' := I) (J' := J) (S' := S) am_e117 rfl rfl rfl rfl ?_
    refine w_st (i' := 7) (ls' := [.ref 0, .int p1]) (st' := [.ref 0, .int ((I 18) 10), .int p1]) (E' := E) (I' := I) (J' := J) (S' := S) am_e117 rfl rfl rfl rfl ?_
    refine w_st (i' := 8) (ls' := [.ref 0, .int p1]) (st' := [.ref 12, .int ((I 18) 10), .int p1]) (E' := E) (I' := I) (J' := J) (S' := S) am_e117 rfl rfl rfl rfl ?_
    refine w_cI am_e117 rfl rfl (as := [.ref 12]) (rest := [.int ((I 18) 10), .int p1]) rfl rfl ?_
    show am_ww 39 0 [.ref 12] [] E I J S _
    refine w_st (i' := 1) (ls' := [.ref 12]) (st' := [.int (nI 1)]) (E' := E) (I' := I) (J' := J) (S' := S) am_e39 rfl rfl rfl rfl ?_
    refine w_st (i' := 2) (ls' := [.ref 12]) (st' := [.ref 12, .int (nI 1)]) (E' := E) (I' := I) (J' := J) (S' := S) am_e39 rfl rfl rfl rfl ?_
    refine w_st (i' := 3) (ls' := [.ref 12]) (st' := [.ref 17, .int (nI 1)]) (E' := E) (I' := I) (J' := J) (S' := S) am_e39 rfl rfl rfl rfl ?_
    refine w_st (i' := 4) (ls' := [.ref 12]) (st' := [.int (nI 2), .ref 17, .int (nI 1)]) (E' := E) (I' := I) (J' := J) (S' := S) am_e39 rfl rfl rfl rfl ?_
    refine w_ia (k := 17) (n := 4) (jn := 2) am_e39 rfl rfl (by decide) (vp_in_nI (by decide) (by decide)) rfl ?_
    show am_ww 39 5 [.ref 12] [.int ((I 17) 2), .int (nI 1)] E I J S _
    refine w_st (i' := 6) (ls' := [.ref 12]) (st' := [.int (if (nI 1) < ((I 17) 2) then ((I 17) 2) else (nI 1))]) (E' := E) (I' := I) (J' := J) (S' := S) am_e39 rfl rfl rfl rfl ?_
    refine w_ri am_e39 rfl rfl (q_mkI ?_)
    show am_ww 117 9 [.ref 0, .int p1] [.int (if (nI 1) < ((I 17) 2) then ((I 17) 2) else (nI 1)), .int ((I 18) 10), .int p1] E I J S _
    refine w_var (fun w1 => am_ww 117 9 [.ref 0, .int p1] [.int w1, .int ((I 18) 10), .int p1] E I J S _) (if (nI 1) < ((I 17) 2) then ((I 17) 2) else (nI 1)) (fun w1 hw1 => ?_)
    replace h := h w1 hw1
    refine w_dv h.1 am_e117 rfl ?_
    replace h := h.2
    refine w_if2 am_e117 rfl rfl (fun c => ?_) (fun c => ?_)
    · replace h := h.1 (of_decide_eq_true c)
      refine w_st (i' := 17) (ls' := [.ref 0, .int p1]) (st' := [.ref 0]) (E' := E) (I' := I) (J' := J) (S' := S) am_e117 rfl rfl rfl rfl ?_
      refine w_st (i' := 18) (ls' := [.ref 0, .int p1]) (st' := [.ref 18]) (E' := E) (I' := I) (J' := J) (S' := S) am_e117 rfl rfl rfl rfl ?_
      refine w_st (i' := 19) (ls' := [.ref 0, .int p1]) (st' := [.ref 32]) (E' := E) (I' := I) (J' := J) (S' := S) am_e117 rfl rfl rfl rfl ?_
      refine w_st (i' := 20) (ls' := [.ref 0, .int p1]) (st' := [.int p1, .ref 32]) (E' := E) (I' := I) (J' := J) (S' := S) am_e117 rfl rfl rfl rfl ?_
      have hf2 := h.1
      replace h := h.2
      refine w_ia (k := 32) (n := 400) (jn := p1.toNatClampNeg) am_e117 rfl rfl (by decide) hf2 rfl ?_
      exact w_ri am_e117 rfl rfl h
    · replace h := h.2 (of_decide_eq_false c)
      exact w_end (r := .inr 0) (E' := (E.1 + 1, E.2.1 + 6, E.2.2)) am_e117 rfl rfl rfl h
-- 119 snapshot
theorem g119_0 {p1 : Int32} {E : am_Ev} {I : Nat → Nat → Int32} {J : Nat → Nat → Int64} {S : Nat → Nat → Option Nat} {Q : am_Qt}  (h : am_cl 101 [.ref 0] E I J S (q_R fun a E1 I1 J1 S1 => a = 85 ∧ ((p1 < 0 → (Q (.inr 0) (E1.1 + 1, E1.2.1 + 6, E1.2.2) I1 J1 S1)) ∧ (¬ p1 < 0 → ((p1 < ((I1 85) 1) → (vp_in p1 9 ∧ (Q (.inl (some (.int ((I1 86) p1.toNatClampNeg)))) E1 I1 J1 S1))) ∧ (¬ p1 < ((I1 85) 1) → (Q (.inr 0) (E1.1 + 1, E1.2.1 + 6, E1.2.2) I1 J1 S1))))))) : am_ww 119 0 [.ref 0, .int p1, am_U] [] E I J S Q := by
  refine w_st (i' := 1) (ls' := [.ref 0, .int p1, am_U]) (st' := [.ref 0]) (E' := E) (I' := I) (J' := J) (S' := S) am_e119 rfl rfl rfl rfl ?_
  refine w_cR am_e119 rfl rfl (as := [.ref 0]) (rest := []) rfl rfl (am_ww.mono h ?_)
  rintro _ E1 I1 J1 S1 ⟨_, rfl, rfl, h⟩
  refine q_mkR ?_
  refine w_st (i' := 3) (ls' := [.ref 0, .int p1, .ref 85]) (st' := []) (E' := E1) (I' := I1) (J' := J1) (S' := S1) am_e119 rfl rfl rfl rfl ?_
  refine w_st (i' := 4) (ls' := [.ref 0, .int p1, .ref 85]) (st' := [.int p1]) (E' := E1) (I' := I1) (J' := J1) (S' := S1) am_e119 rfl rfl rfl rfl ?_
  refine w_if1 am_e119 rfl rfl (fun c => ?_) (fun c => ?_)
  · replace h := h.1 (of_decide_eq_true c)
    exact w_end (r := .inr 0) (E' := (E1.1 + 1, E1.2.1 + 6, E1.2.2)) am_e119 rfl rfl rfl h
  · replace h := h.2 (of_decide_eq_false c)
    refine w_st (i' := 6) (ls' := [.ref 0, .int p1, .ref 85]) (st' := [.int p1]) (E' := E1) (I' := I1) (J' := J1) (S' := S1) am_e119 rfl rfl rfl rfl ?_
    refine w_st (i' := 7) (ls' := [.ref 0, .int p1, .ref 85]) (st' := [.ref 85, .int p1]) (E' := E1) (I' := I1) (J' := J1) (S' := S1) am_e119 rfl rfl rfl rfl ?_
    refine w_st (i' := 8) (ls' := [.ref 0, .int p1, .ref 85]) (st' := [.int ((I1 85) 1), .int p1]) (E' := E1) (I' := I1) (J' := J1) (S' := S1) am_e119 rfl rfl rfl rfl ?_
    refine w_if2 am_e119 rfl rfl (fun c => ?_) (fun c => ?_)
    · replace h := h.1 (of_decide_eq_true c)
      refine w_st (i' := 15) (ls' := [.ref 0, .int p1, .ref 85]) (st' := [.ref 85]) (E' := E1) (I' := I1) (J' := J1) (S' := S1) am_e119 rfl rfl rfl rfl ?_
      refine w_st (i' := 16) (ls' := [.ref 0, .int p1, .ref 85]) (st' := [.ref 86]) (E' := E1) (I' := I1) (J' := J1) (S' := S1) am_e119 rfl rfl rfl rfl ?_
      refine w_st (i' := 17) (ls' := [.ref 0, .int p1, .ref 85]) (st' := [.int p1, .ref 86]) (E' := E1) (I' := I1) (J' := J1) (S' := S1) am_e119 rfl rfl rfl rfl ?_
      have hf2 := h.1
      replace h := h.2
      refine w_ia (k := 86) (n := 9) (jn := p1.toNatClampNeg) am_e119 rfl rfl (by decide) hf2 rfl ?_
      exact w_ri am_e119 rfl rfl h
    · replace h := h.2 (of_decide_eq_false c)
      exact w_end (r := .inr 0) (E' := (E1.1 + 1, E1.2.1 + 6, E1.2.2)) am_e119 rfl rfl rfl h
-- 121 seek
theorem g121_0 {p1 : Int32} {E : am_Ev} {I : Nat → Nat → Int32} {J : Nat → Nat → Int64} {S : Nat → Nat → Option Nat} {Q : am_Qt}  (h : (p1 < 0 → (Q (.inr 0) (E.1 + 1, E.2.1 + 6, E.2.2) I J S)) ∧ (¬ p1 < 0 → ((p1 ≤ ((I 18) 10) → (am_cl 101 [.ref 0] E (u_I I 18 (upd (I 18) 11 p1)) J S (q_R fun a E1 I1 J1 S1 => a = 85 ∧ (am_cl 106 [.ref 85, .int p1] E1 I1 J1 S1 (q_I fun v2 E2 I2 J2 S2 => Q (.inl (some (.int v2))) E2 I2 J2 S2))))) ∧ (¬ p1 ≤ ((I 18) 10) → (Q (.inr 0) (E.1 + 1, E.2.1 + 6, E.2.2) I J S))))) : am_ww 121 0 [.ref 0, .int p1] [] E I J S Q := by
  refine w_st (i' := 1) (ls' := [.ref 0, .int p1]) (st' := [.int p1]) (E' := E) (I' := I) (J' := J) (S' := S) am_e121 rfl rfl rfl rfl ?_
  refine w_if1 am_e121 rfl rfl (fun c => ?_) (fun c => ?_)
  · replace h := h.1 (of_decide_eq_true c)
    exact w_end (r := .inr 0) (E' := (E.1 + 1, E.2.1 + 6, E.2.2)) am_e121 rfl rfl rfl h
  · replace h := h.2 (of_decide_eq_false c)
    refine w_st (i' := 3) (ls' := [.ref 0, .int p1]) (st' := [.int p1]) (E' := E) (I' := I) (J' := J) (S' := S) am_e121 rfl rfl rfl rfl ?_
    refine w_st (i' := 4) (ls' := [.ref 0, .int p1]) (st' := [.ref 0, .int p1]) (E' := E) (I' := I) (J' := J) (S' := S) am_e121 rfl rfl rfl rfl ?_
    refine w_st (i' := 5) (ls' := [.ref 0, .int p1]) (st' := [.ref 18, .int p1]) (E' := E) (I' := I) (J' := J) (S' := S) am_e121 rfl rfl rfl rfl ?_
    refine w_st (i' := 6) (ls' := [.ref 0, .int p1]) (st' := [.int ((I 18) 10), .int p1]) (E' := E) (I' := I) (J' := J) (S' := S) am_e121 rfl rfl rfl rfl ?_
    refine w_if2 am_e121 rfl rfl (fun c => ?_) (fun c => ?_)
    · replace h := h.1 (of_decide_eq_true c)
      refine w_st (i' := 13) (ls' := [.ref 0, .int p1]) (st' := [.ref 0]) (E' := E) (I' := I) (J' := J) (S' := S) am_e121 rfl rfl rfl rfl ?_
      refine w_st (i' := 14) (ls' := [.ref 0, .int p1]) (st' := [.ref 18]) (E' := E) (I' := I) (J' := J) (S' := S) am_e121 rfl rfl rfl rfl ?_
      refine w_st (i' := 15) (ls' := [.ref 0, .int p1]) (st' := [.int p1, .ref 18]) (E' := E) (I' := I) (J' := J) (S' := S) am_e121 rfl rfl rfl rfl ?_
      refine w_st (i' := 16) (ls' := [.ref 0, .int p1]) (st' := []) (E' := E) (I' := (u_I I 18 (upd (I 18) 11 p1))) (J' := J) (S' := S) am_e121 rfl rfl rfl rfl ?_
      refine w_st (i' := 17) (ls' := [.ref 0, .int p1]) (st' := [.ref 0]) (E' := E) (I' := (u_I I 18 (upd (I 18) 11 p1))) (J' := J) (S' := S) am_e121 rfl rfl rfl rfl ?_
      refine w_cR am_e121 rfl rfl (as := [.ref 0]) (rest := []) rfl rfl (am_ww.mono h ?_)
      rintro _ E1 I1 J1 S1 ⟨_, rfl, rfl, h⟩
      refine q_mkR ?_
      refine w_st (i' := 19) (ls' := [.ref 0, .int p1]) (st' := [.int p1, .ref 85]) (E' := E1) (I' := I1) (J' := J1) (S' := S1) am_e121 rfl rfl rfl rfl ?_
      refine w_cI am_e121 rfl rfl (as := [.ref 85, .int p1]) (rest := []) rfl rfl (am_ww.mono h ?_)
      rintro _ E2 I2 J2 S2 ⟨v2, rfl, h⟩
      refine q_mkI ?_
      exact w_ri am_e121 rfl rfl h
    · replace h := h.2 (of_decide_eq_false c)
      exact w_end (r := .inr 0) (E' := (E.1 + 1, E.2.1 + 6, E.2.2)) am_e121 rfl rfl rfl h
-- 123 cell
theorem g123_0 {p1 : Int32} {E : am_Ev} {I : Nat → Nat → Int32} {J : Nat → Nat → Int64} {S : Nat → Nat → Option Nat} {Q : am_Qt}  (h : am_cl 124 [.ref 0, .int p1] E I J S (fun r E1 I1 J1 S1 => match r with | .inl w => w = none ∧ (am_cl 52 [.ref 0, .int ((I1 18) 11)] E1 I1 J1 S1 (q_R fun a E2 I2 J2 S2 => a = 61 ∧ (vp_in p1 16 ∧ (Q (.inl (some (.int ((I2 62) p1.toNatClampNeg)))) E2 I2 J2 S2)))) | .inr e => Q (.inr e) E1 I1 J1 S1)) : am_ww 123 0 [.ref 0, .int p1] [] E I J S Q := by
  refine w_st (i' := 1) (ls' := [.ref 0, .int p1]) (st' := [.ref 0]) (E' := E) (I' := I) (J' := J) (S' := S) am_e123 rfl rfl rfl rfl ?_
  refine w_st (i' := 2) (ls' := [.ref 0, .int p1]) (st' := [.int p1, .ref 0]) (E' := E) (I' := I) (J' := J) (S' := S) am_e123 rfl rfl rfl rfl ?_
  refine w_cX am_e123 rfl rfl (as := [.ref 0, .int p1]) (rest := []) rfl rfl rfl (am_ww.mono h ?_)
  intro r E1 I1 J1 S1 h
  cases r with
  | inr e => exact h
  | inl w =>
    obtain ⟨rfl, h⟩ := h
    refine w_st (i' := 4) (ls' := [.ref 0, .int p1]) (st' := [.ref 0]) (E' := E1) (I' := I1) (J' := J1) (S' := S1) am_e123 rfl rfl rfl rfl ?_
    refine w_st (i' := 5) (ls' := [.ref 0, .int p1]) (st' := [.ref 0, .ref 0]) (E' := E1) (I' := I1) (J' := J1) (S' := S1) am_e123 rfl rfl rfl rfl ?_
    refine w_st (i' := 6) (ls' := [.ref 0, .int p1]) (st' := [.ref 18, .ref 0]) (E' := E1) (I' := I1) (J' := J1) (S' := S1) am_e123 rfl rfl rfl rfl ?_
    refine w_st (i' := 7) (ls' := [.ref 0, .int p1]) (st' := [.int ((I1 18) 11), .ref 0]) (E' := E1) (I' := I1) (J' := J1) (S' := S1) am_e123 rfl rfl rfl rfl ?_
    refine w_cR am_e123 rfl rfl (as := [.ref 0, .int ((I1 18) 11)]) (rest := []) rfl rfl (am_ww.mono h ?_)
    rintro _ E2 I2 J2 S2 ⟨_, rfl, rfl, h⟩
    refine q_mkR ?_
    refine w_st (i' := 9) (ls' := [.ref 0, .int p1]) (st' := [.ref 62]) (E' := E2) (I' := I2) (J' := J2) (S' := S2) am_e123 rfl rfl rfl rfl ?_
    refine w_st (i' := 10) (ls' := [.ref 0, .int p1]) (st' := [.int p1, .ref 62]) (E' := E2) (I' := I2) (J' := J2) (S' := S2) am_e123 rfl rfl rfl rfl ?_
    have hf3 := h.1
    replace h := h.2
    refine w_ia (k := 62) (n := 16) (jn := p1.toNatClampNeg) am_e123 rfl rfl (by decide) hf3 rfl ?_
    exact w_ri am_e123 rfl rfl h
-- 126 thread
theorem g126_0 {p1 : Int32} {p2 : Int32} {E : am_Ev} {I : Nat → Nat → Int32} {J : Nat → Nat → Int64} {S : Nat → Nat → Option Nat} {Q : am_Qt}  (h : (p1 < 0 → (Q (.inr 0) (E.1 + 1, E.2.1 + 6, E.2.2) I J S)) ∧ (¬ p1 < 0 → ((((I 12) 5) ≤ p1 → (Q (.inr 0) (E.1 + 1, E.2.1 + 6, E.2.2) I J S)) ∧ (¬ ((I 12) 5) ≤ p1 → (am_cl 52 [.ref 0, .int ((I 18) 11)] E I J S (q_R fun a E1 I1 J1 S1 => a = 61 ∧ ((p2 = nI 0 → (vp_in ((p1 * (nI 4)) + p2) 16 ∧ (Q (.inl (some (.int ((I1 63) (((p1 * (nI 4)) + p2).toNatClampNeg))))) E1 I1 J1 S1))) ∧ (p2 = nI 1 → (vp_in ((p1 * (nI 4)) + p2) 16 ∧ (Q (.inl (some (.int ((I1 63) (((p1 * (nI 4)) + p2).toNatClampNeg))))) E1 I1 J1 S1))) ∧ (p2 = nI 2 → (vp_in ((p1 * (nI 4)) + p2) 16 ∧ (Q (.inl (some (.int ((I1 63) (((p1 * (nI 4)) + p2).toNatClampNeg))))) E1 I1 J1 S1))) ∧ (p2 = nI 3 → (vp_in ((p1 * (nI 4)) + p2) 16 ∧ (Q (.inl (some (.int ((I1 63) (((p1 * (nI 4)) + p2).toNatClampNeg))))) E1 I1 J1 S1))) ∧ (p2 = nI 4 → (vp_in p1 4 ∧ (Q (.inl (some (.int ((I1 64) p1.toNatClampNeg)))) E1 I1 J1 S1))) ∧ (p2 = nI 5 → (vp_in p1 4 ∧ (Q (.inl (some (.int ((I1 65) p1.toNatClampNeg)))) E1 I1 J1 S1))) ∧ (p2 = nI 6 → (vp_in p1 4 ∧ ((((I1 64) p1.toNatClampNeg) < ((I1 15) p1.toNatClampNeg) → (Q (.inl (some (.int (nI 0)))) E1 I1 J1 S1)) ∧ (¬ ((I1 64) p1.toNatClampNeg) < ((I1 15) p1.toNatClampNeg) → (Q (.inl (some (.int (nI 1)))) E1 I1 J1 S1))))) ∧ (p2 = nI 7 → (∀ w10 : Int32, w10 = (if ((I1 61) 6) = p1 then nI 1 else nI 0) → (Q (.inl (some (.int w10))) E1 I1 J1 S1))) ∧ (¬ p2 = nI 0 → ¬ p2 = nI 1 → ¬ p2 = nI 2 → ¬ p2 = nI 3 → ¬ p2 = nI 4 → ¬ p2 = nI 5 → ¬ p2 = nI 6 → ¬ p2 = nI 7 → (Q (.inr 0) (E1.1 + 1, E1.2.1 + 6, E1.2.2) I1 J1 S1))))))))) : am_ww 126 0 [.ref 0, .int p1, .int p2, am_U] [] E I J S Q := by
  refine w_st (i' := 1) (ls' := [.ref 0, .int p1, .int p2, am_U]) (st' := [.ref 0]) (E' := E) (I' := I) (J' := J) (S' := S) am_e126 rfl rfl rfl rfl ?_
  refine w_st (i' := 2) (ls' := [.ref 0, .int p1, .int p2, am_U]) (st' := [.int p1, .ref 0]) (E' := E) (I' := I) (J' := J) (S' := S) am_e126 rfl rfl rfl rfl ?_
  refine w_cI am_e126 rfl rfl (as := [.ref 0, .int p1]) (rest := []) rfl rfl ?_
  show am_ww 127 0 [.ref 0, .int p1] [] E I J S _
  refine w_st (i' := 1) (ls' := [.ref 0, .int p1]) (st' := [.int p1]) (E' := E) (I' := I) (J' := J) (S' := S) am_e127 rfl rfl rfl rfl ?_
  refine w_if1 am_e127 rfl rfl (fun c => ?_) (fun c => ?_)
  · replace h := h.1 (of_decide_eq_true c)
    refine w_st (i' := 10) (ls' := [.ref 0, .int p1]) (st' := [.int (nI 0)]) (E' := E) (I' := I) (J' := J) (S' := S) am_e127 rfl rfl rfl rfl ?_
    refine w_end (E' := E) (I' := I) (J' := J) (S' := S) am_e127 rfl rfl rfl (q_mkI ?_)
    show am_ww 126 3 [.ref 0, .int p1, .int p2, am_U] [.int (nI 0)] E I J S _
    refine w_st (i' := 4) (ls' := [.ref 0, .int p1, .int p2, am_U]) (st' := []) (E' := E) (I' := I) (J' := J) (S' := S) am_e126 rfl rfl rfl rfl ?_
    exact w_end (r := .inr 0) (E' := (E.1 + 1, E.2.1 + 6, E.2.2)) am_e126 rfl rfl rfl h
  · replace h := h.2 (of_decide_eq_false c)
    refine w_st (i' := 3) (ls' := [.ref 0, .int p1]) (st' := [.int p1]) (E' := E) (I' := I) (J' := J) (S' := S) am_e127 rfl rfl rfl rfl ?_
    refine w_st (i' := 4) (ls' := [.ref 0, .int p1]) (st' := [.ref 0, .int p1]) (E' := E) (I' := I) (J' := J) (S' := S) am_e127 rfl rfl rfl rfl ?_
    refine w_st (i' := 5) (ls' := [.ref 0, .int p1]) (st' := [.ref 12, .int p1]) (E' := E) (I' := I) (J' := J) (S' := S) am_e127 rfl rfl rfl rfl ?_
    refine w_st (i' := 6) (ls' := [.ref 0, .int p1]) (st' := [.int ((I 12) 5), .int p1]) (E' := E) (I' := I) (J' := J) (S' := S) am_e127 rfl rfl rfl rfl ?_
    refine w_if2 am_e127 rfl rfl (fun c => ?_) (fun c => ?_)
    · replace h := h.1 (of_decide_eq_true c)
      refine w_st (i' := 10) (ls' := [.ref 0, .int p1]) (st' := [.int (nI 0)]) (E' := E) (I' := I) (J' := J) (S' := S) am_e127 rfl rfl rfl rfl ?_
      refine w_end (E' := E) (I' := I) (J' := J) (S' := S) am_e127 rfl rfl rfl (q_mkI ?_)
      show am_ww 126 3 [.ref 0, .int p1, .int p2, am_U] [.int (nI 0)] E I J S _
      refine w_st (i' := 4) (ls' := [.ref 0, .int p1, .int p2, am_U]) (st' := []) (E' := E) (I' := I) (J' := J) (S' := S) am_e126 rfl rfl rfl rfl ?_
      exact w_end (r := .inr 0) (E' := (E.1 + 1, E.2.1 + 6, E.2.2)) am_e126 rfl rfl rfl h
    · replace h := h.2 (of_decide_eq_false c)
      refine w_st (i' := 8) (ls' := [.ref 0, .int p1]) (st' := [.int (nI 1)]) (E' := E) (I' := I) (J' := J) (S' := S) am_e127 rfl rfl rfl rfl ?_
      refine w_st (i' := 10) (ls' := [.ref 0, .int p1]) (st' := [.int (nI 1)]) (E' := E) (I' := I) (J' := J) (S' := S) am_e127 rfl rfl rfl rfl ?_
      refine w_end (E' := E) (I' := I) (J' := J) (S' := S) am_e127 rfl rfl rfl (q_mkI ?_)
      show am_ww 126 3 [.ref 0, .int p1, .int p2, am_U] [.int (nI 1)] E I J S _
      refine w_st (i' := 9) (ls' := [.ref 0, .int p1, .int p2, am_U]) (st' := []) (E' := E) (I' := I) (J' := J) (S' := S) am_e126 rfl rfl rfl rfl ?_
      refine w_st (i' := 10) (ls' := [.ref 0, .int p1, .int p2, am_U]) (st' := [.ref 0]) (E' := E) (I' := I) (J' := J) (S' := S) am_e126 rfl rfl rfl rfl ?_
      refine w_st (i' := 11) (ls' := [.ref 0, .int p1, .int p2, am_U]) (st' := [.ref 0, .ref 0]) (E' := E) (I' := I) (J' := J) (S' := S) am_e126 rfl rfl rfl rfl ?_
      refine w_st (i' := 12) (ls' := [.ref 0, .int p1, .int p2, am_U]) (st' := [.ref 18, .ref 0]) (E' := E) (I' := I) (J' := J) (S' := S) am_e126 rfl rfl rfl rfl ?_
      refine w_st (i' := 13) (ls' := [.ref 0, .int p1, .int p2, am_U]) (st' := [.int ((I 18) 11), .ref 0]) (E' := E) (I' := I) (J' := J) (S' := S) am_e126 rfl rfl rfl rfl ?_
      refine w_cR am_e126 rfl rfl (as := [.ref 0, .int ((I 18) 11)]) (rest := []) rfl rfl (am_ww.mono h ?_)
      rintro _ E1 I1 J1 S1 ⟨_, rfl, rfl, h⟩
      refine q_mkR ?_
      refine w_st (i' := 15) (ls' := [.ref 0, .int p1, .int p2, .ref 61]) (st' := []) (E' := E1) (I' := I1) (J' := J1) (S' := S1) am_e126 rfl rfl rfl rfl ?_
      refine w_st (i' := 16) (ls' := [.ref 0, .int p1, .int p2, .ref 61]) (st' := [.int p2]) (E' := E1) (I' := I1) (J' := J1) (S' := S1) am_e126 rfl rfl rfl rfl ?_
      refine w_tb am_e126 rfl ?_
      by_cases c0 : p2 = nI 0
      · replace h := h.1 c0
        refine w_to (i2 := 17) (by rw [c0]; first | done | rfl) ?_
        refine w_st (i' := 18) (ls' := [.ref 0, .int p1, .int p2, .ref 61]) (st' := [.ref 61]) (E' := E1) (I' := I1) (J' := J1) (S' := S1) am_e126 rfl rfl rfl rfl ?_
        refine w_st (i' := 19) (ls' := [.ref 0, .int p1, .int p2, .ref 61]) (st' := [.ref 63]) (E' := E1) (I' := I1) (J' := J1) (S' := S1) am_e126 rfl rfl rfl rfl ?_
        refine w_st (i' := 20) (ls' := [.ref 0, .int p1, .int p2, .ref 61]) (st' := [.int p1, .ref 63]) (E' := E1) (I' := I1) (J' := J1) (S' := S1) am_e126 rfl rfl rfl rfl ?_
        refine w_st (i' := 21) (ls' := [.ref 0, .int p1, .int p2, .ref 61]) (st' := [.int (nI 4), .int p1, .ref 63]) (E' := E1) (I' := I1) (J' := J1) (S' := S1) am_e126 rfl rfl rfl rfl ?_
        refine w_st (i' := 22) (ls' := [.ref 0, .int p1, .int p2, .ref 61]) (st' := [.int (p1 * (nI 4)), .ref 63]) (E' := E1) (I' := I1) (J' := J1) (S' := S1) am_e126 rfl rfl rfl rfl ?_
        refine w_st (i' := 23) (ls' := [.ref 0, .int p1, .int p2, .ref 61]) (st' := [.int p2, .int (p1 * (nI 4)), .ref 63]) (E' := E1) (I' := I1) (J' := J1) (S' := S1) am_e126 rfl rfl rfl rfl ?_
        refine w_st (i' := 24) (ls' := [.ref 0, .int p1, .int p2, .ref 61]) (st' := [.int ((p1 * (nI 4)) + p2), .ref 63]) (E' := E1) (I' := I1) (J' := J1) (S' := S1) am_e126 rfl rfl rfl rfl ?_
        have hf2 := h.1
        replace h := h.2
        refine w_ia (k := 63) (n := 16) (jn := ((p1 * (nI 4)) + p2).toNatClampNeg) am_e126 rfl rfl (by decide) hf2 rfl ?_
        exact w_ri am_e126 rfl rfl h
      by_cases c1 : p2 = nI 1
      · replace h := h.2.1 c1
        refine w_to (i2 := 17) (by rw [c1]; first | done | rfl) ?_
        refine w_st (i' := 18) (ls' := [.ref 0, .int p1, .int p2, .ref 61]) (st' := [.ref 61]) (E' := E1) (I' := I1) (J' := J1) (S' := S1) am_e126 rfl rfl rfl rfl ?_
        refine w_st (i' := 19) (ls' := [.ref 0, .int p1, .int p2, .ref 61]) (st' := [.ref 63]) (E' := E1) (I' := I1) (J' := J1) (S' := S1) am_e126 rfl rfl rfl rfl ?_
        refine w_st (i' := 20) (ls' := [.ref 0, .int p1, .int p2, .ref 61]) (st' := [.int p1, .ref 63]) (E' := E1) (I' := I1) (J' := J1) (S' := S1) am_e126 rfl rfl rfl rfl ?_
        refine w_st (i' := 21) (ls' := [.ref 0, .int p1, .int p2, .ref 61]) (st' := [.int (nI 4), .int p1, .ref 63]) (E' := E1) (I' := I1) (J' := J1) (S' := S1) am_e126 rfl rfl rfl rfl ?_
        refine w_st (i' := 22) (ls' := [.ref 0, .int p1, .int p2, .ref 61]) (st' := [.int (p1 * (nI 4)), .ref 63]) (E' := E1) (I' := I1) (J' := J1) (S' := S1) am_e126 rfl rfl rfl rfl ?_
        refine w_st (i' := 23) (ls' := [.ref 0, .int p1, .int p2, .ref 61]) (st' := [.int p2, .int (p1 * (nI 4)), .ref 63]) (E' := E1) (I' := I1) (J' := J1) (S' := S1) am_e126 rfl rfl rfl rfl ?_
        refine w_st (i' := 24) (ls' := [.ref 0, .int p1, .int p2, .ref 61]) (st' := [.int ((p1 * (nI 4)) + p2), .ref 63]) (E' := E1) (I' := I1) (J' := J1) (S' := S1) am_e126 rfl rfl rfl rfl ?_
        have hf3 := h.1
        replace h := h.2
        refine w_ia (k := 63) (n := 16) (jn := ((p1 * (nI 4)) + p2).toNatClampNeg) am_e126 rfl rfl (by decide) hf3 rfl ?_
        exact w_ri am_e126 rfl rfl h
      by_cases c2 : p2 = nI 2
      · replace h := h.2.2.1 c2
        refine w_to (i2 := 17) (by rw [c2]; first | done | rfl) ?_
        refine w_st (i' := 18) (ls' := [.ref 0, .int p1, .int p2, .ref 61]) (st' := [.ref 61]) (E' := E1) (I' := I1) (J' := J1) (S' := S1) am_e126 rfl rfl rfl rfl ?_
        refine w_st (i' := 19) (ls' := [.ref 0, .int p1, .int p2, .ref 61]) (st' := [.ref 63]) (E' := E1) (I' := I1) (J' := J1) (S' := S1) am_e126 rfl rfl rfl rfl ?_
        refine w_st (i' := 20) (ls' := [.ref 0, .int p1, .int p2, .ref 61]) (st' := [.int p1, .ref 63]) (E' := E1) (I' := I1) (J' := J1) (S' := S1) am_e126 rfl rfl rfl rfl ?_
        refine w_st (i' := 21) (ls' := [.ref 0, .int p1, .int p2, .ref 61]) (st' := [.int (nI 4), .int p1, .ref 63]) (E' := E1) (I' := I1) (J' := J1) (S' := S1) am_e126 rfl rfl rfl rfl ?_
        refine w_st (i' := 22) (ls' := [.ref 0, .int p1, .int p2, .ref 61]) (st' := [.int (p1 * (nI 4)), .ref 63]) (E' := E1) (I' := I1) (J' := J1) (S' := S1) am_e126 rfl rfl rfl rfl ?_
        refine w_st (i' := 23) (ls' := [.ref 0, .int p1, .int p2, .ref 61]) (st' := [.int p2, .int (p1 * (nI 4)), .ref 63]) (E' := E1) (I' := I1) (J' := J1) (S' := S1) am_e126 rfl rfl rfl rfl ?_
        refine w_st (i' := 24) (ls' := [.ref 0, .int p1, .int p2, .ref 61]) (st' := [.int ((p1 * (nI 4)) + p2), .ref 63]) (E' := E1) (I' := I1) (J' := J1) (S' := S1) am_e126 rfl rfl rfl rfl ?_
        have hf4 := h.1
        replace h := h.2
        refine w_ia (k := 63) (n := 16) (jn := ((p1 * (nI 4)) + p2).toNatClampNeg) am_e126 rfl rfl (by decide) hf4 rfl ?_
        exact w_ri am_e126 rfl rfl h
      by_cases c3 : p2 = nI 3
      · replace h := h.2.2.2.1 c3
        refine w_to (i2 := 17) (by rw [c3]; first | done | rfl) ?_
        refine w_st (i' := 18) (ls' := [.ref 0, .int p1, .int p2, .ref 61]) (st' := [.ref 61]) (E' := E1) (I' := I1) (J' := J1) (S' := S1) am_e126 rfl rfl rfl rfl ?_
        refine w_st (i' := 19) (ls' := [.ref 0, .int p1, .int p2, .ref 61]) (st' := [.ref 63]) (E' := E1) (I' := I1) (J' := J1) (S' := S1) am_e126 rfl rfl rfl rfl ?_
        refine w_st (i' := 20) (ls' := [.ref 0, .int p1, .int p2, .ref 61]) (st' := [.int p1, .ref 63]) (E' := E1) (I' := I1) (J' := J1) (S' := S1) am_e126 rfl rfl rfl rfl ?_
        refine w_st (i' := 21) (ls' := [.ref 0, .int p1, .int p2, .ref 61]) (st' := [.int (nI 4), .int p1, .ref 63]) (E' := E1) (I' := I1) (J' := J1) (S' := S1) am_e126 rfl rfl rfl rfl ?_
        refine w_st (i' := 22) (ls' := [.ref 0, .int p1, .int p2, .ref 61]) (st' := [.int (p1 * (nI 4)), .ref 63]) (E' := E1) (I' := I1) (J' := J1) (S' := S1) am_e126 rfl rfl rfl rfl ?_
        refine w_st (i' := 23) (ls' := [.ref 0, .int p1, .int p2, .ref 61]) (st' := [.int p2, .int (p1 * (nI 4)), .ref 63]) (E' := E1) (I' := I1) (J' := J1) (S' := S1) am_e126 rfl rfl rfl rfl ?_
        refine w_st (i' := 24) (ls' := [.ref 0, .int p1, .int p2, .ref 61]) (st' := [.int ((p1 * (nI 4)) + p2), .ref 63]) (E' := E1) (I' := I1) (J' := J1) (S' := S1) am_e126 rfl rfl rfl rfl ?_
        have hf5 := h.1
        replace h := h.2
        refine w_ia (k := 63) (n := 16) (jn := ((p1 * (nI 4)) + p2).toNatClampNeg) am_e126 rfl rfl (by decide) hf5 rfl ?_
        exact w_ri am_e126 rfl rfl h
      by_cases c4 : p2 = nI 4
      · replace h := h.2.2.2.2.1 c4
        refine w_to (i2 := 26) (by rw [c4]; first | done | rfl) ?_
        refine w_st (i' := 27) (ls' := [.ref 0, .int p1, .int p2, .ref 61]) (st' := [.ref 61]) (E' := E1) (I' := I1) (J' := J1) (S' := S1) am_e126 rfl rfl rfl rfl ?_
        refine w_st (i' := 28) (ls' := [.ref 0, .int p1, .int p2, .ref 61]) (st' := [.ref 64]) (E' := E1) (I' := I1) (J' := J1) (S' := S1) am_e126 rfl rfl rfl rfl ?_
        refine w_st (i' := 29) (ls' := [.ref 0, .int p1, .int p2, .ref 61]) (st' := [.int p1, .ref 64]) (E' := E1) (I' := I1) (J' := J1) (S' := S1) am_e126 rfl rfl rfl rfl ?_
        have hf6 := h.1
        replace h := h.2
        refine w_ia (k := 64) (n := 4) (jn := p1.toNatClampNeg) am_e126 rfl rfl (by decide) hf6 rfl ?_
        exact w_ri am_e126 rfl rfl h
      by_cases c5 : p2 = nI 5
      · replace h := h.2.2.2.2.2.1 c5
        refine w_to (i2 := 31) (by rw [c5]; first | done | rfl) ?_
        refine w_st (i' := 32) (ls' := [.ref 0, .int p1, .int p2, .ref 61]) (st' := [.ref 61]) (E' := E1) (I' := I1) (J' := J1) (S' := S1) am_e126 rfl rfl rfl rfl ?_
        refine w_st (i' := 33) (ls' := [.ref 0, .int p1, .int p2, .ref 61]) (st' := [.ref 65]) (E' := E1) (I' := I1) (J' := J1) (S' := S1) am_e126 rfl rfl rfl rfl ?_
        refine w_st (i' := 34) (ls' := [.ref 0, .int p1, .int p2, .ref 61]) (st' := [.int p1, .ref 65]) (E' := E1) (I' := I1) (J' := J1) (S' := S1) am_e126 rfl rfl rfl rfl ?_
        have hf7 := h.1
        replace h := h.2
        refine w_ia (k := 65) (n := 4) (jn := p1.toNatClampNeg) am_e126 rfl rfl (by decide) hf7 rfl ?_
        exact w_ri am_e126 rfl rfl h
      by_cases c6 : p2 = nI 6
      · replace h := h.2.2.2.2.2.2.1 c6
        refine w_to (i2 := 36) (by rw [c6]; first | done | rfl) ?_
        refine w_st (i' := 37) (ls' := [.ref 0, .int p1, .int p2, .ref 61]) (st' := [.ref 61]) (E' := E1) (I' := I1) (J' := J1) (S' := S1) am_e126 rfl rfl rfl rfl ?_
        refine w_st (i' := 38) (ls' := [.ref 0, .int p1, .int p2, .ref 61]) (st' := [.ref 0, .ref 61]) (E' := E1) (I' := I1) (J' := J1) (S' := S1) am_e126 rfl rfl rfl rfl ?_
        refine w_st (i' := 39) (ls' := [.ref 0, .int p1, .int p2, .ref 61]) (st' := [.ref 12, .ref 61]) (E' := E1) (I' := I1) (J' := J1) (S' := S1) am_e126 rfl rfl rfl rfl ?_
        refine w_st (i' := 40) (ls' := [.ref 0, .int p1, .int p2, .ref 61]) (st' := [.int p1, .ref 12, .ref 61]) (E' := E1) (I' := I1) (J' := J1) (S' := S1) am_e126 rfl rfl rfl rfl ?_
        refine w_cI am_e126 rfl rfl (as := [.ref 61, .ref 12, .int p1]) (rest := []) rfl rfl ?_
        show am_ww 25 0 [.ref 61, .ref 12, .int p1] [] E1 I1 J1 S1 _
        refine w_st (i' := 1) (ls' := [.ref 61, .ref 12, .int p1]) (st' := [.ref 61]) (E' := E1) (I' := I1) (J' := J1) (S' := S1) am_e25 rfl rfl rfl rfl ?_
        refine w_st (i' := 2) (ls' := [.ref 61, .ref 12, .int p1]) (st' := [.ref 64]) (E' := E1) (I' := I1) (J' := J1) (S' := S1) am_e25 rfl rfl rfl rfl ?_
        refine w_st (i' := 3) (ls' := [.ref 61, .ref 12, .int p1]) (st' := [.int p1, .ref 64]) (E' := E1) (I' := I1) (J' := J1) (S' := S1) am_e25 rfl rfl rfl rfl ?_
        have hf8 := h.1
        replace h := h.2
        refine w_ia (k := 64) (n := 4) (jn := p1.toNatClampNeg) am_e25 rfl rfl (by decide) hf8 rfl ?_
        refine w_st (i' := 5) (ls' := [.ref 61, .ref 12, .int p1]) (st' := [.ref 12, .int ((I1 64) p1.toNatClampNeg)]) (E' := E1) (I' := I1) (J' := J1) (S' := S1) am_e25 rfl rfl rfl rfl ?_
        refine w_st (i' := 6) (ls' := [.ref 61, .ref 12, .int p1]) (st' := [.ref 15, .int ((I1 64) p1.toNatClampNeg)]) (E' := E1) (I' := I1) (J' := J1) (S' := S1) am_e25 rfl rfl rfl rfl ?_
        refine w_st (i' := 7) (ls' := [.ref 61, .ref 12, .int p1]) (st' := [.int p1, .ref 15, .int ((I1 64) p1.toNatClampNeg)]) (E' := E1) (I' := I1) (J' := J1) (S' := S1) am_e25 rfl rfl rfl rfl ?_
        refine w_ia (k := 15) (n := 4) (jn := p1.toNatClampNeg) am_e25 rfl rfl (by decide) hf8 rfl ?_
        refine w_if2 am_e25 rfl rfl (fun c => ?_) (fun c => ?_)
        · replace h := h.1 (of_decide_eq_true c)
          refine w_st (i' := 12) (ls' := [.ref 61, .ref 12, .int p1]) (st' := [.int (nI 0)]) (E' := E1) (I' := I1) (J' := J1) (S' := S1) am_e25 rfl rfl rfl rfl ?_
          refine w_end (E' := E1) (I' := I1) (J' := J1) (S' := S1) am_e25 rfl rfl rfl (q_mkI ?_)
          show am_ww 126 41 [.ref 0, .int p1, .int p2, .ref 61] [.int (nI 0)] E1 I1 J1 S1 _
          refine w_st (i' := 44) (ls' := [.ref 0, .int p1, .int p2, .ref 61]) (st' := []) (E' := E1) (I' := I1) (J' := J1) (S' := S1) am_e126 rfl rfl rfl rfl ?_
          refine w_st (i' := 45) (ls' := [.ref 0, .int p1, .int p2, .ref 61]) (st' := [.int (nI 0)]) (E' := E1) (I' := I1) (J' := J1) (S' := S1) am_e126 rfl rfl rfl rfl ?_
          exact w_end am_e126 rfl rfl rfl h
        · replace h := h.2 (of_decide_eq_false c)
          refine w_st (i' := 10) (ls' := [.ref 61, .ref 12, .int p1]) (st' := [.int (nI 1)]) (E' := E1) (I' := I1) (J' := J1) (S' := S1) am_e25 rfl rfl rfl rfl ?_
          refine w_st (i' := 12) (ls' := [.ref 61, .ref 12, .int p1]) (st' := [.int (nI 1)]) (E' := E1) (I' := I1) (J' := J1) (S' := S1) am_e25 rfl rfl rfl rfl ?_
          refine w_end (E' := E1) (I' := I1) (J' := J1) (S' := S1) am_e25 rfl rfl rfl (q_mkI ?_)
          show am_ww 126 41 [.ref 0, .int p1, .int p2, .ref 61] [.int (nI 1)] E1 I1 J1 S1 _
          refine w_st (i' := 42) (ls' := [.ref 0, .int p1, .int p2, .ref 61]) (st' := []) (E' := E1) (I' := I1) (J' := J1) (S' := S1) am_e126 rfl rfl rfl rfl ?_
          refine w_st (i' := 43) (ls' := [.ref 0, .int p1, .int p2, .ref 61]) (st' := [.int (nI 1)]) (E' := E1) (I' := I1) (J' := J1) (S' := S1) am_e126 rfl rfl rfl rfl ?_
          refine w_st (i' := 45) (ls' := [.ref 0, .int p1, .int p2, .ref 61]) (st' := [.int (nI 1)]) (E' := E1) (I' := I1) (J' := J1) (S' := S1) am_e126 rfl rfl rfl rfl ?_
          exact w_end am_e126 rfl rfl rfl h
      by_cases c7 : p2 = nI 7
      · replace h := h.2.2.2.2.2.2.2.1 c7
        refine w_to (i2 := 46) (by rw [c7]; first | done | rfl) ?_
        refine w_st (i' := 47) (ls' := [.ref 0, .int p1, .int p2, .ref 61]) (st' := [.ref 61]) (E' := E1) (I' := I1) (J' := J1) (S' := S1) am_e126 rfl rfl rfl rfl ?_
        refine w_st (i' := 48) (ls' := [.ref 0, .int p1, .int p2, .ref 61]) (st' := [.int ((I1 61) 6)]) (E' := E1) (I' := I1) (J' := J1) (S' := S1) am_e126 rfl rfl rfl rfl ?_
        refine w_st (i' := 49) (ls' := [.ref 0, .int p1, .int p2, .ref 61]) (st' := [.int p1, .int ((I1 61) 6)]) (E' := E1) (I' := I1) (J' := J1) (S' := S1) am_e126 rfl rfl rfl rfl ?_
        refine w_mg (i := 53) (ls' := [.ref 0, .int p1, .int p2, .ref 61]) (st' := [.int (if ((I1 61) 6) = p1 then nI 1 else nI 0)]) (fun hm => ?_) ?_
        · clear h
          refine w_if2 am_e126 rfl rfl (fun c => ?_) (fun c => ?_)
          · have m9 : ¬ (((I1 61) 6) = p1) := (of_decide_eq_true c)
            refine w_st (i' := 53) (ls' := [.ref 0, .int p1, .int p2, .ref 61]) (st' := [.int (nI 0)]) (E' := E1) (I' := I1) (J' := J1) (S' := S1) am_e126 rfl rfl rfl rfl ?_
            first | exact hm | (simp only [if_neg m9] at hm; exact hm)
          · have m9 : ((I1 61) 6) = p1 := (Decidable.not_not.mp (of_decide_eq_false c))
            refine w_st (i' := 51) (ls' := [.ref 0, .int p1, .int p2, .ref 61]) (st' := [.int (nI 1)]) (E' := E1) (I' := I1) (J' := J1) (S' := S1) am_e126 rfl rfl rfl rfl ?_
            refine w_st (i' := 53) (ls' := [.ref 0, .int p1, .int p2, .ref 61]) (st' := [.int (nI 1)]) (E' := E1) (I' := I1) (J' := J1) (S' := S1) am_e126 rfl rfl rfl rfl ?_
            first | exact hm | (simp only [if_pos m9] at hm; exact hm)
        refine w_var (fun w10 => am_ww 126 53 [.ref 0, .int p1, .int p2, .ref 61] [.int w10] E1 I1 J1 S1 _) (if ((I1 61) 6) = p1 then nI 1 else nI 0) (fun w10 hw10 => ?_)
        replace h := h w10 hw10
        exact w_ri am_e126 rfl rfl h
      replace h := h.2.2.2.2.2.2.2.2 c0 c1 c2 c3 c4 c5 c6 c7
      refine w_to (i2 := 54) (am_tb_out (lo := 0) (up := 7) (by intro q h1 h2; have : q = 0 ∨ q = 1 ∨ q = 2 ∨ q = 3 ∨ q = 4 ∨ q = 5 ∨ q = 6 ∨ q = 7 := (by omega); rcases this with rfl | rfl | rfl | rfl | rfl | rfl | rfl | rfl <;> assumption)) ?_
      exact w_end (r := .inr 0) (E' := (E1.1 + 1, E1.2.1 + 6, E1.2.2)) am_e126 rfl rfl rfl h
-- 129 lock
theorem g129_0 {p1 : Int32} {E : am_Ev} {I : Nat → Nat → Int32} {J : Nat → Nat → Int64} {S : Nat → Nat → Option Nat} {Q : am_Qt}  (h : (p1 < 0 → (Q (.inr 0) (E.1 + 1, E.2.1 + 6, E.2.2) I J S)) ∧ (¬ p1 < 0 → ((p1 < (nI 4) → (am_cl 52 [.ref 0, .int ((I 18) 11)] E I J S (q_R fun a E1 I1 J1 S1 => a = 61 ∧ (vp_in p1 4 ∧ (Q (.inl (some (.int ((I1 66) p1.toNatClampNeg)))) E1 I1 J1 S1))))) ∧ (¬ p1 < (nI 4) → (Q (.inr 0) (E.1 + 1, E.2.1 + 6, E.2.2) I J S))))) : am_ww 129 0 [.ref 0, .int p1] [] E I J S Q := by
  refine w_st (i' := 1) (ls' := [.ref 0, .int p1]) (st' := [.int p1]) (E' := E) (I' := I) (J' := J) (S' := S) am_e129 rfl rfl rfl rfl ?_
  refine w_if1 am_e129 rfl rfl (fun c => ?_) (fun c => ?_)
  · replace h := h.1 (of_decide_eq_true c)
    exact w_end (r := .inr 0) (E' := (E.1 + 1, E.2.1 + 6, E.2.2)) am_e129 rfl rfl rfl h
  · replace h := h.2 (of_decide_eq_false c)
    refine w_st (i' := 3) (ls' := [.ref 0, .int p1]) (st' := [.int p1]) (E' := E) (I' := I) (J' := J) (S' := S) am_e129 rfl rfl rfl rfl ?_
    refine w_st (i' := 4) (ls' := [.ref 0, .int p1]) (st' := [.int (nI 4), .int p1]) (E' := E) (I' := I) (J' := J) (S' := S) am_e129 rfl rfl rfl rfl ?_
    refine w_if2 am_e129 rfl rfl (fun c => ?_) (fun c => ?_)
    · replace h := h.1 (of_decide_eq_true c)
      refine w_st (i' := 11) (ls' := [.ref 0, .int p1]) (st' := [.ref 0]) (E' := E) (I' := I) (J' := J) (S' := S) am_e129 rfl rfl rfl rfl ?_
      refine w_st (i' := 12) (ls' := [.ref 0, .int p1]) (st' := [.ref 0, .ref 0]) (E' := E) (I' := I) (J' := J) (S' := S) am_e129 rfl rfl rfl rfl ?_
      refine w_st (i' := 13) (ls' := [.ref 0, .int p1]) (st' := [.ref 18, .ref 0]) (E' := E) (I' := I) (J' := J) (S' := S) am_e129 rfl rfl rfl rfl ?_
      refine w_st (i' := 14) (ls' := [.ref 0, .int p1]) (st' := [.int ((I 18) 11), .ref 0]) (E' := E) (I' := I) (J' := J) (S' := S) am_e129 rfl rfl rfl rfl ?_
      refine w_cR am_e129 rfl rfl (as := [.ref 0, .int ((I 18) 11)]) (rest := []) rfl rfl (am_ww.mono h ?_)
      rintro _ E1 I1 J1 S1 ⟨_, rfl, rfl, h⟩
      refine q_mkR ?_
      refine w_st (i' := 16) (ls' := [.ref 0, .int p1]) (st' := [.ref 66]) (E' := E1) (I' := I1) (J' := J1) (S' := S1) am_e129 rfl rfl rfl rfl ?_
      refine w_st (i' := 17) (ls' := [.ref 0, .int p1]) (st' := [.int p1, .ref 66]) (E' := E1) (I' := I1) (J' := J1) (S' := S1) am_e129 rfl rfl rfl rfl ?_
      have hf2 := h.1
      replace h := h.2
      refine w_ia (k := 66) (n := 4) (jn := p1.toNatClampNeg) am_e129 rfl rfl (by decide) hf2 rfl ?_
      exact w_ri am_e129 rfl rfl h
    · replace h := h.2 (of_decide_eq_false c)
      exact w_end (r := .inr 0) (E' := (E.1 + 1, E.2.1 + 6, E.2.2)) am_e129 rfl rfl rfl h
-- 131 back
theorem g131_0 {p1 : Int32} {p2 : Int32} {E : am_Ev} {I : Nat → Nat → Int32} {J : Nat → Nat → Int64} {S : Nat → Nat → Option Nat} {Q : am_Qt}  (h : am_cl 132 [.ref 0, .int p1, .int p2] E I J S (fun r E1 I1 J1 S1 => match r with | .inl w => w = none ∧ (am_ww 131 14 [.ref 0, .int p1, .int p2, .int ((p1 * (nI 16)) + p2), .int ((I1 18) 11)] [] E1 I1 J1 S1 Q) | .inr e => Q (.inr e) E1 I1 J1 S1)) : am_ww 131 0 [.ref 0, .int p1, .int p2, am_U, am_U] [] E I J S Q := by
  refine w_st (i' := 1) (ls' := [.ref 0, .int p1, .int p2, am_U, am_U]) (st' := [.ref 0]) (E' := E) (I' := I) (J' := J) (S' := S) am_e131 rfl rfl rfl rfl ?_
  refine w_st (i' := 2) (ls' := [.ref 0, .int p1, .int p2, am_U, am_U]) (st' := [.int p1, .ref 0]) (E' := E) (I' := I) (J' := J) (S' := S) am_e131 rfl rfl rfl rfl ?_
  refine w_st (i' := 3) (ls' := [.ref 0, .int p1, .int p2, am_U, am_U]) (st' := [.int p2, .int p1, .ref 0]) (E' := E) (I' := I) (J' := J) (S' := S) am_e131 rfl rfl rfl rfl ?_
  refine w_cX am_e131 rfl rfl (as := [.ref 0, .int p1, .int p2]) (rest := []) rfl rfl rfl (am_ww.mono h ?_)
  intro r E1 I1 J1 S1 h
  cases r with
  | inr e => exact h
  | inl w =>
    obtain ⟨rfl, h⟩ := h
    refine w_st (i' := 5) (ls' := [.ref 0, .int p1, .int p2, am_U, am_U]) (st' := [.int p1]) (E' := E1) (I' := I1) (J' := J1) (S' := S1) am_e131 rfl rfl rfl rfl ?_
    refine w_st (i' := 6) (ls' := [.ref 0, .int p1, .int p2, am_U, am_U]) (st' := [.int (nI 16), .int p1]) (E' := E1) (I' := I1) (J' := J1) (S' := S1) am_e131 rfl rfl rfl rfl ?_
    refine w_st (i' := 7) (ls' := [.ref 0, .int p1, .int p2, am_U, am_U]) (st' := [.int (p1 * (nI 16))]) (E' := E1) (I' := I1) (J' := J1) (S' := S1) am_e131 rfl rfl rfl rfl ?_
    refine w_st (i' := 8) (ls' := [.ref 0, .int p1, .int p2, am_U, am_U]) (st' := [.int p2, .int (p1 * (nI 16))]) (E' := E1) (I' := I1) (J' := J1) (S' := S1) am_e131 rfl rfl rfl rfl ?_
    refine w_st (i' := 9) (ls' := [.ref 0, .int p1, .int p2, am_U, am_U]) (st' := [.int ((p1 * (nI 16)) + p2)]) (E' := E1) (I' := I1) (J' := J1) (S' := S1) am_e131 rfl rfl rfl rfl ?_
    refine w_st (i' := 10) (ls' := [.ref 0, .int p1, .int p2, .int ((p1 * (nI 16)) + p2), am_U]) (st' := []) (E' := E1) (I' := I1) (J' := J1) (S' := S1) am_e131 rfl rfl rfl rfl ?_
    refine w_st (i' := 11) (ls' := [.ref 0, .int p1, .int p2, .int ((p1 * (nI 16)) + p2), am_U]) (st' := [.ref 0]) (E' := E1) (I' := I1) (J' := J1) (S' := S1) am_e131 rfl rfl rfl rfl ?_
    refine w_st (i' := 12) (ls' := [.ref 0, .int p1, .int p2, .int ((p1 * (nI 16)) + p2), am_U]) (st' := [.ref 18]) (E' := E1) (I' := I1) (J' := J1) (S' := S1) am_e131 rfl rfl rfl rfl ?_
    refine w_st (i' := 13) (ls' := [.ref 0, .int p1, .int p2, .int ((p1 * (nI 16)) + p2), am_U]) (st' := [.int ((I1 18) 11)]) (E' := E1) (I' := I1) (J' := J1) (S' := S1) am_e131 rfl rfl rfl rfl ?_
    refine w_st (i' := 14) (ls' := [.ref 0, .int p1, .int p2, .int ((p1 * (nI 16)) + p2), .int ((I1 18) 11)]) (st' := []) (E' := E1) (I' := I1) (J' := J1) (S' := S1) am_e131 rfl rfl rfl rfl ?_
    exact h
theorem g131_14 {d1 : Value} {d2 : Value} {x3 : Int32} {x4 : Int32} {E : am_Ev} {I : Nat → Nat → Int32} {J : Nat → Nat → Int64} {S : Nat → Nat → Option Nat} {Q : am_Qt} (hd1 : am_isL d1 = false) (hd2 : am_isL d2 = false) (h : (x4 < (nI 1) → (Q (.inl (some (.int (-1)))) E I J S)) ∧ (¬ x4 < (nI 1) → (vp_in x4 401 ∧ ((((I 33) x4.toNatClampNeg) = x3 → (Q (.inl (some (.int x4))) E (u_I I 18 (upd (I 18) 11 (x4 - (nI 1)))) J S)) ∧ (¬ ((I 33) x4.toNatClampNeg) = x3 → (am_ww 131 14 [.ref 0, d1, d2, .int x3, .int (x4 - nI 1)] [] E I J S Q)))))) : am_ww 131 14 [.ref 0, d1, d2, .int x3, .int x4] [] E I J S Q := by
  refine w_st (i' := 15) (ls' := [.ref 0, d1, d2, .int x3, .int x4]) (st' := [.int x4]) (E' := E) (I' := I) (J' := J) (S' := S) am_e131 rfl rfl rfl rfl ?_
  refine w_st (i' := 16) (ls' := [.ref 0, d1, d2, .int x3, .int x4]) (st' := [.int (nI 1), .int x4]) (E' := E) (I' := I) (J' := J) (S' := S) am_e131 rfl rfl rfl rfl ?_
  refine w_if2 am_e131 rfl rfl (fun c => ?_) (fun c => ?_)
  · replace h := h.1 (of_decide_eq_true c)
    refine w_st (i' := 35) (ls' := [.ref 0, d1, d2, .int x3, .int x4]) (st' := [.int (-1)]) (E' := E) (I' := I) (J' := J) (S' := S) am_e131 rfl rfl rfl rfl ?_
    exact w_end am_e131 rfl rfl rfl h
  · replace h := h.2 (of_decide_eq_false c)
    refine w_st (i' := 18) (ls' := [.ref 0, d1, d2, .int x3, .int x4]) (st' := [.ref 0]) (E' := E) (I' := I) (J' := J) (S' := S) am_e131 rfl rfl rfl rfl ?_
    refine w_st (i' := 19) (ls' := [.ref 0, d1, d2, .int x3, .int x4]) (st' := [.ref 18]) (E' := E) (I' := I) (J' := J) (S' := S) am_e131 rfl rfl rfl rfl ?_
    refine w_st (i' := 20) (ls' := [.ref 0, d1, d2, .int x3, .int x4]) (st' := [.ref 33]) (E' := E) (I' := I) (J' := J) (S' := S) am_e131 rfl rfl rfl rfl ?_
    refine w_st (i' := 21) (ls' := [.ref 0, d1, d2, .int x3, .int x4]) (st' := [.int x4, .ref 33]) (E' := E) (I' := I) (J' := J) (S' := S) am_e131 rfl rfl rfl rfl ?_
    have hf1 := h.1
    replace h := h.2
    refine w_ia (k := 33) (n := 401) (jn := x4.toNatClampNeg) am_e131 rfl rfl (by decide) hf1 rfl ?_
    refine w_st (i' := 23) (ls' := [.ref 0, d1, d2, .int x3, .int x4]) (st' := [.int x3, .int ((I 33) x4.toNatClampNeg)]) (E' := E) (I' := I) (J' := J) (S' := S) am_e131 rfl rfl rfl rfl ?_
    refine w_if2 am_e131 rfl rfl (fun c => ?_) (fun c => ?_)
    · replace h := h.2 (of_decide_eq_true c)
      refine w_st (i' := 33) (ls' := [.ref 0, d1, d2, .int x3, .int (x4 - nI 1)]) (st' := []) (E' := E) (I' := I) (J' := J) (S' := S) am_e131 rfl rfl rfl rfl ?_
      refine w_st (i' := 14) (ls' := [.ref 0, d1, d2, .int x3, .int (x4 - nI 1)]) (st' := []) (E' := E) (I' := I) (J' := J) (S' := S) am_e131 rfl rfl rfl rfl ?_
      exact h
    · replace h := h.1 (Decidable.not_not.mp (of_decide_eq_false c))
      refine w_st (i' := 25) (ls' := [.ref 0, d1, d2, .int x3, .int x4]) (st' := [.ref 0]) (E' := E) (I' := I) (J' := J) (S' := S) am_e131 rfl rfl rfl rfl ?_
      refine w_st (i' := 26) (ls' := [.ref 0, d1, d2, .int x3, .int x4]) (st' := [.ref 18]) (E' := E) (I' := I) (J' := J) (S' := S) am_e131 rfl rfl rfl rfl ?_
      refine w_st (i' := 27) (ls' := [.ref 0, d1, d2, .int x3, .int x4]) (st' := [.int x4, .ref 18]) (E' := E) (I' := I) (J' := J) (S' := S) am_e131 rfl rfl rfl rfl ?_
      refine w_st (i' := 28) (ls' := [.ref 0, d1, d2, .int x3, .int x4]) (st' := [.int (nI 1), .int x4, .ref 18]) (E' := E) (I' := I) (J' := J) (S' := S) am_e131 rfl rfl rfl rfl ?_
      refine w_st (i' := 29) (ls' := [.ref 0, d1, d2, .int x3, .int x4]) (st' := [.int (x4 - (nI 1)), .ref 18]) (E' := E) (I' := I) (J' := J) (S' := S) am_e131 rfl rfl rfl rfl ?_
      refine w_st (i' := 30) (ls' := [.ref 0, d1, d2, .int x3, .int x4]) (st' := []) (E' := E) (I' := (u_I I 18 (upd (I 18) 11 (x4 - (nI 1))))) (J' := J) (S' := S) am_e131 rfl rfl rfl rfl ?_
      refine w_st (i' := 31) (ls' := [.ref 0, d1, d2, .int x3, .int x4]) (st' := [.int x4]) (E' := E) (I' := (u_I I 18 (upd (I 18) 11 (x4 - (nI 1))))) (J' := J) (S' := S) am_e131 rfl rfl rfl rfl ?_
      exact w_ri am_e131 rfl rfl h
-- 134 on
theorem g134_0 {p1 : Int32} {p2 : Int32} {E : am_Ev} {I : Nat → Nat → Int32} {J : Nat → Nat → Int64} {S : Nat → Nat → Option Nat} {Q : am_Qt}  (h : am_cl 132 [.ref 0, .int p1, .int p2] E I J S (fun r E1 I1 J1 S1 => match r with | .inl w => w = none ∧ (am_ww 134 16 [.ref 0, .int p1, .int p2, .int ((p1 * (nI 16)) + p2), .int (((I1 18) 11) + (nI 1))] [] E1 I1 J1 S1 Q) | .inr e => Q (.inr e) E1 I1 J1 S1)) : am_ww 134 0 [.ref 0, .int p1, .int p2, am_U, am_U] [] E I J S Q := by
  refine w_st (i' := 1) (ls' := [.ref 0, .int p1, .int p2, am_U, am_U]) (st' := [.ref 0]) (E' := E) (I' := I) (J' := J) (S' := S) am_e134 rfl rfl rfl rfl ?_
  refine w_st (i' := 2) (ls' := [.ref 0, .int p1, .int p2, am_U, am_U]) (st' := [.int p1, .ref 0]) (E' := E) (I' := I) (J' := J) (S' := S) am_e134 rfl rfl rfl rfl ?_
  refine w_st (i' := 3) (ls' := [.ref 0, .int p1, .int p2, am_U, am_U]) (st' := [.int p2, .int p1, .ref 0]) (E' := E) (I' := I) (J' := J) (S' := S) am_e134 rfl rfl rfl rfl ?_
  refine w_cX am_e134 rfl rfl (as := [.ref 0, .int p1, .int p2]) (rest := []) rfl rfl rfl (am_ww.mono h ?_)
  intro r E1 I1 J1 S1 h
  cases r with
  | inr e => exact h
  | inl w =>
    obtain ⟨rfl, h⟩ := h
    refine w_st (i' := 5) (ls' := [.ref 0, .int p1, .int p2, am_U, am_U]) (st' := [.int p1]) (E' := E1) (I' := I1) (J' := J1) (S' := S1) am_e134 rfl rfl rfl rfl ?_
    refine w_st (i' := 6) (ls' := [.ref 0, .int p1, .int p2, am_U, am_U]) (st' := [.int (nI 16), .int p1]) (E' := E1) (I' := I1) (J' := J1) (S' := S1) am_e134 rfl rfl rfl rfl ?_
    refine w_st (i' := 7) (ls' := [.ref 0, .int p1, .int p2, am_U, am_U]) (st' := [.int (p1 * (nI 16))]) (E' := E1) (I' := I1) (J' := J1) (S' := S1) am_e134 rfl rfl rfl rfl ?_
    refine w_st (i' := 8) (ls' := [.ref 0, .int p1, .int p2, am_U, am_U]) (st' := [.int p2, .int (p1 * (nI 16))]) (E' := E1) (I' := I1) (J' := J1) (S' := S1) am_e134 rfl rfl rfl rfl ?_
    refine w_st (i' := 9) (ls' := [.ref 0, .int p1, .int p2, am_U, am_U]) (st' := [.int ((p1 * (nI 16)) + p2)]) (E' := E1) (I' := I1) (J' := J1) (S' := S1) am_e134 rfl rfl rfl rfl ?_
    refine w_st (i' := 10) (ls' := [.ref 0, .int p1, .int p2, .int ((p1 * (nI 16)) + p2), am_U]) (st' := []) (E' := E1) (I' := I1) (J' := J1) (S' := S1) am_e134 rfl rfl rfl rfl ?_
    refine w_st (i' := 11) (ls' := [.ref 0, .int p1, .int p2, .int ((p1 * (nI 16)) + p2), am_U]) (st' := [.ref 0]) (E' := E1) (I' := I1) (J' := J1) (S' := S1) am_e134 rfl rfl rfl rfl ?_
    refine w_st (i' := 12) (ls' := [.ref 0, .int p1, .int p2, .int ((p1 * (nI 16)) + p2), am_U]) (st' := [.ref 18]) (E' := E1) (I' := I1) (J' := J1) (S' := S1) am_e134 rfl rfl rfl rfl ?_
    refine w_st (i' := 13) (ls' := [.ref 0, .int p1, .int p2, .int ((p1 * (nI 16)) + p2), am_U]) (st' := [.int ((I1 18) 11)]) (E' := E1) (I' := I1) (J' := J1) (S' := S1) am_e134 rfl rfl rfl rfl ?_
    refine w_st (i' := 14) (ls' := [.ref 0, .int p1, .int p2, .int ((p1 * (nI 16)) + p2), am_U]) (st' := [.int (nI 1), .int ((I1 18) 11)]) (E' := E1) (I' := I1) (J' := J1) (S' := S1) am_e134 rfl rfl rfl rfl ?_
    refine w_st (i' := 15) (ls' := [.ref 0, .int p1, .int p2, .int ((p1 * (nI 16)) + p2), am_U]) (st' := [.int (((I1 18) 11) + (nI 1))]) (E' := E1) (I' := I1) (J' := J1) (S' := S1) am_e134 rfl rfl rfl rfl ?_
    refine w_st (i' := 16) (ls' := [.ref 0, .int p1, .int p2, .int ((p1 * (nI 16)) + p2), .int (((I1 18) 11) + (nI 1))]) (st' := []) (E' := E1) (I' := I1) (J' := J1) (S' := S1) am_e134 rfl rfl rfl rfl ?_
    exact h
theorem g134_16 {d1 : Value} {d2 : Value} {x3 : Int32} {x4 : Int32} {E : am_Ev} {I : Nat → Nat → Int32} {J : Nat → Nat → Int64} {S : Nat → Nat → Option Nat} {Q : am_Qt} (hd1 : am_isL d1 = false) (hd2 : am_isL d2 = false) (h : (((I 18) 10) < x4 → (Q (.inl (some (.int (-1)))) E I J S)) ∧ (¬ ((I 18) 10) < x4 → (vp_in x4 401 ∧ ((((I 33) x4.toNatClampNeg) = x3 → (Q (.inl (some (.int x4))) E (u_I I 18 (upd (I 18) 11 x4)) J S)) ∧ (¬ ((I 33) x4.toNatClampNeg) = x3 → (am_ww 134 16 [.ref 0, d1, d2, .int x3, .int (x4 + nI 1)] [] E I J S Q)))))) : am_ww 134 16 [.ref 0, d1, d2, .int x3, .int x4] [] E I J S Q := by
  refine w_st (i' := 17) (ls' := [.ref 0, d1, d2, .int x3, .int x4]) (st' := [.int x4]) (E' := E) (I' := I) (J' := J) (S' := S) am_e134 rfl rfl rfl rfl ?_
  refine w_st (i' := 18) (ls' := [.ref 0, d1, d2, .int x3, .int x4]) (st' := [.ref 0, .int x4]) (E' := E) (I' := I) (J' := J) (S' := S) am_e134 rfl rfl rfl rfl ?_
  refine w_st (i' := 19) (ls' := [.ref 0, d1, d2, .int x3, .int x4]) (st' := [.ref 18, .int x4]) (E' := E) (I' := I) (J' := J) (S' := S) am_e134 rfl rfl rfl rfl ?_
  refine w_st (i' := 20) (ls' := [.ref 0, d1, d2, .int x3, .int x4]) (st' := [.int ((I 18) 10), .int x4]) (E' := E) (I' := I) (J' := J) (S' := S) am_e134 rfl rfl rfl rfl ?_
  refine w_if2 am_e134 rfl rfl (fun c => ?_) (fun c => ?_)
  · replace h := h.1 (of_decide_eq_true c)
    refine w_st (i' := 37) (ls' := [.ref 0, d1, d2, .int x3, .int x4]) (st' := [.int (-1)]) (E' := E) (I' := I) (J' := J) (S' := S) am_e134 rfl rfl rfl rfl ?_
    exact w_end am_e134 rfl rfl rfl h
  · replace h := h.2 (of_decide_eq_false c)
    refine w_st (i' := 22) (ls' := [.ref 0, d1, d2, .int x3, .int x4]) (st' := [.ref 0]) (E' := E) (I' := I) (J' := J) (S' := S) am_e134 rfl rfl rfl rfl ?_
    refine w_st (i' := 23) (ls' := [.ref 0, d1, d2, .int x3, .int x4]) (st' := [.ref 18]) (E' := E) (I' := I) (J' := J) (S' := S) am_e134 rfl rfl rfl rfl ?_
    refine w_st (i' := 24) (ls' := [.ref 0, d1, d2, .int x3, .int x4]) (st' := [.ref 33]) (E' := E) (I' := I) (J' := J) (S' := S) am_e134 rfl rfl rfl rfl ?_
    refine w_st (i' := 25) (ls' := [.ref 0, d1, d2, .int x3, .int x4]) (st' := [.int x4, .ref 33]) (E' := E) (I' := I) (J' := J) (S' := S) am_e134 rfl rfl rfl rfl ?_
    have hf1 := h.1
    replace h := h.2
    refine w_ia (k := 33) (n := 401) (jn := x4.toNatClampNeg) am_e134 rfl rfl (by decide) hf1 rfl ?_
    refine w_st (i' := 27) (ls' := [.ref 0, d1, d2, .int x3, .int x4]) (st' := [.int x3, .int ((I 33) x4.toNatClampNeg)]) (E' := E) (I' := I) (J' := J) (S' := S) am_e134 rfl rfl rfl rfl ?_
    refine w_if2 am_e134 rfl rfl (fun c => ?_) (fun c => ?_)
    · replace h := h.2 (of_decide_eq_true c)
      refine w_st (i' := 35) (ls' := [.ref 0, d1, d2, .int x3, .int (x4 + nI 1)]) (st' := []) (E' := E) (I' := I) (J' := J) (S' := S) am_e134 rfl rfl rfl rfl ?_
      refine w_st (i' := 16) (ls' := [.ref 0, d1, d2, .int x3, .int (x4 + nI 1)]) (st' := []) (E' := E) (I' := I) (J' := J) (S' := S) am_e134 rfl rfl rfl rfl ?_
      exact h
    · replace h := h.1 (Decidable.not_not.mp (of_decide_eq_false c))
      refine w_st (i' := 29) (ls' := [.ref 0, d1, d2, .int x3, .int x4]) (st' := [.ref 0]) (E' := E) (I' := I) (J' := J) (S' := S) am_e134 rfl rfl rfl rfl ?_
      refine w_st (i' := 30) (ls' := [.ref 0, d1, d2, .int x3, .int x4]) (st' := [.ref 18]) (E' := E) (I' := I) (J' := J) (S' := S) am_e134 rfl rfl rfl rfl ?_
      refine w_st (i' := 31) (ls' := [.ref 0, d1, d2, .int x3, .int x4]) (st' := [.int x4, .ref 18]) (E' := E) (I' := I) (J' := J) (S' := S) am_e134 rfl rfl rfl rfl ?_
      refine w_st (i' := 32) (ls' := [.ref 0, d1, d2, .int x3, .int x4]) (st' := []) (E' := E) (I' := (u_I I 18 (upd (I 18) 11 x4))) (J' := J) (S' := S) am_e134 rfl rfl rfl rfl ?_
      refine w_st (i' := 33) (ls' := [.ref 0, d1, d2, .int x3, .int x4]) (st' := [.int x4]) (E' := E) (I' := (u_I I 18 (upd (I 18) 11 x4))) (J' := J) (S' := S) am_e134 rfl rfl rfl rfl ?_
      exact w_ri am_e134 rfl rfl h
-- 136 last
theorem g136_0 {p1 : Int32} {p2 : Int32} {E : am_Ev} {I : Nat → Nat → Int32} {J : Nat → Nat → Int64} {S : Nat → Nat → Option Nat} {Q : am_Qt}  (h : am_cl 124 [.ref 0, .int p1] E I J S (fun r E1 I1 J1 S1 => match r with | .inl w => w = none ∧ ((p2 < 0 → (Q (.inr 0) (E1.1 + 1, E1.2.1 + 6, E1.2.2) I1 J1 S1)) ∧ (¬ p2 < 0 → ((p2 ≤ (nI 2) → (am_cl 137 [.ref 0, .int p1] E1 I1 J1 S1 (q_I fun v2 E2 I2 J2 S2 => (v2 = (-1) → (Q (.inl (some (.int v2))) E2 I2 J2 S2)) ∧ (¬ v2 = (-1) → ((p2 = 0 → (Q (.inl (some (.int v2))) E2 I2 J2 S2)) ∧ (¬ p2 = 0 → (((p2 = (nI 1) → (vp_in v2 401 ∧ True)) ∧ (¬ p2 = (nI 1) → (vp_in v2 401 ∧ True))) ∧ (∀ w4 : Int32, w4 = (if p2 = (nI 1) then (((I2 33) v2.toNatClampNeg) / (nI 16)) else (((I2 33) v2.toNatClampNeg) - ((I2 33) v2.toNatClampNeg) / (nI 16) * (nI 16))) → (Q (.inl (some (.int w4))) E2 I2 J2 S2))))))))) ∧ (¬ p2 ≤ (nI 2) → (Q (.inr 0) (E1.1 + 1, E1.2.1 + 6, E1.2.2) I1 J1 S1))))) | .inr e => Q (.inr e) E1 I1 J1 S1)) : am_ww 136 0 [.ref 0, .int p1, .int p2, am_U] [] E I J S Q := by
  refine w_st (i' := 1) (ls' := [.ref 0, .int p1, .int p2, am_U]) (st' := [.ref 0]) (E' := E) (I' := I) (J' := J) (S' := S) am_e136 rfl rfl rfl rfl ?_
  refine w_st (i' := 2) (ls' := [.ref 0, .int p1, .int p2, am_U]) (st' := [.int p1, .ref 0]) (E' := E) (I' := I) (J' := J) (S' := S) am_e136 rfl rfl rfl rfl ?_
  refine w_cX am_e136 rfl rfl (as := [.ref 0, .int p1]) (rest := []) rfl rfl rfl (am_ww.mono h ?_)
  intro r E1 I1 J1 S1 h
  cases r with
  | inr e => exact h
  | inl w =>
    obtain ⟨rfl, h⟩ := h
    refine w_st (i' := 4) (ls' := [.ref 0, .int p1, .int p2, am_U]) (st' := [.int p2]) (E' := E1) (I' := I1) (J' := J1) (S' := S1) am_e136 rfl rfl rfl rfl ?_
    refine w_if1 am_e136 rfl rfl (fun c => ?_) (fun c => ?_)
    · replace h := h.1 (of_decide_eq_true c)
      exact w_end (r := .inr 0) (E' := (E1.1 + 1, E1.2.1 + 6, E1.2.2)) am_e136 rfl rfl rfl h
    · replace h := h.2 (of_decide_eq_false c)
      refine w_st (i' := 6) (ls' := [.ref 0, .int p1, .int p2, am_U]) (st' := [.int p2]) (E' := E1) (I' := I1) (J' := J1) (S' := S1) am_e136 rfl rfl rfl rfl ?_
      refine w_st (i' := 7) (ls' := [.ref 0, .int p1, .int p2, am_U]) (st' := [.int (nI 2), .int p2]) (E' := E1) (I' := I1) (J' := J1) (S' := S1) am_e136 rfl rfl rfl rfl ?_
      refine w_if2 am_e136 rfl rfl (fun c => ?_) (fun c => ?_)
      · replace h := h.1 (of_decide_eq_true c)
        refine w_st (i' := 14) (ls' := [.ref 0, .int p1, .int p2, am_U]) (st' := [.ref 0]) (E' := E1) (I' := I1) (J' := J1) (S' := S1) am_e136 rfl rfl rfl rfl ?_
        refine w_st (i' := 15) (ls' := [.ref 0, .int p1, .int p2, am_U]) (st' := [.int p1, .ref 0]) (E' := E1) (I' := I1) (J' := J1) (S' := S1) am_e136 rfl rfl rfl rfl ?_
        refine w_cI am_e136 rfl rfl (as := [.ref 0, .int p1]) (rest := []) rfl rfl (am_ww.mono h ?_)
        rintro _ E2 I2 J2 S2 ⟨v2, rfl, h⟩
        refine q_mkI ?_
        refine w_st (i' := 17) (ls' := [.ref 0, .int p1, .int p2, .int v2]) (st' := []) (E' := E2) (I' := I2) (J' := J2) (S' := S2) am_e136 rfl rfl rfl rfl ?_
        refine w_st (i' := 18) (ls' := [.ref 0, .int p1, .int p2, .int v2]) (st' := [.int v2]) (E' := E2) (I' := I2) (J' := J2) (S' := S2) am_e136 rfl rfl rfl rfl ?_
        refine w_st (i' := 19) (ls' := [.ref 0, .int p1, .int p2, .int v2]) (st' := [.int (-1), .int v2]) (E' := E2) (I' := I2) (J' := J2) (S' := S2) am_e136 rfl rfl rfl rfl ?_
        refine w_if2 am_e136 rfl rfl (fun c => ?_) (fun c => ?_)
        · replace h := h.1 (of_decide_eq_true c)
          refine w_st (i' := 23) (ls' := [.ref 0, .int p1, .int p2, .int v2]) (st' := [.int v2]) (E' := E2) (I' := I2) (J' := J2) (S' := S2) am_e136 rfl rfl rfl rfl ?_
          exact w_ri am_e136 rfl rfl h
        · replace h := h.2 (of_decide_eq_false c)
          refine w_st (i' := 21) (ls' := [.ref 0, .int p1, .int p2, .int v2]) (st' := [.int p2]) (E' := E2) (I' := I2) (J' := J2) (S' := S2) am_e136 rfl rfl rfl rfl ?_
          refine w_if1 am_e136 rfl rfl (fun c => ?_) (fun c => ?_)
          · replace h := h.2 (of_decide_eq_true c)
            refine w_st (i' := 25) (ls' := [.ref 0, .int p1, .int p2, .int v2]) (st' := [.int p2]) (E' := E2) (I' := I2) (J' := J2) (S' := S2) am_e136 rfl rfl rfl rfl ?_
            refine w_st (i' := 26) (ls' := [.ref 0, .int p1, .int p2, .int v2]) (st' := [.int (nI 1), .int p2]) (E' := E2) (I' := I2) (J' := J2) (S' := S2) am_e136 rfl rfl rfl rfl ?_
            refine w_mg (i := 42) (ls' := [.ref 0, .int p1, .int p2, .int v2]) (st' := [.int (if p2 = (nI 1) then (((I2 33) v2.toNatClampNeg) / (nI 16)) else (((I2 33) v2.toNatClampNeg) - ((I2 33) v2.toNatClampNeg) / (nI 16) * (nI 16)))]) (fun hm => ?_) ?_
            · replace h := h.1
              refine w_if2 am_e136 rfl rfl (fun c => ?_) (fun c => ?_)
              · have m3 : ¬ (p2 = (nI 1)) := (of_decide_eq_true c)
                replace h := h.2 m3
                refine w_st (i' := 36) (ls' := [.ref 0, .int p1, .int p2, .int v2]) (st' := [.ref 0]) (E' := E2) (I' := I2) (J' := J2) (S' := S2) am_e136 rfl rfl rfl rfl ?_
                refine w_st (i' := 37) (ls' := [.ref 0, .int p1, .int p2, .int v2]) (st' := [.ref 18]) (E' := E2) (I' := I2) (J' := J2) (S' := S2) am_e136 rfl rfl rfl rfl ?_
                refine w_st (i' := 38) (ls' := [.ref 0, .int p1, .int p2, .int v2]) (st' := [.ref 33]) (E' := E2) (I' := I2) (J' := J2) (S' := S2) am_e136 rfl rfl rfl rfl ?_
                refine w_st (i' := 39) (ls' := [.ref 0, .int p1, .int p2, .int v2]) (st' := [.int v2, .ref 33]) (E' := E2) (I' := I2) (J' := J2) (S' := S2) am_e136 rfl rfl rfl rfl ?_
                refine w_ia (k := 33) (n := 401) (jn := v2.toNatClampNeg) am_e136 rfl rfl (by decide) h.1 rfl ?_
                replace h := h.2
                show am_ww 136 40 [.ref 0, .int p1, .int p2, .int v2] [.int ((I2 33) v2.toNatClampNeg)] E2 I2 J2 S2 _
                refine w_st (i' := 41) (ls' := [.ref 0, .int p1, .int p2, .int v2]) (st' := [.int (nI 16), .int ((I2 33) v2.toNatClampNeg)]) (E' := E2) (I' := I2) (J' := J2) (S' := S2) am_e136 rfl rfl rfl rfl ?_
                refine w_rm (by decide) am_e136 rfl ?_
                first | exact hm | (simp only [if_neg m3] at hm; exact hm)
              · have m3 : p2 = (nI 1) := (Decidable.not_not.mp (of_decide_eq_false c))
                replace h := h.1 m3
                refine w_st (i' := 28) (ls' := [.ref 0, .int p1, .int p2, .int v2]) (st' := [.ref 0]) (E' := E2) (I' := I2) (J' := J2) (S' := S2) am_e136 rfl rfl rfl rfl ?_
                refine w_st (i' := 29) (ls' := [.ref 0, .int p1, .int p2, .int v2]) (st' := [.ref 18]) (E' := E2) (I' := I2) (J' := J2) (S' := S2) am_e136 rfl rfl rfl rfl ?_
                refine w_st (i' := 30) (ls' := [.ref 0, .int p1, .int p2, .int v2]) (st' := [.ref 33]) (E' := E2) (I' := I2) (J' := J2) (S' := S2) am_e136 rfl rfl rfl rfl ?_
                refine w_st (i' := 31) (ls' := [.ref 0, .int p1, .int p2, .int v2]) (st' := [.int v2, .ref 33]) (E' := E2) (I' := I2) (J' := J2) (S' := S2) am_e136 rfl rfl rfl rfl ?_
                refine w_ia (k := 33) (n := 401) (jn := v2.toNatClampNeg) am_e136 rfl rfl (by decide) h.1 rfl ?_
                replace h := h.2
                show am_ww 136 32 [.ref 0, .int p1, .int p2, .int v2] [.int ((I2 33) v2.toNatClampNeg)] E2 I2 J2 S2 _
                refine w_st (i' := 33) (ls' := [.ref 0, .int p1, .int p2, .int v2]) (st' := [.int (nI 16), .int ((I2 33) v2.toNatClampNeg)]) (E' := E2) (I' := I2) (J' := J2) (S' := S2) am_e136 rfl rfl rfl rfl ?_
                refine w_dv (by decide) am_e136 rfl ?_
                refine w_st (i' := 42) (ls' := [.ref 0, .int p1, .int p2, .int v2]) (st' := [.int (((I2 33) v2.toNatClampNeg) / (nI 16))]) (E' := E2) (I' := I2) (J' := J2) (S' := S2) am_e136 rfl rfl rfl rfl ?_
                first | exact hm | (simp only [if_pos m3] at hm; exact hm)
            replace h := h.2
            refine w_var (fun w4 => am_ww 136 42 [.ref 0, .int p1, .int p2, .int v2] [.int w4] E2 I2 J2 S2 _) (if p2 = (nI 1) then (((I2 33) v2.toNatClampNeg) / (nI 16)) else (((I2 33) v2.toNatClampNeg) - ((I2 33) v2.toNatClampNeg) / (nI 16) * (nI 16))) (fun w4 hw4 => ?_)
            replace h := h w4 hw4
            exact w_ri am_e136 rfl rfl h
          · replace h := h.1 (Decidable.not_not.mp (of_decide_eq_false c))
            refine w_st (i' := 23) (ls' := [.ref 0, .int p1, .int p2, .int v2]) (st' := [.int v2]) (E' := E2) (I' := I2) (J' := J2) (S' := S2) am_e136 rfl rfl rfl rfl ?_
            exact w_ri am_e136 rfl rfl h
      · replace h := h.2 (of_decide_eq_false c)
        exact w_end (r := .inr 0) (E' := (E1.1 + 1, E1.2.1 + 6, E1.2.2)) am_e136 rfl rfl rfl h
-- 140 held
theorem g140_0 {p1 : Int32} {E : am_Ev} {I : Nat → Nat → Int32} {J : Nat → Nat → Int64} {S : Nat → Nat → Option Nat} {Q : am_Qt}  (h : am_cl 124 [.ref 0, .int p1] E I J S (fun r E1 I1 J1 S1 => match r with | .inl w => w = none ∧ (am_cl 137 [.ref 0, .int p1] E1 I1 J1 S1 (q_I fun v2 E2 I2 J2 S2 => (v2 = (-1) → (Q (.inr 0) (E2.1 + 1, E2.2.1 + 6, E2.2.2) I2 J2 S2)) ∧ (¬ v2 = (-1) → (am_cl 52 [.ref 0, .int (v2 - (nI 1))] E2 I2 J2 S2 (q_R fun a E3 I3 J3 S3 => a = 61 ∧ (vp_in p1 16 ∧ (Q (.inl (some (.int ((I3 62) p1.toNatClampNeg)))) E3 I3 J3 S3))))))) | .inr e => Q (.inr e) E1 I1 J1 S1)) : am_ww 140 0 [.ref 0, .int p1, am_U] [] E I J S Q := by
  refine w_st (i' := 1) (ls' := [.ref 0, .int p1, am_U]) (st' := [.ref 0]) (E' := E) (I' := I) (J' := J) (S' := S) am_e140 rfl rfl rfl rfl ?_
  refine w_st (i' := 2) (ls' := [.ref 0, .int p1, am_U]) (st' := [.int p1, .ref 0]) (E' := E) (I' := I) (J' := J) (S' := S) am_e140 rfl rfl rfl rfl ?_
  refine w_cX am_e140 rfl rfl (as := [.ref 0, .int p1]) (rest := []) rfl rfl rfl (am_ww.mono h ?_)
  intro r E1 I1 J1 S1 h
  cases r with
  | inr e => exact h
  | inl w =>
    obtain ⟨rfl, h⟩ := h
    refine w_st (i' := 4) (ls' := [.ref 0, .int p1, am_U]) (st' := [.ref 0]) (E' := E1) (I' := I1) (J' := J1) (S' := S1) am_e140 rfl rfl rfl rfl ?_
    refine w_st (i' := 5) (ls' := [.ref 0, .int p1, am_U]) (st' := [.int p1, .ref 0]) (E' := E1) (I' := I1) (J' := J1) (S' := S1) am_e140 rfl rfl rfl rfl ?_
    refine w_cI am_e140 rfl rfl (as := [.ref 0, .int p1]) (rest := []) rfl rfl (am_ww.mono h ?_)
    rintro _ E2 I2 J2 S2 ⟨v2, rfl, h⟩
    refine q_mkI ?_
    refine w_st (i' := 7) (ls' := [.ref 0, .int p1, .int v2]) (st' := []) (E' := E2) (I' := I2) (J' := J2) (S' := S2) am_e140 rfl rfl rfl rfl ?_
    refine w_st (i' := 8) (ls' := [.ref 0, .int p1, .int v2]) (st' := [.int v2]) (E' := E2) (I' := I2) (J' := J2) (S' := S2) am_e140 rfl rfl rfl rfl ?_
    refine w_st (i' := 9) (ls' := [.ref 0, .int p1, .int v2]) (st' := [.int (-1), .int v2]) (E' := E2) (I' := I2) (J' := J2) (S' := S2) am_e140 rfl rfl rfl rfl ?_
    refine w_if2 am_e140 rfl rfl (fun c => ?_) (fun c => ?_)
    · replace h := h.2 (of_decide_eq_true c)
      refine w_st (i' := 16) (ls' := [.ref 0, .int p1, .int v2]) (st' := [.ref 0]) (E' := E2) (I' := I2) (J' := J2) (S' := S2) am_e140 rfl rfl rfl rfl ?_
      refine w_st (i' := 17) (ls' := [.ref 0, .int p1, .int v2]) (st' := [.int v2, .ref 0]) (E' := E2) (I' := I2) (J' := J2) (S' := S2) am_e140 rfl rfl rfl rfl ?_
      refine w_st (i' := 18) (ls' := [.ref 0, .int p1, .int v2]) (st' := [.int (nI 1), .int v2, .ref 0]) (E' := E2) (I' := I2) (J' := J2) (S' := S2) am_e140 rfl rfl rfl rfl ?_
      refine w_st (i' := 19) (ls' := [.ref 0, .int p1, .int v2]) (st' := [.int (v2 - (nI 1)), .ref 0]) (E' := E2) (I' := I2) (J' := J2) (S' := S2) am_e140 rfl rfl rfl rfl ?_
      refine w_cR am_e140 rfl rfl (as := [.ref 0, .int (v2 - (nI 1))]) (rest := []) rfl rfl (am_ww.mono h ?_)
      rintro _ E3 I3 J3 S3 ⟨_, rfl, rfl, h⟩
      refine q_mkR ?_
      refine w_st (i' := 21) (ls' := [.ref 0, .int p1, .int v2]) (st' := [.ref 62]) (E' := E3) (I' := I3) (J' := J3) (S' := S3) am_e140 rfl rfl rfl rfl ?_
      refine w_st (i' := 22) (ls' := [.ref 0, .int p1, .int v2]) (st' := [.int p1, .ref 62]) (E' := E3) (I' := I3) (J' := J3) (S' := S3) am_e140 rfl rfl rfl rfl ?_
      have hf4 := h.1
      replace h := h.2
      refine w_ia (k := 62) (n := 16) (jn := p1.toNatClampNeg) am_e140 rfl rfl (by decide) hf4 rfl ?_
      exact w_ri am_e140 rfl rfl h
    · replace h := h.1 (Decidable.not_not.mp (of_decide_eq_false c))
      exact w_end (r := .inr 0) (E' := (E2.1 + 1, E2.2.1 + 6, E2.2.2)) am_e140 rfl rfl rfl h
-- 142 firstRead
theorem g142_0 {p1 : Int32} {E : am_Ev} {I : Nat → Nat → Int32} {J : Nat → Nat → Int64} {S : Nat → Nat → Option Nat} {Q : am_Qt}  (h : am_cl 124 [.ref 0, .int p1] E I J S (fun r E1 I1 J1 S1 => match r with | .inl w => w = none ∧ (am_ww 142 9 [.ref 0, .int p1, .int (((I1 18) 11) + (nI 1)), am_U] [] E1 I1 J1 S1 Q) | .inr e => Q (.inr e) E1 I1 J1 S1)) : am_ww 142 0 [.ref 0, .int p1, am_U, am_U] [] E I J S Q := by
  refine w_st (i' := 1) (ls' := [.ref 0, .int p1, am_U, am_U]) (st' := [.ref 0]) (E' := E) (I' := I) (J' := J) (S' := S) am_e142 rfl rfl rfl rfl ?_
  refine w_st (i' := 2) (ls' := [.ref 0, .int p1, am_U, am_U]) (st' := [.int p1, .ref 0]) (E' := E) (I' := I) (J' := J) (S' := S) am_e142 rfl rfl rfl rfl ?_
  refine w_cX am_e142 rfl rfl (as := [.ref 0, .int p1]) (rest := []) rfl rfl rfl (am_ww.mono h ?_)
  intro r E1 I1 J1 S1 h
  cases r with
  | inr e => exact h
  | inl w =>
    obtain ⟨rfl, h⟩ := h
    refine w_st (i' := 4) (ls' := [.ref 0, .int p1, am_U, am_U]) (st' := [.ref 0]) (E' := E1) (I' := I1) (J' := J1) (S' := S1) am_e142 rfl rfl rfl rfl ?_
    refine w_st (i' := 5) (ls' := [.ref 0, .int p1, am_U, am_U]) (st' := [.ref 18]) (E' := E1) (I' := I1) (J' := J1) (S' := S1) am_e142 rfl rfl rfl rfl ?_
    refine w_st (i' := 6) (ls' := [.ref 0, .int p1, am_U, am_U]) (st' := [.int ((I1 18) 11)]) (E' := E1) (I' := I1) (J' := J1) (S' := S1) am_e142 rfl rfl rfl rfl ?_
    refine w_st (i' := 7) (ls' := [.ref 0, .int p1, am_U, am_U]) (st' := [.int (nI 1), .int ((I1 18) 11)]) (E' := E1) (I' := I1) (J' := J1) (S' := S1) am_e142 rfl rfl rfl rfl ?_
    refine w_st (i' := 8) (ls' := [.ref 0, .int p1, am_U, am_U]) (st' := [.int (((I1 18) 11) + (nI 1))]) (E' := E1) (I' := I1) (J' := J1) (S' := S1) am_e142 rfl rfl rfl rfl ?_
    refine w_st (i' := 9) (ls' := [.ref 0, .int p1, .int (((I1 18) 11) + (nI 1)), am_U]) (st' := []) (E' := E1) (I' := I1) (J' := J1) (S' := S1) am_e142 rfl rfl rfl rfl ?_
    exact h
theorem g142_9 {x1 : Int32} {x2 : Int32} {d3 : Value} {E : am_Ev} {I : Nat → Nat → Int32} {J : Nat → Nat → Int64} {S : Nat → Nat → Option Nat} {Q : am_Qt} (hd3 : am_isL d3 = false) (h : (((I 18) 10) < x2 → (Q (.inl (some (.int (-1)))) E I J S)) ∧ (¬ ((I 18) 10) < x2 → (vp_in x2 401 ∧ (am_cl 138 [.ref 12, .int ((I 33) x2.toNatClampNeg)] E I J S (q_I fun v2 E2 I2 J2 S2 => (v2 = x1 → (vp_in ((I 33) x2.toNatClampNeg) 64 ∧ (∀ w5 : Int32, w5 = (if ((I2 13) (((I 33) x2.toNatClampNeg).toNatClampNeg)) = (nI 7) then x2 else (-1)) → (Q (.inl (some (.int w5))) E2 I2 J2 S2)))) ∧ (¬ v2 = x1 → (am_ww 142 9 [.ref 0, .int x1, .int (x2 + nI 1), .int ((I 33) x2.toNatClampNeg)] [] E2 I2 J2 S2 Q))))))) : am_ww 142 9 [.ref 0, .int x1, .int x2, d3] [] E I J S Q := by
  refine w_st (i' := 10) (ls' := [.ref 0, .int x1, .int x2, d3]) (st' := [.int x2]) (E' := E) (I' := I) (J' := J) (S' := S) am_e142 rfl rfl rfl rfl ?_
  refine w_st (i' := 11) (ls' := [.ref 0, .int x1, .int x2, d3]) (st' := [.ref 0, .int x2]) (E' := E) (I' := I) (J' := J) (S' := S) am_e142 rfl rfl rfl rfl ?_
  refine w_st (i' := 12) (ls' := [.ref 0, .int x1, .int x2, d3]) (st' := [.ref 18, .int x2]) (E' := E) (I' := I) (J' := J) (S' := S) am_e142 rfl rfl rfl rfl ?_
  refine w_st (i' := 13) (ls' := [.ref 0, .int x1, .int x2, d3]) (st' := [.int ((I 18) 10), .int x2]) (E' := E) (I' := I) (J' := J) (S' := S) am_e142 rfl rfl rfl rfl ?_
  refine w_if2 am_e142 rfl rfl (fun c => ?_) (fun c => ?_)
  · replace h := h.1 (of_decide_eq_true c)
    refine w_st (i' := 40) (ls' := [.ref 0, .int x1, .int x2, d3]) (st' := [.int (-1)]) (E' := E) (I' := I) (J' := J) (S' := S) am_e142 rfl rfl rfl rfl ?_
    exact w_end am_e142 rfl rfl rfl h
  · replace h := h.2 (of_decide_eq_false c)
    refine w_st (i' := 15) (ls' := [.ref 0, .int x1, .int x2, d3]) (st' := [.ref 0]) (E' := E) (I' := I) (J' := J) (S' := S) am_e142 rfl rfl rfl rfl ?_
    refine w_st (i' := 16) (ls' := [.ref 0, .int x1, .int x2, d3]) (st' := [.ref 18]) (E' := E) (I' := I) (J' := J) (S' := S) am_e142 rfl rfl rfl rfl ?_
    refine w_st (i' := 17) (ls' := [.ref 0, .int x1, .int x2, d3]) (st' := [.ref 33]) (E' := E) (I' := I) (J' := J) (S' := S) am_e142 rfl rfl rfl rfl ?_
    refine w_st (i' := 18) (ls' := [.ref 0, .int x1, .int x2, d3]) (st' := [.int x2, .ref 33]) (E' := E) (I' := I) (J' := J) (S' := S) am_e142 rfl rfl rfl rfl ?_
    have hf1 := h.1
    replace h := h.2
    refine w_ia (k := 33) (n := 401) (jn := x2.toNatClampNeg) am_e142 rfl rfl (by decide) hf1 rfl ?_
    refine w_st (i' := 20) (ls' := [.ref 0, .int x1, .int x2, .int ((I 33) x2.toNatClampNeg)]) (st' := []) (E' := E) (I' := I) (J' := J) (S' := S) am_e142 rfl rfl rfl rfl ?_
    refine w_st (i' := 21) (ls' := [.ref 0, .int x1, .int x2, .int ((I 33) x2.toNatClampNeg)]) (st' := [.ref 0]) (E' := E) (I' := I) (J' := J) (S' := S) am_e142 rfl rfl rfl rfl ?_
    refine w_st (i' := 22) (ls' := [.ref 0, .int x1, .int x2, .int ((I 33) x2.toNatClampNeg)]) (st' := [.ref 12]) (E' := E) (I' := I) (J' := J) (S' := S) am_e142 rfl rfl rfl rfl ?_
    refine w_st (i' := 23) (ls' := [.ref 0, .int x1, .int x2, .int ((I 33) x2.toNatClampNeg)]) (st' := [.int ((I 33) x2.toNatClampNeg), .ref 12]) (E' := E) (I' := I) (J' := J) (S' := S) am_e142 rfl rfl rfl rfl ?_
    refine w_cI am_e142 rfl rfl (as := [.ref 12, .int ((I 33) x2.toNatClampNeg)]) (rest := []) rfl rfl (am_ww.mono h ?_)
    rintro _ E2 I2 J2 S2 ⟨v2, rfl, h⟩
    refine q_mkI ?_
    refine w_st (i' := 25) (ls' := [.ref 0, .int x1, .int x2, .int ((I 33) x2.toNatClampNeg)]) (st' := [.int x1, .int v2]) (E' := E2) (I' := I2) (J' := J2) (S' := S2) am_e142 rfl rfl rfl rfl ?_
    refine w_if2 am_e142 rfl rfl (fun c => ?_) (fun c => ?_)
    · replace h := h.2 (of_decide_eq_true c)
      refine w_st (i' := 38) (ls' := [.ref 0, .int x1, .int (x2 + nI 1), .int ((I 33) x2.toNatClampNeg)]) (st' := []) (E' := E2) (I' := I2) (J' := J2) (S' := S2) am_e142 rfl rfl rfl rfl ?_
      refine w_st (i' := 9) (ls' := [.ref 0, .int x1, .int (x2 + nI 1), .int ((I 33) x2.toNatClampNeg)]) (st' := []) (E' := E2) (I' := I2) (J' := J2) (S' := S2) am_e142 rfl rfl rfl rfl ?_
      exact h
    · replace h := h.1 (Decidable.not_not.mp (of_decide_eq_false c))
      refine w_st (i' := 27) (ls' := [.ref 0, .int x1, .int x2, .int ((I 33) x2.toNatClampNeg)]) (st' := [.ref 0]) (E' := E2) (I' := I2) (J' := J2) (S' := S2) am_e142 rfl rfl rfl rfl ?_
      refine w_st (i' := 28) (ls' := [.ref 0, .int x1, .int x2, .int ((I 33) x2.toNatClampNeg)]) (st' := [.ref 12]) (E' := E2) (I' := I2) (J' := J2) (S' := S2) am_e142 rfl rfl rfl rfl ?_
      refine w_st (i' := 29) (ls' := [.ref 0, .int x1, .int x2, .int ((I 33) x2.toNatClampNeg)]) (st' := [.ref 13]) (E' := E2) (I' := I2) (J' := J2) (S' := S2) am_e142 rfl rfl rfl rfl ?_
      refine w_st (i' := 30) (ls' := [.ref 0, .int x1, .int x2, .int ((I 33) x2.toNatClampNeg)]) (st' := [.int ((I 33) x2.toNatClampNeg), .ref 13]) (E' := E2) (I' := I2) (J' := J2) (S' := S2) am_e142 rfl rfl rfl rfl ?_
      have hf3 := h.1
      replace h := h.2
      refine w_ia (k := 13) (n := 64) (jn := ((I 33) x2.toNatClampNeg).toNatClampNeg) am_e142 rfl rfl (by decide) hf3 rfl ?_
      refine w_st (i' := 32) (ls' := [.ref 0, .int x1, .int x2, .int ((I 33) x2.toNatClampNeg)]) (st' := [.int (nI 7), .int ((I2 13) (((I 33) x2.toNatClampNeg).toNatClampNeg))]) (E' := E2) (I' := I2) (J' := J2) (S' := S2) am_e142 rfl rfl rfl rfl ?_
      refine w_mg (i := 36) (ls' := [.ref 0, .int x1, .int x2, .int ((I 33) x2.toNatClampNeg)]) (st' := [.int (if ((I2 13) (((I 33) x2.toNatClampNeg).toNatClampNeg)) = (nI 7) then x2 else (-1))]) (fun hm => ?_) ?_
      · clear h
        refine w_if2 am_e142 rfl rfl (fun c => ?_) (fun c => ?_)
        · have m4 : ¬ (((I2 13) (((I 33) x2.toNatClampNeg).toNatClampNeg)) = (nI 7)) := (of_decide_eq_true c)
          refine w_st (i' := 36) (ls' := [.ref 0, .int x1, .int x2, .int ((I 33) x2.toNatClampNeg)]) (st' := [.int (-1)]) (E' := E2) (I' := I2) (J' := J2) (S' := S2) am_e142 rfl rfl rfl rfl ?_
          first | exact hm | (simp only [if_neg m4] at hm; exact hm)
        · have m4 : ((I2 13) (((I 33) x2.toNatClampNeg).toNatClampNeg)) = (nI 7) := (Decidable.not_not.mp (of_decide_eq_false c))
          refine w_st (i' := 34) (ls' := [.ref 0, .int x1, .int x2, .int ((I 33) x2.toNatClampNeg)]) (st' := [.int x2]) (E' := E2) (I' := I2) (J' := J2) (S' := S2) am_e142 rfl rfl rfl rfl ?_
          refine w_st (i' := 36) (ls' := [.ref 0, .int x1, .int x2, .int ((I 33) x2.toNatClampNeg)]) (st' := [.int x2]) (E' := E2) (I' := I2) (J' := J2) (S' := S2) am_e142 rfl rfl rfl rfl ?_
          first | exact hm | (simp only [if_pos m4] at hm; exact hm)
      refine w_var (fun w5 => am_ww 142 36 [.ref 0, .int x1, .int x2, .int ((I 33) x2.toNatClampNeg)] [.int w5] E2 I2 J2 S2 _) (if ((I2 13) (((I 33) x2.toNatClampNeg).toNatClampNeg)) = (nI 7) then x2 else (-1)) (fun w5 hw5 => ?_)
      replace h := h w5 hw5
      exact w_ri am_e142 rfl rfl h
-- 144 races
theorem g144_0 {p1 : Int32} {E : am_Ev} {I : Nat → Nat → Int32} {J : Nat → Nat → Int64} {S : Nat → Nat → Option Nat} {Q : am_Qt}  (h : (p1 < 0 → (Q (.inr 0) (E.1 + 1, E.2.1 + 6, E.2.2) I J S)) ∧ (¬ p1 < 0 → ((p1 ≤ (nI 2) → (am_cl 145 [.ref 89, .ref 12, .ref 18, .ref 87] E I J S (q_V fun E1 I1 J1 S1 => (p1 = 0 → (Q (.inl (some (.int ((I1 89) 6)))) E1 I1 J1 S1)) ∧ (¬ p1 = 0 → ((p1 = (nI 1) → (am_cl 153 [.int ((I1 89) 7)] E1 I1 J1 S1 (q_I fun v3 E3 I3 J3 S3 => Q (.inl (some (.int v3))) E3 I3 J3 S3))) ∧ (¬ p1 = (nI 1) → (am_cl 154 [.ref 89] E1 I1 J1 S1 (q_I fun v2 E2 I2 J2 S2 => Q (.inl (some (.int v2))) E2 I2 J2 S2)))))))) ∧ (¬ p1 ≤ (nI 2) → (Q (.inr 0) (E.1 + 1, E.2.1 + 6, E.2.2) I J S))))) : am_ww 144 0 [.ref 0, .int p1] [] E I J S Q := by
  refine w_st (i' := 1) (ls' := [.ref 0, .int p1]) (st' := [.int p1]) (E' := E) (I' := I) (J' := J) (S' := S) am_e144 rfl rfl rfl rfl ?_
  refine w_if1 am_e144 rfl rfl (fun c => ?_) (fun c => ?_)
  · replace h := h.1 (of_decide_eq_true c)
    exact w_end (r := .inr 0) (E' := (E.1 + 1, E.2.1 + 6, E.2.2)) am_e144 rfl rfl rfl h
  · replace h := h.2 (of_decide_eq_false c)
    refine w_st (i' := 3) (ls' := [.ref 0, .int p1]) (st' := [.int p1]) (E' := E) (I' := I) (J' := J) (S' := S) am_e144 rfl rfl rfl rfl ?_
    refine w_st (i' := 4) (ls' := [.ref 0, .int p1]) (st' := [.int (nI 2), .int p1]) (E' := E) (I' := I) (J' := J) (S' := S) am_e144 rfl rfl rfl rfl ?_
    refine w_if2 am_e144 rfl rfl (fun c => ?_) (fun c => ?_)
    · replace h := h.1 (of_decide_eq_true c)
      refine w_st (i' := 11) (ls' := [.ref 0, .int p1]) (st' := [.ref 0]) (E' := E) (I' := I) (J' := J) (S' := S) am_e144 rfl rfl rfl rfl ?_
      refine w_st (i' := 12) (ls' := [.ref 0, .int p1]) (st' := [.ref 89]) (E' := E) (I' := I) (J' := J) (S' := S) am_e144 rfl rfl rfl rfl ?_
      refine w_st (i' := 13) (ls' := [.ref 0, .int p1]) (st' := [.ref 0, .ref 89]) (E' := E) (I' := I) (J' := J) (S' := S) am_e144 rfl rfl rfl rfl ?_
      refine w_st (i' := 14) (ls' := [.ref 0, .int p1]) (st' := [.ref 12, .ref 89]) (E' := E) (I' := I) (J' := J) (S' := S) am_e144 rfl rfl rfl rfl ?_
      refine w_st (i' := 15) (ls' := [.ref 0, .int p1]) (st' := [.ref 0, .ref 12, .ref 89]) (E' := E) (I' := I) (J' := J) (S' := S) am_e144 rfl rfl rfl rfl ?_
      refine w_st (i' := 16) (ls' := [.ref 0, .int p1]) (st' := [.ref 18, .ref 12, .ref 89]) (E' := E) (I' := I) (J' := J) (S' := S) am_e144 rfl rfl rfl rfl ?_
      refine w_st (i' := 17) (ls' := [.ref 0, .int p1]) (st' := [.ref 0, .ref 18, .ref 12, .ref 89]) (E' := E) (I' := I) (J' := J) (S' := S) am_e144 rfl rfl rfl rfl ?_
      refine w_st (i' := 18) (ls' := [.ref 0, .int p1]) (st' := [.ref 87, .ref 18, .ref 12, .ref 89]) (E' := E) (I' := I) (J' := J) (S' := S) am_e144 rfl rfl rfl rfl ?_
      refine w_cV am_e144 rfl rfl (as := [.ref 89, .ref 12, .ref 18, .ref 87]) (rest := []) rfl rfl (am_ww.mono h ?_)
      rintro _ E1 I1 J1 S1 ⟨rfl, h⟩
      refine q_mkV ?_
      refine w_st (i' := 20) (ls' := [.ref 0, .int p1]) (st' := [.int p1]) (E' := E1) (I' := I1) (J' := J1) (S' := S1) am_e144 rfl rfl rfl rfl ?_
      refine w_if1 am_e144 rfl rfl (fun c => ?_) (fun c => ?_)
      · replace h := h.2 (of_decide_eq_true c)
        refine w_st (i' := 26) (ls' := [.ref 0, .int p1]) (st' := [.int p1]) (E' := E1) (I' := I1) (J' := J1) (S' := S1) am_e144 rfl rfl rfl rfl ?_
        refine w_st (i' := 27) (ls' := [.ref 0, .int p1]) (st' := [.int (nI 1), .int p1]) (E' := E1) (I' := I1) (J' := J1) (S' := S1) am_e144 rfl rfl rfl rfl ?_
        refine w_if2 am_e144 rfl rfl (fun c => ?_) (fun c => ?_)
        · replace h := h.2 (of_decide_eq_true c)
          refine w_st (i' := 34) (ls' := [.ref 0, .int p1]) (st' := [.ref 0]) (E' := E1) (I' := I1) (J' := J1) (S' := S1) am_e144 rfl rfl rfl rfl ?_
          refine w_st (i' := 35) (ls' := [.ref 0, .int p1]) (st' := [.ref 89]) (E' := E1) (I' := I1) (J' := J1) (S' := S1) am_e144 rfl rfl rfl rfl ?_
          refine w_cI am_e144 rfl rfl (as := [.ref 89]) (rest := []) rfl rfl (am_ww.mono h ?_)
          rintro _ E2 I2 J2 S2 ⟨v2, rfl, h⟩
          refine q_mkI ?_
          exact w_ri am_e144 rfl rfl h
        · replace h := h.1 (Decidable.not_not.mp (of_decide_eq_false c))
          refine w_st (i' := 29) (ls' := [.ref 0, .int p1]) (st' := [.ref 0]) (E' := E1) (I' := I1) (J' := J1) (S' := S1) am_e144 rfl rfl rfl rfl ?_
          refine w_st (i' := 30) (ls' := [.ref 0, .int p1]) (st' := [.ref 89]) (E' := E1) (I' := I1) (J' := J1) (S' := S1) am_e144 rfl rfl rfl rfl ?_
          refine w_st (i' := 31) (ls' := [.ref 0, .int p1]) (st' := [.int ((I1 89) 7)]) (E' := E1) (I' := I1) (J' := J1) (S' := S1) am_e144 rfl rfl rfl rfl ?_
          refine w_cI am_e144 rfl rfl (as := [.int ((I1 89) 7)]) (rest := []) rfl rfl (am_ww.mono h ?_)
          rintro _ E3 I3 J3 S3 ⟨v3, rfl, h⟩
          refine q_mkI ?_
          refine w_st (i' := 36) (ls' := [.ref 0, .int p1]) (st' := [.int v3]) (E' := E3) (I' := I3) (J' := J3) (S' := S3) am_e144 rfl rfl rfl rfl ?_
          exact w_ri am_e144 rfl rfl h
      · replace h := h.1 (Decidable.not_not.mp (of_decide_eq_false c))
        refine w_st (i' := 22) (ls' := [.ref 0, .int p1]) (st' := [.ref 0]) (E' := E1) (I' := I1) (J' := J1) (S' := S1) am_e144 rfl rfl rfl rfl ?_
        refine w_st (i' := 23) (ls' := [.ref 0, .int p1]) (st' := [.ref 89]) (E' := E1) (I' := I1) (J' := J1) (S' := S1) am_e144 rfl rfl rfl rfl ?_
        refine w_st (i' := 24) (ls' := [.ref 0, .int p1]) (st' := [.int ((I1 89) 6)]) (E' := E1) (I' := I1) (J' := J1) (S' := S1) am_e144 rfl rfl rfl rfl ?_
        exact w_ri am_e144 rfl rfl h
    · replace h := h.2 (of_decide_eq_false c)
      exact w_end (r := .inr 0) (E' := (E.1 + 1, E.2.1 + 6, E.2.2)) am_e144 rfl rfl rfl h
-- 157 race
theorem g157_0 {p1 : Int32} {p2 : Int32} {E : am_Ev} {I : Nat → Nat → Int32} {J : Nat → Nat → Int64} {S : Nat → Nat → Option Nat} {Q : am_Qt}  (h : am_cl 145 [.ref 89, .ref 12, .ref 18, .ref 87] E I J S (q_V fun E1 I1 J1 S1 => (p1 < 0 → (Q (.inr 0) (E1.1 + 1, E1.2.1 + 6, E1.2.2) I1 J1 S1)) ∧ (¬ p1 < 0 → ((((I1 89) 6) ≤ p1 → (Q (.inr 0) (E1.1 + 1, E1.2.1 + 6, E1.2.2) I1 J1 S1)) ∧ (¬ ((I1 89) 6) ≤ p1 → ((p2 < 0 → (Q (.inr 0) (E1.1 + 1, E1.2.1 + 6, E1.2.2) I1 J1 S1)) ∧ (¬ p2 < 0 → ((p2 ≤ (nI 2) → (am_cl 158 [.ref 89, .int p1, .int ((I1 18) 10)] E1 I1 J1 S1 (q_I fun v2 E2 I2 J2 S2 => (v2 = (-1) → (Q (.inl (some (.int v2))) E2 I2 J2 S2)) ∧ (¬ v2 = (-1) → ((p2 = (nI 1) → (Q (.inl (some (.int v2))) E2 I2 J2 S2)) ∧ (¬ p2 = (nI 1) → ((p2 = 0 → (am_cl 159 [.ref 89, .int p1, .int v2, .ref 12, .ref 18] E2 I2 J2 S2 (q_I fun v4 E4 I4 J4 S4 => Q (.inl (some (.int v4))) E4 I4 J4 S4))) ∧ (¬ p2 = 0 → (vp_in v2 401 ∧ (Q (.inl (some (.int ((I2 91) v2.toNatClampNeg)))) E2 I2 J2 S2)))))))))) ∧ (¬ p2 ≤ (nI 2) → (Q (.inr 0) (E1.1 + 1, E1.2.1 + 6, E1.2.2) I1 J1 S1)))))))))) : am_ww 157 0 [.ref 0, .int p1, .int p2, am_U] [] E I J S Q := by
  refine w_st (i' := 1) (ls' := [.ref 0, .int p1, .int p2, am_U]) (st' := [.ref 0]) (E' := E) (I' := I) (J' := J) (S' := S) am_e157 rfl rfl rfl rfl ?_
  refine w_st (i' := 2) (ls' := [.ref 0, .int p1, .int p2, am_U]) (st' := [.ref 89]) (E' := E) (I' := I) (J' := J) (S' := S) am_e157 rfl rfl rfl rfl ?_
  refine w_st (i' := 3) (ls' := [.ref 0, .int p1, .int p2, am_U]) (st' := [.ref 0, .ref 89]) (E' := E) (I' := I) (J' := J) (S' := S) am_e157 rfl rfl rfl rfl ?_
  refine w_st (i' := 4) (ls' := [.ref 0, .int p1, .int p2, am_U]) (st' := [.ref 12, .ref 89]) (E' := E) (I' := I) (J' := J) (S' := S) am_e157 rfl rfl rfl rfl ?_
  refine w_st (i' := 5) (ls' := [.ref 0, .int p1, .int p2, am_U]) (st' := [.ref 0, .ref 12, .ref 89]) (E' := E) (I' := I) (J' := J) (S' := S) am_e157 rfl rfl rfl rfl ?_
  refine w_st (i' := 6) (ls' := [.ref 0, .int p1, .int p2, am_U]) (st' := [.ref 18, .ref 12, .ref 89]) (E' := E) (I' := I) (J' := J) (S' := S) am_e157 rfl rfl rfl rfl ?_
  refine w_st (i' := 7) (ls' := [.ref 0, .int p1, .int p2, am_U]) (st' := [.ref 0, .ref 18, .ref 12, .ref 89]) (E' := E) (I' := I) (J' := J) (S' := S) am_e157 rfl rfl rfl rfl ?_
  refine w_st (i' := 8) (ls' := [.ref 0, .int p1, .int p2, am_U]) (st' := [.ref 87, .ref 18, .ref 12, .ref 89]) (E' := E) (I' := I) (J' := J) (S' := S) am_e157 rfl rfl rfl rfl ?_
  refine w_cV am_e157 rfl rfl (as := [.ref 89, .ref 12, .ref 18, .ref 87]) (rest := []) rfl rfl (am_ww.mono h ?_)
  rintro _ E1 I1 J1 S1 ⟨rfl, h⟩
  refine q_mkV ?_
  refine w_st (i' := 10) (ls' := [.ref 0, .int p1, .int p2, am_U]) (st' := [.int p1]) (E' := E1) (I' := I1) (J' := J1) (S' := S1) am_e157 rfl rfl rfl rfl ?_
  refine w_if1 am_e157 rfl rfl (fun c => ?_) (fun c => ?_)
  · replace h := h.1 (of_decide_eq_true c)
    exact w_end (r := .inr 0) (E' := (E1.1 + 1, E1.2.1 + 6, E1.2.2)) am_e157 rfl rfl rfl h
  · replace h := h.2 (of_decide_eq_false c)
    refine w_st (i' := 12) (ls' := [.ref 0, .int p1, .int p2, am_U]) (st' := [.int p1]) (E' := E1) (I' := I1) (J' := J1) (S' := S1) am_e157 rfl rfl rfl rfl ?_
    refine w_st (i' := 13) (ls' := [.ref 0, .int p1, .int p2, am_U]) (st' := [.ref 0, .int p1]) (E' := E1) (I' := I1) (J' := J1) (S' := S1) am_e157 rfl rfl rfl rfl ?_
    refine w_st (i' := 14) (ls' := [.ref 0, .int p1, .int p2, am_U]) (st' := [.ref 89, .int p1]) (E' := E1) (I' := I1) (J' := J1) (S' := S1) am_e157 rfl rfl rfl rfl ?_
    refine w_st (i' := 15) (ls' := [.ref 0, .int p1, .int p2, am_U]) (st' := [.int ((I1 89) 6), .int p1]) (E' := E1) (I' := I1) (J' := J1) (S' := S1) am_e157 rfl rfl rfl rfl ?_
    refine w_if2 am_e157 rfl rfl (fun c => ?_) (fun c => ?_)
    · replace h := h.1 (of_decide_eq_true c)
      exact w_end (r := .inr 0) (E' := (E1.1 + 1, E1.2.1 + 6, E1.2.2)) am_e157 rfl rfl rfl h
    · replace h := h.2 (of_decide_eq_false c)
      refine w_st (i' := 17) (ls' := [.ref 0, .int p1, .int p2, am_U]) (st' := [.int p2]) (E' := E1) (I' := I1) (J' := J1) (S' := S1) am_e157 rfl rfl rfl rfl ?_
      refine w_if1 am_e157 rfl rfl (fun c => ?_) (fun c => ?_)
      · replace h := h.1 (of_decide_eq_true c)
        exact w_end (r := .inr 0) (E' := (E1.1 + 1, E1.2.1 + 6, E1.2.2)) am_e157 rfl rfl rfl h
      · replace h := h.2 (of_decide_eq_false c)
        refine w_st (i' := 19) (ls' := [.ref 0, .int p1, .int p2, am_U]) (st' := [.int p2]) (E' := E1) (I' := I1) (J' := J1) (S' := S1) am_e157 rfl rfl rfl rfl ?_
        refine w_st (i' := 20) (ls' := [.ref 0, .int p1, .int p2, am_U]) (st' := [.int (nI 2), .int p2]) (E' := E1) (I' := I1) (J' := J1) (S' := S1) am_e157 rfl rfl rfl rfl ?_
        refine w_if2 am_e157 rfl rfl (fun c => ?_) (fun c => ?_)
        · replace h := h.1 (of_decide_eq_true c)
          refine w_st (i' := 27) (ls' := [.ref 0, .int p1, .int p2, am_U]) (st' := [.ref 0]) (E' := E1) (I' := I1) (J' := J1) (S' := S1) am_e157 rfl rfl rfl rfl ?_
          refine w_st (i' := 28) (ls' := [.ref 0, .int p1, .int p2, am_U]) (st' := [.ref 89]) (E' := E1) (I' := I1) (J' := J1) (S' := S1) am_e157 rfl rfl rfl rfl ?_
          refine w_st (i' := 29) (ls' := [.ref 0, .int p1, .int p2, am_U]) (st' := [.int p1, .ref 89]) (E' := E1) (I' := I1) (J' := J1) (S' := S1) am_e157 rfl rfl rfl rfl ?_
          refine w_st (i' := 30) (ls' := [.ref 0, .int p1, .int p2, am_U]) (st' := [.ref 0, .int p1, .ref 89]) (E' := E1) (I' := I1) (J' := J1) (S' := S1) am_e157 rfl rfl rfl rfl ?_
          refine w_st (i' := 31) (ls' := [.ref 0, .int p1, .int p2, am_U]) (st' := [.ref 18, .int p1, .ref 89]) (E' := E1) (I' := I1) (J' := J1) (S' := S1) am_e157 rfl rfl rfl rfl ?_
          refine w_st (i' := 32) (ls' := [.ref 0, .int p1, .int p2, am_U]) (st' := [.int ((I1 18) 10), .int p1, .ref 89]) (E' := E1) (I' := I1) (J' := J1) (S' := S1) am_e157 rfl rfl rfl rfl ?_
          refine w_cI am_e157 rfl rfl (as := [.ref 89, .int p1, .int ((I1 18) 10)]) (rest := []) rfl rfl (am_ww.mono h ?_)
          rintro _ E2 I2 J2 S2 ⟨v2, rfl, h⟩
          refine q_mkI ?_
          refine w_st (i' := 34) (ls' := [.ref 0, .int p1, .int p2, .int v2]) (st' := []) (E' := E2) (I' := I2) (J' := J2) (S' := S2) am_e157 rfl rfl rfl rfl ?_
          refine w_st (i' := 35) (ls' := [.ref 0, .int p1, .int p2, .int v2]) (st' := [.int v2]) (E' := E2) (I' := I2) (J' := J2) (S' := S2) am_e157 rfl rfl rfl rfl ?_
          refine w_st (i' := 36) (ls' := [.ref 0, .int p1, .int p2, .int v2]) (st' := [.int (-1), .int v2]) (E' := E2) (I' := I2) (J' := J2) (S' := S2) am_e157 rfl rfl rfl rfl ?_
          refine w_if2 am_e157 rfl rfl (fun c => ?_) (fun c => ?_)
          · replace h := h.1 (of_decide_eq_true c)
            refine w_st (i' := 41) (ls' := [.ref 0, .int p1, .int p2, .int v2]) (st' := [.int v2]) (E' := E2) (I' := I2) (J' := J2) (S' := S2) am_e157 rfl rfl rfl rfl ?_
            exact w_ri am_e157 rfl rfl h
          · replace h := h.2 (of_decide_eq_false c)
            refine w_st (i' := 38) (ls' := [.ref 0, .int p1, .int p2, .int v2]) (st' := [.int p2]) (E' := E2) (I' := I2) (J' := J2) (S' := S2) am_e157 rfl rfl rfl rfl ?_
            refine w_st (i' := 39) (ls' := [.ref 0, .int p1, .int p2, .int v2]) (st' := [.int (nI 1), .int p2]) (E' := E2) (I' := I2) (J' := J2) (S' := S2) am_e157 rfl rfl rfl rfl ?_
            refine w_if2 am_e157 rfl rfl (fun c => ?_) (fun c => ?_)
            · replace h := h.2 (of_decide_eq_true c)
              refine w_st (i' := 43) (ls' := [.ref 0, .int p1, .int p2, .int v2]) (st' := [.int p2]) (E' := E2) (I' := I2) (J' := J2) (S' := S2) am_e157 rfl rfl rfl rfl ?_
              refine w_if1 am_e157 rfl rfl (fun c => ?_) (fun c => ?_)
              · replace h := h.2 (of_decide_eq_true c)
                refine w_st (i' := 55) (ls' := [.ref 0, .int p1, .int p2, .int v2]) (st' := [.ref 0]) (E' := E2) (I' := I2) (J' := J2) (S' := S2) am_e157 rfl rfl rfl rfl ?_
                refine w_st (i' := 56) (ls' := [.ref 0, .int p1, .int p2, .int v2]) (st' := [.ref 89]) (E' := E2) (I' := I2) (J' := J2) (S' := S2) am_e157 rfl rfl rfl rfl ?_
                refine w_st (i' := 57) (ls' := [.ref 0, .int p1, .int p2, .int v2]) (st' := [.ref 91]) (E' := E2) (I' := I2) (J' := J2) (S' := S2) am_e157 rfl rfl rfl rfl ?_
                refine w_st (i' := 58) (ls' := [.ref 0, .int p1, .int p2, .int v2]) (st' := [.int v2, .ref 91]) (E' := E2) (I' := I2) (J' := J2) (S' := S2) am_e157 rfl rfl rfl rfl ?_
                have hf3 := h.1
                replace h := h.2
                refine w_ia (k := 91) (n := 401) (jn := v2.toNatClampNeg) am_e157 rfl rfl (by decide) hf3 rfl ?_
                exact w_ri am_e157 rfl rfl h
              · replace h := h.1 (Decidable.not_not.mp (of_decide_eq_false c))
                refine w_st (i' := 45) (ls' := [.ref 0, .int p1, .int p2, .int v2]) (st' := [.ref 0]) (E' := E2) (I' := I2) (J' := J2) (S' := S2) am_e157 rfl rfl rfl rfl ?_
                refine w_st (i' := 46) (ls' := [.ref 0, .int p1, .int p2, .int v2]) (st' := [.ref 89]) (E' := E2) (I' := I2) (J' := J2) (S' := S2) am_e157 rfl rfl rfl rfl ?_
                refine w_st (i' := 47) (ls' := [.ref 0, .int p1, .int p2, .int v2]) (st' := [.int p1, .ref 89]) (E' := E2) (I' := I2) (J' := J2) (S' := S2) am_e157 rfl rfl rfl rfl ?_
                refine w_st (i' := 48) (ls' := [.ref 0, .int p1, .int p2, .int v2]) (st' := [.int v2, .int p1, .ref 89]) (E' := E2) (I' := I2) (J' := J2) (S' := S2) am_e157 rfl rfl rfl rfl ?_
                refine w_st (i' := 49) (ls' := [.ref 0, .int p1, .int p2, .int v2]) (st' := [.ref 0, .int v2, .int p1, .ref 89]) (E' := E2) (I' := I2) (J' := J2) (S' := S2) am_e157 rfl rfl rfl rfl ?_
                refine w_st (i' := 50) (ls' := [.ref 0, .int p1, .int p2, .int v2]) (st' := [.ref 12, .int v2, .int p1, .ref 89]) (E' := E2) (I' := I2) (J' := J2) (S' := S2) am_e157 rfl rfl rfl rfl ?_
                refine w_st (i' := 51) (ls' := [.ref 0, .int p1, .int p2, .int v2]) (st' := [.ref 0, .ref 12, .int v2, .int p1, .ref 89]) (E' := E2) (I' := I2) (J' := J2) (S' := S2) am_e157 rfl rfl rfl rfl ?_
                refine w_st (i' := 52) (ls' := [.ref 0, .int p1, .int p2, .int v2]) (st' := [.ref 18, .ref 12, .int v2, .int p1, .ref 89]) (E' := E2) (I' := I2) (J' := J2) (S' := S2) am_e157 rfl rfl rfl rfl ?_
                refine w_cI am_e157 rfl rfl (as := [.ref 89, .int p1, .int v2, .ref 12, .ref 18]) (rest := []) rfl rfl (am_ww.mono h ?_)
                rintro _ E4 I4 J4 S4 ⟨v4, rfl, h⟩
                refine q_mkI ?_
                refine w_st (i' := 59) (ls' := [.ref 0, .int p1, .int p2, .int v2]) (st' := [.int v4]) (E' := E4) (I' := I4) (J' := J4) (S' := S4) am_e157 rfl rfl rfl rfl ?_
                exact w_ri am_e157 rfl rfl h
            · replace h := h.1 (Decidable.not_not.mp (of_decide_eq_false c))
              refine w_st (i' := 41) (ls' := [.ref 0, .int p1, .int p2, .int v2]) (st' := [.int v2]) (E' := E2) (I' := I2) (J' := J2) (S' := S2) am_e157 rfl rfl rfl rfl ?_
              exact w_ri am_e157 rfl rfl h
        · replace h := h.2 (of_decide_eq_false c)
          exact w_end (r := .inr 0) (E' := (E1.1 + 1, E1.2.1 + 6, E1.2.2)) am_e157 rfl rfl rfl h
-- 161 guards
theorem g161_0 {p1 : Int32} {E : am_Ev} {I : Nat → Nat → Int32} {J : Nat → Nat → Int64} {S : Nat → Nat → Option Nat} {Q : am_Qt}  (h : am_cl 124 [.ref 0, .int p1] E I J S (fun r E1 I1 J1 S1 => match r with | .inl w => w = none ∧ (am_cl 13 [.ref 88, .int (-1)] E1 I1 J1 S1 (q_V fun E2 I2 J2 S2 => am_ww 161 10 [.ref 0, .int p1, .int (nI 15), .int (nI 1), am_U] [] E2 I2 J2 S2 Q)) | .inr e => Q (.inr e) E1 I1 J1 S1)) : am_ww 161 0 [.ref 0, .int p1, am_U, am_U, am_U] [] E I J S Q := by
  refine w_st (i' := 1) (ls' := [.ref 0, .int p1, am_U, am_U, am_U]) (st' := [.ref 0]) (E' := E) (I' := I) (J' := J) (S' := S) am_e161 rfl rfl rfl rfl ?_
  refine w_st (i' := 2) (ls' := [.ref 0, .int p1, am_U, am_U, am_U]) (st' := [.int p1, .ref 0]) (E' := E) (I' := I) (J' := J) (S' := S) am_e161 rfl rfl rfl rfl ?_
  refine w_cX am_e161 rfl rfl (as := [.ref 0, .int p1]) (rest := []) rfl rfl rfl (am_ww.mono h ?_)
  intro r E1 I1 J1 S1 h
  cases r with
  | inr e => exact h
  | inl w =>
    obtain ⟨rfl, h⟩ := h
    refine w_st (i' := 4) (ls' := [.ref 0, .int p1, am_U, am_U, am_U]) (st' := [.int (nI 15)]) (E' := E1) (I' := I1) (J' := J1) (S' := S1) am_e161 rfl rfl rfl rfl ?_
    refine w_st (i' := 5) (ls' := [.ref 0, .int p1, .int (nI 15), am_U, am_U]) (st' := []) (E' := E1) (I' := I1) (J' := J1) (S' := S1) am_e161 rfl rfl rfl rfl ?_
    refine w_st (i' := 6) (ls' := [.ref 0, .int p1, .int (nI 15), am_U, am_U]) (st' := [.ref 0]) (E' := E1) (I' := I1) (J' := J1) (S' := S1) am_e161 rfl rfl rfl rfl ?_
    refine w_st (i' := 7) (ls' := [.ref 0, .int p1, .int (nI 15), am_U, am_U]) (st' := [.ref 87]) (E' := E1) (I' := I1) (J' := J1) (S' := S1) am_e161 rfl rfl rfl rfl ?_
    refine w_cV am_e161 rfl rfl (as := [.ref 87]) (rest := []) rfl rfl ?_
    show am_ww 147 0 [.ref 87] [] E1 I1 J1 S1 _
    refine w_st (i' := 1) (ls' := [.ref 87]) (st' := [.ref 87]) (E' := E1) (I' := I1) (J' := J1) (S' := S1) am_e147 rfl rfl rfl rfl ?_
    refine w_st (i' := 2) (ls' := [.ref 87]) (st' := [.ref 88]) (E' := E1) (I' := I1) (J' := J1) (S' := S1) am_e147 rfl rfl rfl rfl ?_
    refine w_st (i' := 3) (ls' := [.ref 87]) (st' := [.int (-1), .ref 88]) (E' := E1) (I' := I1) (J' := J1) (S' := S1) am_e147 rfl rfl rfl rfl ?_
    refine w_cV am_e147 rfl rfl (as := [.ref 88, .int (-1)]) (rest := []) rfl rfl (am_ww.mono h ?_)
    rintro _ E2 I2 J2 S2 ⟨rfl, h⟩
    refine q_mkV ?_
    refine w_end (E' := E2) (I' := I2) (J' := J2) (S' := S2) am_e147 rfl rfl rfl (q_mkV ?_)
    show am_ww 161 8 [.ref 0, .int p1, .int (nI 15), am_U, am_U] [] E2 I2 J2 S2 _
    refine w_st (i' := 9) (ls' := [.ref 0, .int p1, .int (nI 15), am_U, am_U]) (st' := [.int (nI 1)]) (E' := E2) (I' := I2) (J' := J2) (S' := S2) am_e161 rfl rfl rfl rfl ?_
    refine w_st (i' := 10) (ls' := [.ref 0, .int p1, .int (nI 15), .int (nI 1), am_U]) (st' := []) (E' := E2) (I' := I2) (J' := J2) (S' := S2) am_e161 rfl rfl rfl rfl ?_
    exact h
theorem g161_10 {x1 : Int32} {x2 : Int32} {x3 : Int32} {d4 : Value} {E : am_Ev} {I : Nat → Nat → Int32} {J : Nat → Nat → Int64} {S : Nat → Nat → Option Nat} {Q : am_Qt} (hd4 : am_isL d4 = false) (h : (((I 18) 10) < x3 → (Q (.inl (some (.int x2))) E I J S)) ∧ (¬ ((I 18) 10) < x3 → (vp_in x3 401 ∧ (am_cl 138 [.ref 12, .int ((I 33) x3.toNatClampNeg)] E I J S (q_I fun v2 E2 I2 J2 S2 => (v2 = x1 → (am_cl 162 [.ref 87, .int (((I 33) x3.toNatClampNeg) / (nI 16))] E2 I2 J2 S2 (q_I fun v4 E4 I4 J4 S4 => am_cl 150 [.ref 87, .ref 12, .int ((I 33) x3.toNatClampNeg)] E4 I4 J4 S4 (q_V fun E5 I5 J5 S5 => am_ww 161 10 [.ref 0, .int x1, .int (x2 &&& v4), .int (x3 + nI 1), .int ((I 33) x3.toNatClampNeg)] [] E5 I5 J5 S5 Q)))) ∧ (¬ v2 = x1 → (am_cl 150 [.ref 87, .ref 12, .int ((I 33) x3.toNatClampNeg)] E2 I2 J2 S2 (q_V fun E3 I3 J3 S3 => am_ww 161 10 [.ref 0, .int x1, .int x2, .int (x3 + nI 1), .int ((I 33) x3.toNatClampNeg)] [] E3 I3 J3 S3 Q)))))))) : am_ww 161 10 [.ref 0, .int x1, .int x2, .int x3, d4] [] E I J S Q := by
  refine w_st (i' := 11) (ls' := [.ref 0, .int x1, .int x2, .int x3, d4]) (st' := [.int x3]) (E' := E) (I' := I) (J' := J) (S' := S) am_e161 rfl rfl rfl rfl ?_
  refine w_st (i' := 12) (ls' := [.ref 0, .int x1, .int x2, .int x3, d4]) (st' := [.ref 0, .int x3]) (E' := E) (I' := I) (J' := J) (S' := S) am_e161 rfl rfl rfl rfl ?_
  refine w_st (i' := 13) (ls' := [.ref 0, .int x1, .int x2, .int x3, d4]) (st' := [.ref 18, .int x3]) (E' := E) (I' := I) (J' := J) (S' := S) am_e161 rfl rfl rfl rfl ?_
  refine w_st (i' := 14) (ls' := [.ref 0, .int x1, .int x2, .int x3, d4]) (st' := [.int ((I 18) 10), .int x3]) (E' := E) (I' := I) (J' := J) (S' := S) am_e161 rfl rfl rfl rfl ?_
  refine w_if2 am_e161 rfl rfl (fun c => ?_) (fun c => ?_)
  · replace h := h.1 (of_decide_eq_true c)
    refine w_st (i' := 45) (ls' := [.ref 0, .int x1, .int x2, .int x3, d4]) (st' := [.int x2]) (E' := E) (I' := I) (J' := J) (S' := S) am_e161 rfl rfl rfl rfl ?_
    exact w_ri am_e161 rfl rfl h
  · replace h := h.2 (of_decide_eq_false c)
    refine w_st (i' := 16) (ls' := [.ref 0, .int x1, .int x2, .int x3, d4]) (st' := [.ref 0]) (E' := E) (I' := I) (J' := J) (S' := S) am_e161 rfl rfl rfl rfl ?_
    refine w_st (i' := 17) (ls' := [.ref 0, .int x1, .int x2, .int x3, d4]) (st' := [.ref 18]) (E' := E) (I' := I) (J' := J) (S' := S) am_e161 rfl rfl rfl rfl ?_
    refine w_st (i' := 18) (ls' := [.ref 0, .int x1, .int x2, .int x3, d4]) (st' := [.ref 33]) (E' := E) (I' := I) (J' := J) (S' := S) am_e161 rfl rfl rfl rfl ?_
    refine w_st (i' := 19) (ls' := [.ref 0, .int x1, .int x2, .int x3, d4]) (st' := [.int x3, .ref 33]) (E' := E) (I' := I) (J' := J) (S' := S) am_e161 rfl rfl rfl rfl ?_
    have hf1 := h.1
    replace h := h.2
    refine w_ia (k := 33) (n := 401) (jn := x3.toNatClampNeg) am_e161 rfl rfl (by decide) hf1 rfl ?_
    refine w_st (i' := 21) (ls' := [.ref 0, .int x1, .int x2, .int x3, .int ((I 33) x3.toNatClampNeg)]) (st' := []) (E' := E) (I' := I) (J' := J) (S' := S) am_e161 rfl rfl rfl rfl ?_
    refine w_st (i' := 22) (ls' := [.ref 0, .int x1, .int x2, .int x3, .int ((I 33) x3.toNatClampNeg)]) (st' := [.ref 0]) (E' := E) (I' := I) (J' := J) (S' := S) am_e161 rfl rfl rfl rfl ?_
    refine w_st (i' := 23) (ls' := [.ref 0, .int x1, .int x2, .int x3, .int ((I 33) x3.toNatClampNeg)]) (st' := [.ref 12]) (E' := E) (I' := I) (J' := J) (S' := S) am_e161 rfl rfl rfl rfl ?_
    refine w_st (i' := 24) (ls' := [.ref 0, .int x1, .int x2, .int x3, .int ((I 33) x3.toNatClampNeg)]) (st' := [.int ((I 33) x3.toNatClampNeg), .ref 12]) (E' := E) (I' := I) (J' := J) (S' := S) am_e161 rfl rfl rfl rfl ?_
    refine w_cI am_e161 rfl rfl (as := [.ref 12, .int ((I 33) x3.toNatClampNeg)]) (rest := []) rfl rfl (am_ww.mono h ?_)
    rintro _ E2 I2 J2 S2 ⟨v2, rfl, h⟩
    refine q_mkI ?_
    refine w_st (i' := 26) (ls' := [.ref 0, .int x1, .int x2, .int x3, .int ((I 33) x3.toNatClampNeg)]) (st' := [.int x1, .int v2]) (E' := E2) (I' := I2) (J' := J2) (S' := S2) am_e161 rfl rfl rfl rfl ?_
    refine w_if2 am_e161 rfl rfl (fun c => ?_) (fun c => ?_)
    · replace h := h.2 (of_decide_eq_true c)
      refine w_st (i' := 37) (ls' := [.ref 0, .int x1, .int x2, .int x3, .int ((I 33) x3.toNatClampNeg)]) (st' := [.ref 0]) (E' := E2) (I' := I2) (J' := J2) (S' := S2) am_e161 rfl rfl rfl rfl ?_
      refine w_st (i' := 38) (ls' := [.ref 0, .int x1, .int x2, .int x3, .int ((I 33) x3.toNatClampNeg)]) (st' := [.ref 87]) (E' := E2) (I' := I2) (J' := J2) (S' := S2) am_e161 rfl rfl rfl rfl ?_
      refine w_st (i' := 39) (ls' := [.ref 0, .int x1, .int x2, .int x3, .int ((I 33) x3.toNatClampNeg)]) (st' := [.ref 0, .ref 87]) (E' := E2) (I' := I2) (J' := J2) (S' := S2) am_e161 rfl rfl rfl rfl ?_
      refine w_st (i' := 40) (ls' := [.ref 0, .int x1, .int x2, .int x3, .int ((I 33) x3.toNatClampNeg)]) (st' := [.ref 12, .ref 87]) (E' := E2) (I' := I2) (J' := J2) (S' := S2) am_e161 rfl rfl rfl rfl ?_
      refine w_st (i' := 41) (ls' := [.ref 0, .int x1, .int x2, .int x3, .int ((I 33) x3.toNatClampNeg)]) (st' := [.int ((I 33) x3.toNatClampNeg), .ref 12, .ref 87]) (E' := E2) (I' := I2) (J' := J2) (S' := S2) am_e161 rfl rfl rfl rfl ?_
      refine w_cV am_e161 rfl rfl (as := [.ref 87, .ref 12, .int ((I 33) x3.toNatClampNeg)]) (rest := []) rfl rfl (am_ww.mono h ?_)
      rintro _ E3 I3 J3 S3 ⟨rfl, h⟩
      refine q_mkV ?_
      refine w_st (i' := 43) (ls' := [.ref 0, .int x1, .int x2, .int (x3 + nI 1), .int ((I 33) x3.toNatClampNeg)]) (st' := []) (E' := E3) (I' := I3) (J' := J3) (S' := S3) am_e161 rfl rfl rfl rfl ?_
      refine w_st (i' := 10) (ls' := [.ref 0, .int x1, .int x2, .int (x3 + nI 1), .int ((I 33) x3.toNatClampNeg)]) (st' := []) (E' := E3) (I' := I3) (J' := J3) (S' := S3) am_e161 rfl rfl rfl rfl ?_
      exact h
    · replace h := h.1 (Decidable.not_not.mp (of_decide_eq_false c))
      refine w_st (i' := 28) (ls' := [.ref 0, .int x1, .int x2, .int x3, .int ((I 33) x3.toNatClampNeg)]) (st' := [.int x2]) (E' := E2) (I' := I2) (J' := J2) (S' := S2) am_e161 rfl rfl rfl rfl ?_
      refine w_st (i' := 29) (ls' := [.ref 0, .int x1, .int x2, .int x3, .int ((I 33) x3.toNatClampNeg)]) (st' := [.ref 0, .int x2]) (E' := E2) (I' := I2) (J' := J2) (S' := S2) am_e161 rfl rfl rfl rfl ?_
      refine w_st (i' := 30) (ls' := [.ref 0, .int x1, .int x2, .int x3, .int ((I 33) x3.toNatClampNeg)]) (st' := [.ref 87, .int x2]) (E' := E2) (I' := I2) (J' := J2) (S' := S2) am_e161 rfl rfl rfl rfl ?_
      refine w_st (i' := 31) (ls' := [.ref 0, .int x1, .int x2, .int x3, .int ((I 33) x3.toNatClampNeg)]) (st' := [.int ((I 33) x3.toNatClampNeg), .ref 87, .int x2]) (E' := E2) (I' := I2) (J' := J2) (S' := S2) am_e161 rfl rfl rfl rfl ?_
      refine w_st (i' := 32) (ls' := [.ref 0, .int x1, .int x2, .int x3, .int ((I 33) x3.toNatClampNeg)]) (st' := [.int (nI 16), .int ((I 33) x3.toNatClampNeg), .ref 87, .int x2]) (E' := E2) (I' := I2) (J' := J2) (S' := S2) am_e161 rfl rfl rfl rfl ?_
      refine w_dv (by decide) am_e161 rfl ?_
      refine w_cI am_e161 rfl rfl (as := [.ref 87, .int (((I 33) x3.toNatClampNeg) / (nI 16))]) (rest := [.int x2]) rfl rfl (am_ww.mono h ?_)
      rintro _ E4 I4 J4 S4 ⟨v4, rfl, h⟩
      refine q_mkI ?_
      refine w_st (i' := 35) (ls' := [.ref 0, .int x1, .int x2, .int x3, .int ((I 33) x3.toNatClampNeg)]) (st' := [.int (x2 &&& v4)]) (E' := E4) (I' := I4) (J' := J4) (S' := S4) am_e161 rfl rfl rfl rfl ?_
      refine w_st (i' := 36) (ls' := [.ref 0, .int x1, .int (x2 &&& v4), .int x3, .int ((I 33) x3.toNatClampNeg)]) (st' := []) (E' := E4) (I' := I4) (J' := J4) (S' := S4) am_e161 rfl rfl rfl rfl ?_
      refine w_st (i' := 37) (ls' := [.ref 0, .int x1, .int (x2 &&& v4), .int x3, .int ((I 33) x3.toNatClampNeg)]) (st' := [.ref 0]) (E' := E4) (I' := I4) (J' := J4) (S' := S4) am_e161 rfl rfl rfl rfl ?_
      refine w_st (i' := 38) (ls' := [.ref 0, .int x1, .int (x2 &&& v4), .int x3, .int ((I 33) x3.toNatClampNeg)]) (st' := [.ref 87]) (E' := E4) (I' := I4) (J' := J4) (S' := S4) am_e161 rfl rfl rfl rfl ?_
      refine w_st (i' := 39) (ls' := [.ref 0, .int x1, .int (x2 &&& v4), .int x3, .int ((I 33) x3.toNatClampNeg)]) (st' := [.ref 0, .ref 87]) (E' := E4) (I' := I4) (J' := J4) (S' := S4) am_e161 rfl rfl rfl rfl ?_
      refine w_st (i' := 40) (ls' := [.ref 0, .int x1, .int (x2 &&& v4), .int x3, .int ((I 33) x3.toNatClampNeg)]) (st' := [.ref 12, .ref 87]) (E' := E4) (I' := I4) (J' := J4) (S' := S4) am_e161 rfl rfl rfl rfl ?_
      refine w_st (i' := 41) (ls' := [.ref 0, .int x1, .int (x2 &&& v4), .int x3, .int ((I 33) x3.toNatClampNeg)]) (st' := [.int ((I 33) x3.toNatClampNeg), .ref 12, .ref 87]) (E' := E4) (I' := I4) (J' := J4) (S' := S4) am_e161 rfl rfl rfl rfl ?_
      refine w_cV am_e161 rfl rfl (as := [.ref 87, .ref 12, .int ((I 33) x3.toNatClampNeg)]) (rest := []) rfl rfl (am_ww.mono h ?_)
      rintro _ E5 I5 J5 S5 ⟨rfl, h⟩
      refine q_mkV ?_
      refine w_st (i' := 43) (ls' := [.ref 0, .int x1, .int (x2 &&& v4), .int (x3 + nI 1), .int ((I 33) x3.toNatClampNeg)]) (st' := []) (E' := E5) (I' := I5) (J' := J5) (S' := S5) am_e161 rfl rfl rfl rfl ?_
      refine w_st (i' := 10) (ls' := [.ref 0, .int x1, .int (x2 &&& v4), .int (x3 + nI 1), .int ((I 33) x3.toNatClampNeg)]) (st' := []) (E' := E5) (I' := I5) (J' := J5) (S' := S5) am_e161 rfl rfl rfl rfl ?_
      exact h
-- 164 hot
theorem g164_0 {p1 : Int32} {p2 : Int32} {E : am_Ev} {I : Nat → Nat → Int32} {J : Nat → Nat → Int64} {S : Nat → Nat → Option Nat} {Q : am_Qt}  (h : am_cl 165 [.ref 96, .ref 18] E I J S (q_V fun E1 I1 J1 S1 => (p1 = (-1) → (Q (.inl (some (.int ((I1 96) 2)))) E1 I1 J1 S1)) ∧ (¬ p1 = (-1) → ((p1 < 0 → (Q (.inr 0) (E1.1 + 1, E1.2.1 + 6, E1.2.2) I1 J1 S1)) ∧ (¬ p1 < 0 → ((((I1 96) 2) ≤ p1 → (Q (.inr 0) (E1.1 + 1, E1.2.1 + 6, E1.2.2) I1 J1 S1)) ∧ (¬ ((I1 96) 2) ≤ p1 → ((p2 < 0 → (Q (.inr 0) (E1.1 + 1, E1.2.1 + 6, E1.2.2) I1 J1 S1)) ∧ (¬ p2 < 0 → ((p2 ≤ (nI 2) → (vp_in p1 64 ∧ ((p2 = (nI 2) → (vp_in ((I1 97) p1.toNatClampNeg) 64 ∧ (Q (.inl (some (.int ((I1 98) (((I1 97) p1.toNatClampNeg).toNatClampNeg))))) E1 I1 J1 S1))) ∧ (¬ p2 = (nI 2) → (∀ w4 : Int32, w4 = (if p2 = 0 then (((I1 97) p1.toNatClampNeg) / (nI 16)) else (((I1 97) p1.toNatClampNeg) - ((I1 97) p1.toNatClampNeg) / (nI 16) * (nI 16))) → (Q (.inl (some (.int w4))) E1 I1 J1 S1)))))) ∧ (¬ p2 ≤ (nI 2) → (Q (.inr 0) (E1.1 + 1, E1.2.1 + 6, E1.2.2) I1 J1 S1)))))))))))) : am_ww 164 0 [.ref 0, .int p1, .int p2, am_U] [] E I J S Q := by
  refine w_st (i' := 1) (ls' := [.ref 0, .int p1, .int p2, am_U]) (st' := [.ref 0]) (E' := E) (I' := I) (J' := J) (S' := S) am_e164 rfl rfl rfl rfl ?_
  refine w_st (i' := 2) (ls' := [.ref 0, .int p1, .int p2, am_U]) (st' := [.ref 96]) (E' := E) (I' := I) (J' := J) (S' := S) am_e164 rfl rfl rfl rfl ?_
  refine w_st (i' := 3) (ls' := [.ref 0, .int p1, .int p2, am_U]) (st' := [.ref 0, .ref 96]) (E' := E) (I' := I) (J' := J) (S' := S) am_e164 rfl rfl rfl rfl ?_
  refine w_st (i' := 4) (ls' := [.ref 0, .int p1, .int p2, am_U]) (st' := [.ref 18, .ref 96]) (E' := E) (I' := I) (J' := J) (S' := S) am_e164 rfl rfl rfl rfl ?_
  refine w_cV am_e164 rfl rfl (as := [.ref 96, .ref 18]) (rest := []) rfl rfl (am_ww.mono h ?_)
  rintro _ E1 I1 J1 S1 ⟨rfl, h⟩
  refine q_mkV ?_
  refine w_st (i' := 6) (ls' := [.ref 0, .int p1, .int p2, am_U]) (st' := [.int p1]) (E' := E1) (I' := I1) (J' := J1) (S' := S1) am_e164 rfl rfl rfl rfl ?_
  refine w_st (i' := 7) (ls' := [.ref 0, .int p1, .int p2, am_U]) (st' := [.int (-1), .int p1]) (E' := E1) (I' := I1) (J' := J1) (S' := S1) am_e164 rfl rfl rfl rfl ?_
  refine w_if2 am_e164 rfl rfl (fun c => ?_) (fun c => ?_)
  · replace h := h.2 (of_decide_eq_true c)
    refine w_st (i' := 13) (ls' := [.ref 0, .int p1, .int p2, am_U]) (st' := [.int p1]) (E' := E1) (I' := I1) (J' := J1) (S' := S1) am_e164 rfl rfl rfl rfl ?_
    refine w_if1 am_e164 rfl rfl (fun c => ?_) (fun c => ?_)
    · replace h := h.1 (of_decide_eq_true c)
      exact w_end (r := .inr 0) (E' := (E1.1 + 1, E1.2.1 + 6, E1.2.2)) am_e164 rfl rfl rfl h
    · replace h := h.2 (of_decide_eq_false c)
      refine w_st (i' := 15) (ls' := [.ref 0, .int p1, .int p2, am_U]) (st' := [.int p1]) (E' := E1) (I' := I1) (J' := J1) (S' := S1) am_e164 rfl rfl rfl rfl ?_
      refine w_st (i' := 16) (ls' := [.ref 0, .int p1, .int p2, am_U]) (st' := [.ref 0, .int p1]) (E' := E1) (I' := I1) (J' := J1) (S' := S1) am_e164 rfl rfl rfl rfl ?_
      refine w_st (i' := 17) (ls' := [.ref 0, .int p1, .int p2, am_U]) (st' := [.ref 96, .int p1]) (E' := E1) (I' := I1) (J' := J1) (S' := S1) am_e164 rfl rfl rfl rfl ?_
      refine w_st (i' := 18) (ls' := [.ref 0, .int p1, .int p2, am_U]) (st' := [.int ((I1 96) 2), .int p1]) (E' := E1) (I' := I1) (J' := J1) (S' := S1) am_e164 rfl rfl rfl rfl ?_
      refine w_if2 am_e164 rfl rfl (fun c => ?_) (fun c => ?_)
      · replace h := h.1 (of_decide_eq_true c)
        exact w_end (r := .inr 0) (E' := (E1.1 + 1, E1.2.1 + 6, E1.2.2)) am_e164 rfl rfl rfl h
      · replace h := h.2 (of_decide_eq_false c)
        refine w_st (i' := 20) (ls' := [.ref 0, .int p1, .int p2, am_U]) (st' := [.int p2]) (E' := E1) (I' := I1) (J' := J1) (S' := S1) am_e164 rfl rfl rfl rfl ?_
        refine w_if1 am_e164 rfl rfl (fun c => ?_) (fun c => ?_)
        · replace h := h.1 (of_decide_eq_true c)
          exact w_end (r := .inr 0) (E' := (E1.1 + 1, E1.2.1 + 6, E1.2.2)) am_e164 rfl rfl rfl h
        · replace h := h.2 (of_decide_eq_false c)
          refine w_st (i' := 22) (ls' := [.ref 0, .int p1, .int p2, am_U]) (st' := [.int p2]) (E' := E1) (I' := I1) (J' := J1) (S' := S1) am_e164 rfl rfl rfl rfl ?_
          refine w_st (i' := 23) (ls' := [.ref 0, .int p1, .int p2, am_U]) (st' := [.int (nI 2), .int p2]) (E' := E1) (I' := I1) (J' := J1) (S' := S1) am_e164 rfl rfl rfl rfl ?_
          refine w_if2 am_e164 rfl rfl (fun c => ?_) (fun c => ?_)
          · replace h := h.1 (of_decide_eq_true c)
            refine w_st (i' := 30) (ls' := [.ref 0, .int p1, .int p2, am_U]) (st' := [.ref 0]) (E' := E1) (I' := I1) (J' := J1) (S' := S1) am_e164 rfl rfl rfl rfl ?_
            refine w_st (i' := 31) (ls' := [.ref 0, .int p1, .int p2, am_U]) (st' := [.ref 96]) (E' := E1) (I' := I1) (J' := J1) (S' := S1) am_e164 rfl rfl rfl rfl ?_
            refine w_st (i' := 32) (ls' := [.ref 0, .int p1, .int p2, am_U]) (st' := [.ref 97]) (E' := E1) (I' := I1) (J' := J1) (S' := S1) am_e164 rfl rfl rfl rfl ?_
            refine w_st (i' := 33) (ls' := [.ref 0, .int p1, .int p2, am_U]) (st' := [.int p1, .ref 97]) (E' := E1) (I' := I1) (J' := J1) (S' := S1) am_e164 rfl rfl rfl rfl ?_
            have hf2 := h.1
            replace h := h.2
            refine w_ia (k := 97) (n := 64) (jn := p1.toNatClampNeg) am_e164 rfl rfl (by decide) hf2 rfl ?_
            refine w_st (i' := 35) (ls' := [.ref 0, .int p1, .int p2, .int ((I1 97) p1.toNatClampNeg)]) (st' := []) (E' := E1) (I' := I1) (J' := J1) (S' := S1) am_e164 rfl rfl rfl rfl ?_
            refine w_st (i' := 36) (ls' := [.ref 0, .int p1, .int p2, .int ((I1 97) p1.toNatClampNeg)]) (st' := [.int p2]) (E' := E1) (I' := I1) (J' := J1) (S' := S1) am_e164 rfl rfl rfl rfl ?_
            refine w_st (i' := 37) (ls' := [.ref 0, .int p1, .int p2, .int ((I1 97) p1.toNatClampNeg)]) (st' := [.int (nI 2), .int p2]) (E' := E1) (I' := I1) (J' := J1) (S' := S1) am_e164 rfl rfl rfl rfl ?_
            refine w_if2 am_e164 rfl rfl (fun c => ?_) (fun c => ?_)
            · replace h := h.2 (of_decide_eq_true c)
              refine w_st (i' := 45) (ls' := [.ref 0, .int p1, .int p2, .int ((I1 97) p1.toNatClampNeg)]) (st' := [.int p2]) (E' := E1) (I' := I1) (J' := J1) (S' := S1) am_e164 rfl rfl rfl rfl ?_
              refine w_mg (i := 53) (ls' := [.ref 0, .int p1, .int p2, .int ((I1 97) p1.toNatClampNeg)]) (st' := [.int (if p2 = 0 then (((I1 97) p1.toNatClampNeg) / (nI 16)) else (((I1 97) p1.toNatClampNeg) - ((I1 97) p1.toNatClampNeg) / (nI 16) * (nI 16)))]) (fun hm => ?_) ?_
              · clear h
                refine w_if1 am_e164 rfl rfl (fun c => ?_) (fun c => ?_)
                · have m3 : ¬ (p2 = 0) := (of_decide_eq_true c)
                  refine w_st (i' := 51) (ls' := [.ref 0, .int p1, .int p2, .int ((I1 97) p1.toNatClampNeg)]) (st' := [.int ((I1 97) p1.toNatClampNeg)]) (E' := E1) (I' := I1) (J' := J1) (S' := S1) am_e164 rfl rfl rfl rfl ?_
                  refine w_st (i' := 52) (ls' := [.ref 0, .int p1, .int p2, .int ((I1 97) p1.toNatClampNeg)]) (st' := [.int (nI 16), .int ((I1 97) p1.toNatClampNeg)]) (E' := E1) (I' := I1) (J' := J1) (S' := S1) am_e164 rfl rfl rfl rfl ?_
                  refine w_rm (by decide) am_e164 rfl ?_
                  first | exact hm | (simp only [if_neg m3] at hm; exact hm)
                · have m3 : p2 = 0 := (Decidable.not_not.mp (of_decide_eq_false c))
                  refine w_st (i' := 47) (ls' := [.ref 0, .int p1, .int p2, .int ((I1 97) p1.toNatClampNeg)]) (st' := [.int ((I1 97) p1.toNatClampNeg)]) (E' := E1) (I' := I1) (J' := J1) (S' := S1) am_e164 rfl rfl rfl rfl ?_
                  refine w_st (i' := 48) (ls' := [.ref 0, .int p1, .int p2, .int ((I1 97) p1.toNatClampNeg)]) (st' := [.int (nI 16), .int ((I1 97) p1.toNatClampNeg)]) (E' := E1) (I' := I1) (J' := J1) (S' := S1) am_e164 rfl rfl rfl rfl ?_
                  refine w_dv (by decide) am_e164 rfl ?_
                  refine w_st (i' := 53) (ls' := [.ref 0, .int p1, .int p2, .int ((I1 97) p1.toNatClampNeg)]) (st' := [.int (((I1 97) p1.toNatClampNeg) / (nI 16))]) (E' := E1) (I' := I1) (J' := J1) (S' := S1) am_e164 rfl rfl rfl rfl ?_
                  first | exact hm | (simp only [if_pos m3] at hm; exact hm)
              refine w_var (fun w4 => am_ww 164 53 [.ref 0, .int p1, .int p2, .int ((I1 97) p1.toNatClampNeg)] [.int w4] E1 I1 J1 S1 _) (if p2 = 0 then (((I1 97) p1.toNatClampNeg) / (nI 16)) else (((I1 97) p1.toNatClampNeg) - ((I1 97) p1.toNatClampNeg) / (nI 16) * (nI 16))) (fun w4 hw4 => ?_)
              replace h := h w4 hw4
              exact w_ri am_e164 rfl rfl h
            · replace h := h.1 (Decidable.not_not.mp (of_decide_eq_false c))
              refine w_st (i' := 39) (ls' := [.ref 0, .int p1, .int p2, .int ((I1 97) p1.toNatClampNeg)]) (st' := [.ref 0]) (E' := E1) (I' := I1) (J' := J1) (S' := S1) am_e164 rfl rfl rfl rfl ?_
              refine w_st (i' := 40) (ls' := [.ref 0, .int p1, .int p2, .int ((I1 97) p1.toNatClampNeg)]) (st' := [.ref 96]) (E' := E1) (I' := I1) (J' := J1) (S' := S1) am_e164 rfl rfl rfl rfl ?_
              refine w_st (i' := 41) (ls' := [.ref 0, .int p1, .int p2, .int ((I1 97) p1.toNatClampNeg)]) (st' := [.ref 98]) (E' := E1) (I' := I1) (J' := J1) (S' := S1) am_e164 rfl rfl rfl rfl ?_
              refine w_st (i' := 42) (ls' := [.ref 0, .int p1, .int p2, .int ((I1 97) p1.toNatClampNeg)]) (st' := [.int ((I1 97) p1.toNatClampNeg), .ref 98]) (E' := E1) (I' := I1) (J' := J1) (S' := S1) am_e164 rfl rfl rfl rfl ?_
              have hf5 := h.1
              replace h := h.2
              refine w_ia (k := 98) (n := 64) (jn := ((I1 97) p1.toNatClampNeg).toNatClampNeg) am_e164 rfl rfl (by decide) hf5 rfl ?_
              exact w_ri am_e164 rfl rfl h
          · replace h := h.2 (of_decide_eq_false c)
            exact w_end (r := .inr 0) (E' := (E1.1 + 1, E1.2.1 + 6, E1.2.2)) am_e164 rfl rfl rfl h
  · replace h := h.1 (Decidable.not_not.mp (of_decide_eq_false c))
    refine w_st (i' := 9) (ls' := [.ref 0, .int p1, .int p2, am_U]) (st' := [.ref 0]) (E' := E1) (I' := I1) (J' := J1) (S' := S1) am_e164 rfl rfl rfl rfl ?_
    refine w_st (i' := 10) (ls' := [.ref 0, .int p1, .int p2, am_U]) (st' := [.ref 96]) (E' := E1) (I' := I1) (J' := J1) (S' := S1) am_e164 rfl rfl rfl rfl ?_
    refine w_st (i' := 11) (ls' := [.ref 0, .int p1, .int p2, am_U]) (st' := [.int ((I1 96) 2)]) (E' := E1) (I' := I1) (J' := J1) (S' := S1) am_e164 rfl rfl rfl rfl ?_
    exact w_ri am_e164 rfl rfl h
-- 167 diverged
theorem g167_0 {p1 : Int32} {p2 : Int32} {p3 : Int32} {p4 : Int32} {E : am_Ev} {I : Nat → Nat → Int32} {J : Nat → Nat → Int64} {S : Nat → Nat → Option Nat} {Q : am_Qt}  (h : (p4 < 0 → (Q (.inr 0) (E.1 + 1, E.2.1 + 6, E.2.2) I J S)) ∧ (¬ p4 < 0 → (((nI 2) < p4 → (Q (.inr 0) (E.1 + 1, E.2.1 + 6, E.2.2) I J S)) ∧ (¬ (nI 2) < p4 → (am_cl 168 [.ref 0, .int p1, .int p2, .int p3] E I J S (q_I fun v1 E1 I1 J1 S1 => (v1 = 0 → (Q (.inr 0) (E1.1 + 1, E1.2.1 + 6, E1.2.2) I1 J1 S1)) ∧ (¬ v1 = 0 → (am_cl 17 [.ref 68, .ref 12] E1 I1 J1 S1 (q_V fun E2 I2 J2 S2 => am_cl 169 [.ref 68, .int p1, .int p2, .int p3] E2 I2 J2 S2 (q_V fun E3 I3 J3 S3 => (p4 = 0 → (am_cl 170 [.ref 0] E3 I3 J3 S3 (q_I fun v8 E8 I8 J8 S8 => Q (.inl (some (.int v8))) E8 I8 J8 S8))) ∧ (¬ p4 = 0 → ((p4 = (nI 1) → (am_cl 173 [.ref 0] E3 I3 J3 S3 (q_I fun v7 E7 I7 J7 S7 => Q (.inl (some (.int v7))) E7 I7 J7 S7))) ∧ (¬ p4 = (nI 1) → (am_cl 46 [.ref 68, .int ((I3 18) 10), .ref 12, .ref 18] E3 I3 J3 S3 (q_V fun E4 I4 J4 S4 => ∀ w6 : Int32, w6 = (if ((I4 18) 10) ≤ ((I4 68) 1) then (-1) else ((I4 68) 1)) → (Q (.inl (some (.int w6))) E4 I4 J4 S4)))))))))))))))) : am_ww 167 0 [.ref 0, .int p1, .int p2, .int p3, .int p4] [] E I J S Q := by
  refine w_st (i' := 1) (ls' := [.ref 0, .int p1, .int p2, .int p3, .int p4]) (st' := [.int p4]) (E' := E) (I' := I) (J' := J) (S' := S) am_e167 rfl rfl rfl rfl ?_
  refine w_if1 am_e167 rfl rfl (fun c => ?_) (fun c => ?_)
  · replace h := h.1 (of_decide_eq_true c)
    exact w_end (r := .inr 0) (E' := (E.1 + 1, E.2.1 + 6, E.2.2)) am_e167 rfl rfl rfl h
  · replace h := h.2 (of_decide_eq_false c)
    refine w_st (i' := 3) (ls' := [.ref 0, .int p1, .int p2, .int p3, .int p4]) (st' := [.int p4]) (E' := E) (I' := I) (J' := J) (S' := S) am_e167 rfl rfl rfl rfl ?_
    refine w_st (i' := 4) (ls' := [.ref 0, .int p1, .int p2, .int p3, .int p4]) (st' := [.int (nI 2), .int p4]) (E' := E) (I' := I) (J' := J) (S' := S) am_e167 rfl rfl rfl rfl ?_
    refine w_if2 am_e167 rfl rfl (fun c => ?_) (fun c => ?_)
    · replace h := h.1 (of_decide_eq_true c)
      exact w_end (r := .inr 0) (E' := (E.1 + 1, E.2.1 + 6, E.2.2)) am_e167 rfl rfl rfl h
    · replace h := h.2 (of_decide_eq_false c)
      refine w_st (i' := 6) (ls' := [.ref 0, .int p1, .int p2, .int p3, .int p4]) (st' := [.ref 0]) (E' := E) (I' := I) (J' := J) (S' := S) am_e167 rfl rfl rfl rfl ?_
      refine w_st (i' := 7) (ls' := [.ref 0, .int p1, .int p2, .int p3, .int p4]) (st' := [.int p1, .ref 0]) (E' := E) (I' := I) (J' := J) (S' := S) am_e167 rfl rfl rfl rfl ?_
      refine w_st (i' := 8) (ls' := [.ref 0, .int p1, .int p2, .int p3, .int p4]) (st' := [.int p2, .int p1, .ref 0]) (E' := E) (I' := I) (J' := J) (S' := S) am_e167 rfl rfl rfl rfl ?_
      refine w_st (i' := 9) (ls' := [.ref 0, .int p1, .int p2, .int p3, .int p4]) (st' := [.int p3, .int p2, .int p1, .ref 0]) (E' := E) (I' := I) (J' := J) (S' := S) am_e167 rfl rfl rfl rfl ?_
      refine w_cI am_e167 rfl rfl (as := [.ref 0, .int p1, .int p2, .int p3]) (rest := []) rfl rfl (am_ww.mono h ?_)
      rintro _ E1 I1 J1 S1 ⟨v1, rfl, h⟩
      refine q_mkI ?_
      refine w_if1 am_e167 rfl rfl (fun c => ?_) (fun c => ?_)
      · replace h := h.2 (of_decide_eq_true c)
        refine w_st (i' := 17) (ls' := [.ref 0, .int p1, .int p2, .int p3, .int p4]) (st' := [.ref 0]) (E' := E1) (I' := I1) (J' := J1) (S' := S1) am_e167 rfl rfl rfl rfl ?_
        refine w_st (i' := 18) (ls' := [.ref 0, .int p1, .int p2, .int p3, .int p4]) (st' := [.ref 68]) (E' := E1) (I' := I1) (J' := J1) (S' := S1) am_e167 rfl rfl rfl rfl ?_
        refine w_st (i' := 19) (ls' := [.ref 0, .int p1, .int p2, .int p3, .int p4]) (st' := [.ref 0, .ref 68]) (E' := E1) (I' := I1) (J' := J1) (S' := S1) am_e167 rfl rfl rfl rfl ?_
        refine w_st (i' := 20) (ls' := [.ref 0, .int p1, .int p2, .int p3, .int p4]) (st' := [.ref 12, .ref 68]) (E' := E1) (I' := I1) (J' := J1) (S' := S1) am_e167 rfl rfl rfl rfl ?_
        refine w_cV am_e167 rfl rfl (as := [.ref 68, .ref 12]) (rest := []) rfl rfl (am_ww.mono h ?_)
        rintro _ E2 I2 J2 S2 ⟨rfl, h⟩
        refine q_mkV ?_
        refine w_st (i' := 22) (ls' := [.ref 0, .int p1, .int p2, .int p3, .int p4]) (st' := [.ref 0]) (E' := E2) (I' := I2) (J' := J2) (S' := S2) am_e167 rfl rfl rfl rfl ?_
        refine w_st (i' := 23) (ls' := [.ref 0, .int p1, .int p2, .int p3, .int p4]) (st' := [.ref 68]) (E' := E2) (I' := I2) (J' := J2) (S' := S2) am_e167 rfl rfl rfl rfl ?_
        refine w_st (i' := 24) (ls' := [.ref 0, .int p1, .int p2, .int p3, .int p4]) (st' := [.int p1, .ref 68]) (E' := E2) (I' := I2) (J' := J2) (S' := S2) am_e167 rfl rfl rfl rfl ?_
        refine w_st (i' := 25) (ls' := [.ref 0, .int p1, .int p2, .int p3, .int p4]) (st' := [.int p2, .int p1, .ref 68]) (E' := E2) (I' := I2) (J' := J2) (S' := S2) am_e167 rfl rfl rfl rfl ?_
        refine w_st (i' := 26) (ls' := [.ref 0, .int p1, .int p2, .int p3, .int p4]) (st' := [.int p3, .int p2, .int p1, .ref 68]) (E' := E2) (I' := I2) (J' := J2) (S' := S2) am_e167 rfl rfl rfl rfl ?_
        refine w_cV am_e167 rfl rfl (as := [.ref 68, .int p1, .int p2, .int p3]) (rest := []) rfl rfl (am_ww.mono h ?_)
        rintro _ E3 I3 J3 S3 ⟨rfl, h⟩
        refine q_mkV ?_
        refine w_st (i' := 28) (ls' := [.ref 0, .int p1, .int p2, .int p3, .int p4]) (st' := [.int p4]) (E' := E3) (I' := I3) (J' := J3) (S' := S3) am_e167 rfl rfl rfl rfl ?_
        refine w_if1 am_e167 rfl rfl (fun c => ?_) (fun c => ?_)
        · replace h := h.2 (of_decide_eq_true c)
          refine w_st (i' := 33) (ls' := [.ref 0, .int p1, .int p2, .int p3, .int p4]) (st' := [.int p4]) (E' := E3) (I' := I3) (J' := J3) (S' := S3) am_e167 rfl rfl rfl rfl ?_
          refine w_st (i' := 34) (ls' := [.ref 0, .int p1, .int p2, .int p3, .int p4]) (st' := [.int (nI 1), .int p4]) (E' := E3) (I' := I3) (J' := J3) (S' := S3) am_e167 rfl rfl rfl rfl ?_
          refine w_if2 am_e167 rfl rfl (fun c => ?_) (fun c => ?_)
          · replace h := h.2 (of_decide_eq_true c)
            refine w_st (i' := 39) (ls' := [.ref 0, .int p1, .int p2, .int p3, .int p4]) (st' := [.ref 0]) (E' := E3) (I' := I3) (J' := J3) (S' := S3) am_e167 rfl rfl rfl rfl ?_
            refine w_st (i' := 40) (ls' := [.ref 0, .int p1, .int p2, .int p3, .int p4]) (st' := [.ref 68]) (E' := E3) (I' := I3) (J' := J3) (S' := S3) am_e167 rfl rfl rfl rfl ?_
            refine w_st (i' := 41) (ls' := [.ref 0, .int p1, .int p2, .int p3, .int p4]) (st' := [.ref 0, .ref 68]) (E' := E3) (I' := I3) (J' := J3) (S' := S3) am_e167 rfl rfl rfl rfl ?_
            refine w_st (i' := 42) (ls' := [.ref 0, .int p1, .int p2, .int p3, .int p4]) (st' := [.ref 18, .ref 68]) (E' := E3) (I' := I3) (J' := J3) (S' := S3) am_e167 rfl rfl rfl rfl ?_
            refine w_st (i' := 43) (ls' := [.ref 0, .int p1, .int p2, .int p3, .int p4]) (st' := [.int ((I3 18) 10), .ref 68]) (E' := E3) (I' := I3) (J' := J3) (S' := S3) am_e167 rfl rfl rfl rfl ?_
            refine w_st (i' := 44) (ls' := [.ref 0, .int p1, .int p2, .int p3, .int p4]) (st' := [.ref 0, .int ((I3 18) 10), .ref 68]) (E' := E3) (I' := I3) (J' := J3) (S' := S3) am_e167 rfl rfl rfl rfl ?_
            refine w_st (i' := 45) (ls' := [.ref 0, .int p1, .int p2, .int p3, .int p4]) (st' := [.ref 12, .int ((I3 18) 10), .ref 68]) (E' := E3) (I' := I3) (J' := J3) (S' := S3) am_e167 rfl rfl rfl rfl ?_
            refine w_st (i' := 46) (ls' := [.ref 0, .int p1, .int p2, .int p3, .int p4]) (st' := [.ref 0, .ref 12, .int ((I3 18) 10), .ref 68]) (E' := E3) (I' := I3) (J' := J3) (S' := S3) am_e167 rfl rfl rfl rfl ?_
            refine w_st (i' := 47) (ls' := [.ref 0, .int p1, .int p2, .int p3, .int p4]) (st' := [.ref 18, .ref 12, .int ((I3 18) 10), .ref 68]) (E' := E3) (I' := I3) (J' := J3) (S' := S3) am_e167 rfl rfl rfl rfl ?_
            refine w_cV am_e167 rfl rfl (as := [.ref 68, .int ((I3 18) 10), .ref 12, .ref 18]) (rest := []) rfl rfl (am_ww.mono h ?_)
            rintro _ E4 I4 J4 S4 ⟨rfl, h⟩
            refine q_mkV ?_
            refine w_st (i' := 49) (ls' := [.ref 0, .int p1, .int p2, .int p3, .int p4]) (st' := [.ref 0]) (E' := E4) (I' := I4) (J' := J4) (S' := S4) am_e167 rfl rfl rfl rfl ?_
            refine w_st (i' := 50) (ls' := [.ref 0, .int p1, .int p2, .int p3, .int p4]) (st' := [.ref 68]) (E' := E4) (I' := I4) (J' := J4) (S' := S4) am_e167 rfl rfl rfl rfl ?_
            refine w_st (i' := 51) (ls' := [.ref 0, .int p1, .int p2, .int p3, .int p4]) (st' := [.int ((I4 68) 1)]) (E' := E4) (I' := I4) (J' := J4) (S' := S4) am_e167 rfl rfl rfl rfl ?_
            refine w_st (i' := 52) (ls' := [.ref 0, .int p1, .int p2, .int p3, .int p4]) (st' := [.ref 0, .int ((I4 68) 1)]) (E' := E4) (I' := I4) (J' := J4) (S' := S4) am_e167 rfl rfl rfl rfl ?_
            refine w_st (i' := 53) (ls' := [.ref 0, .int p1, .int p2, .int p3, .int p4]) (st' := [.ref 18, .int ((I4 68) 1)]) (E' := E4) (I' := I4) (J' := J4) (S' := S4) am_e167 rfl rfl rfl rfl ?_
            refine w_st (i' := 54) (ls' := [.ref 0, .int p1, .int p2, .int p3, .int p4]) (st' := [.int ((I4 18) 10), .int ((I4 68) 1)]) (E' := E4) (I' := I4) (J' := J4) (S' := S4) am_e167 rfl rfl rfl rfl ?_
            refine w_mg (i := 60) (ls' := [.ref 0, .int p1, .int p2, .int p3, .int p4]) (st' := [.int (if ((I4 18) 10) ≤ ((I4 68) 1) then (-1) else ((I4 68) 1))]) (fun hm => ?_) ?_
            · clear h
              refine w_if2 am_e167 rfl rfl (fun c => ?_) (fun c => ?_)
              · have m5 : ((I4 18) 10) ≤ ((I4 68) 1) := (of_decide_eq_true c)
                refine w_st (i' := 60) (ls' := [.ref 0, .int p1, .int p2, .int p3, .int p4]) (st' := [.int (-1)]) (E' := E4) (I' := I4) (J' := J4) (S' := S4) am_e167 rfl rfl rfl rfl ?_
                first | exact hm | (simp only [if_pos m5] at hm; exact hm)
              · have m5 : ¬ (((I4 18) 10) ≤ ((I4 68) 1)) := (of_decide_eq_false c)
                refine w_st (i' := 56) (ls' := [.ref 0, .int p1, .int p2, .int p3, .int p4]) (st' := [.ref 0]) (E' := E4) (I' := I4) (J' := J4) (S' := S4) am_e167 rfl rfl rfl rfl ?_
                refine w_st (i' := 57) (ls' := [.ref 0, .int p1, .int p2, .int p3, .int p4]) (st' := [.ref 68]) (E' := E4) (I' := I4) (J' := J4) (S' := S4) am_e167 rfl rfl rfl rfl ?_
                refine w_st (i' := 58) (ls' := [.ref 0, .int p1, .int p2, .int p3, .int p4]) (st' := [.int ((I4 68) 1)]) (E' := E4) (I' := I4) (J' := J4) (S' := S4) am_e167 rfl rfl rfl rfl ?_
                refine w_st (i' := 60) (ls' := [.ref 0, .int p1, .int p2, .int p3, .int p4]) (st' := [.int ((I4 68) 1)]) (E' := E4) (I' := I4) (J' := J4) (S' := S4) am_e167 rfl rfl rfl rfl ?_
                first | exact hm | (simp only [if_neg m5] at hm; exact hm)
            refine w_var (fun w6 => am_ww 167 60 [.ref 0, .int p1, .int p2, .int p3, .int p4] [.int w6] E4 I4 J4 S4 _) (if ((I4 18) 10) ≤ ((I4 68) 1) then (-1) else ((I4 68) 1)) (fun w6 hw6 => ?_)
            replace h := h w6 hw6
            exact w_ri am_e167 rfl rfl h
          · replace h := h.1 (Decidable.not_not.mp (of_decide_eq_false c))
            refine w_st (i' := 36) (ls' := [.ref 0, .int p1, .int p2, .int p3, .int p4]) (st' := [.ref 0]) (E' := E3) (I' := I3) (J' := J3) (S' := S3) am_e167 rfl rfl rfl rfl ?_
            refine w_cI am_e167 rfl rfl (as := [.ref 0]) (rest := []) rfl rfl (am_ww.mono h ?_)
            rintro _ E7 I7 J7 S7 ⟨v7, rfl, h⟩
            refine q_mkI ?_
            exact w_ri am_e167 rfl rfl h
        · replace h := h.1 (Decidable.not_not.mp (of_decide_eq_false c))
          refine w_st (i' := 30) (ls' := [.ref 0, .int p1, .int p2, .int p3, .int p4]) (st' := [.ref 0]) (E' := E3) (I' := I3) (J' := J3) (S' := S3) am_e167 rfl rfl rfl rfl ?_
          refine w_cI am_e167 rfl rfl (as := [.ref 0]) (rest := []) rfl rfl (am_ww.mono h ?_)
          rintro _ E8 I8 J8 S8 ⟨v8, rfl, h⟩
          refine q_mkI ?_
          exact w_ri am_e167 rfl rfl h
      · replace h := h.1 (Decidable.not_not.mp (of_decide_eq_false c))
        exact w_end (r := .inr 0) (E' := (E1.1 + 1, E1.2.1 + 6, E1.2.2)) am_e167 rfl rfl rfl h
-- 175 matters
theorem g175_0 {p1 : Int32} {E : am_Ev} {I : Nat → Nat → Int32} {J : Nat → Nat → Int64} {S : Nat → Nat → Option Nat} {Q : am_Qt}  (h : (p1 < 0 → (Q (.inr 0) (E.1 + 1, E.2.1 + 6, E.2.2) I J S)) ∧ (¬ p1 < 0 → (((nI 3) ≤ p1 → (Q (.inr 0) (E.1 + 1, E.2.1 + 6, E.2.2) I J S)) ∧ (¬ (nI 3) ≤ p1 → (am_ww 175 17 [.ref 0, .int p1, .ref 20, .int (nI 0), .int (nI 0)] [] E I J S Q))))) : am_ww 175 0 [.ref 0, .int p1, am_U, am_U, am_U] [] E I J S Q := by
  refine w_st (i' := 1) (ls' := [.ref 0, .int p1, am_U, am_U, am_U]) (st' := [.int p1]) (E' := E) (I' := I) (J' := J) (S' := S) am_e175 rfl rfl rfl rfl ?_
  refine w_cI am_e175 rfl rfl (as := [.int p1]) (rest := []) rfl rfl ?_
  show am_ww 43 0 [.int p1] [] E I J S _
  refine w_st (i' := 1) (ls' := [.int p1]) (st' := [.int p1]) (E' := E) (I' := I) (J' := J) (S' := S) am_e43 rfl rfl rfl rfl ?_
  refine w_if1 am_e43 rfl rfl (fun c => ?_) (fun c => ?_)
  · replace h := h.1 (of_decide_eq_true c)
    refine w_st (i' := 8) (ls' := [.int p1]) (st' := [.int (nI 0)]) (E' := E) (I' := I) (J' := J) (S' := S) am_e43 rfl rfl rfl rfl ?_
    refine w_end (E' := E) (I' := I) (J' := J) (S' := S) am_e43 rfl rfl rfl (q_mkI ?_)
    show am_ww 175 2 [.ref 0, .int p1, am_U, am_U, am_U] [.int (nI 0)] E I J S _
    refine w_st (i' := 3) (ls' := [.ref 0, .int p1, am_U, am_U, am_U]) (st' := []) (E' := E) (I' := I) (J' := J) (S' := S) am_e175 rfl rfl rfl rfl ?_
    exact w_end (r := .inr 0) (E' := (E.1 + 1, E.2.1 + 6, E.2.2)) am_e175 rfl rfl rfl h
  · replace h := h.2 (of_decide_eq_false c)
    refine w_st (i' := 3) (ls' := [.int p1]) (st' := [.int p1]) (E' := E) (I' := I) (J' := J) (S' := S) am_e43 rfl rfl rfl rfl ?_
    refine w_st (i' := 4) (ls' := [.int p1]) (st' := [.int (nI 3), .int p1]) (E' := E) (I' := I) (J' := J) (S' := S) am_e43 rfl rfl rfl rfl ?_
    refine w_if2 am_e43 rfl rfl (fun c => ?_) (fun c => ?_)
    · replace h := h.1 (of_decide_eq_true c)
      refine w_st (i' := 8) (ls' := [.int p1]) (st' := [.int (nI 0)]) (E' := E) (I' := I) (J' := J) (S' := S) am_e43 rfl rfl rfl rfl ?_
      refine w_end (E' := E) (I' := I) (J' := J) (S' := S) am_e43 rfl rfl rfl (q_mkI ?_)
      show am_ww 175 2 [.ref 0, .int p1, am_U, am_U, am_U] [.int (nI 0)] E I J S _
      refine w_st (i' := 3) (ls' := [.ref 0, .int p1, am_U, am_U, am_U]) (st' := []) (E' := E) (I' := I) (J' := J) (S' := S) am_e175 rfl rfl rfl rfl ?_
      exact w_end (r := .inr 0) (E' := (E.1 + 1, E.2.1 + 6, E.2.2)) am_e175 rfl rfl rfl h
    · replace h := h.2 (of_decide_eq_false c)
      refine w_st (i' := 6) (ls' := [.int p1]) (st' := [.int (nI 1)]) (E' := E) (I' := I) (J' := J) (S' := S) am_e43 rfl rfl rfl rfl ?_
      refine w_st (i' := 8) (ls' := [.int p1]) (st' := [.int (nI 1)]) (E' := E) (I' := I) (J' := J) (S' := S) am_e43 rfl rfl rfl rfl ?_
      refine w_end (E' := E) (I' := I) (J' := J) (S' := S) am_e43 rfl rfl rfl (q_mkI ?_)
      show am_ww 175 2 [.ref 0, .int p1, am_U, am_U, am_U] [.int (nI 1)] E I J S _
      refine w_st (i' := 8) (ls' := [.ref 0, .int p1, am_U, am_U, am_U]) (st' := []) (E' := E) (I' := I) (J' := J) (S' := S) am_e175 rfl rfl rfl rfl ?_
      refine w_st (i' := 9) (ls' := [.ref 0, .int p1, am_U, am_U, am_U]) (st' := [.ref 0]) (E' := E) (I' := I) (J' := J) (S' := S) am_e175 rfl rfl rfl rfl ?_
      refine w_st (i' := 10) (ls' := [.ref 0, .int p1, am_U, am_U, am_U]) (st' := [.ref 18]) (E' := E) (I' := I) (J' := J) (S' := S) am_e175 rfl rfl rfl rfl ?_
      refine w_st (i' := 11) (ls' := [.ref 0, .int p1, am_U, am_U, am_U]) (st' := [.ref 19]) (E' := E) (I' := I) (J' := J) (S' := S) am_e175 rfl rfl rfl rfl ?_
      refine w_st (i' := 12) (ls' := [.ref 0, .int p1, am_U, am_U, am_U]) (st' := [.ref 20]) (E' := E) (I' := I) (J' := J) (S' := S) am_e175 rfl rfl rfl rfl ?_
      refine w_st (i' := 13) (ls' := [.ref 0, .int p1, .ref 20, am_U, am_U]) (st' := []) (E' := E) (I' := I) (J' := J) (S' := S) am_e175 rfl rfl rfl rfl ?_
      refine w_st (i' := 14) (ls' := [.ref 0, .int p1, .ref 20, am_U, am_U]) (st' := [.int (nI 0)]) (E' := E) (I' := I) (J' := J) (S' := S) am_e175 rfl rfl rfl rfl ?_
      refine w_st (i' := 15) (ls' := [.ref 0, .int p1, .ref 20, .int (nI 0), am_U]) (st' := []) (E' := E) (I' := I) (J' := J) (S' := S) am_e175 rfl rfl rfl rfl ?_
      refine w_st (i' := 16) (ls' := [.ref 0, .int p1, .ref 20, .int (nI 0), am_U]) (st' := [.int (nI 0)]) (E' := E) (I' := I) (J' := J) (S' := S) am_e175 rfl rfl rfl rfl ?_
      refine w_st (i' := 17) (ls' := [.ref 0, .int p1, .ref 20, .int (nI 0), .int (nI 0)]) (st' := []) (E' := E) (I' := I) (J' := J) (S' := S) am_e175 rfl rfl rfl rfl ?_
      exact h
theorem g175_17 {x1 : Int32} {x3 : Int32} {x4 : Int32} {E : am_Ev} {I : Nat → Nat → Int32} {J : Nat → Nat → Int64} {S : Nat → Nat → Option Nat} {Q : am_Qt}  (h : vp_in x1 3 ∧ ((((I 26) x1.toNatClampNeg) ≤ x4 → (Q (.inl (some (.int x3))) E I J S)) ∧ (¬ ((I 26) x1.toNatClampNeg) ≤ x4 → (am_cl 17 [.ref 68, .ref 12] E I J S (q_V fun E2 I2 J2 S2 => vp_in ((x1 * (nI 30)) + x4) 90 ∧ (am_cl 169 [.ref 68, .int ((nI 2) + x1), .int x4, .int (((I2 27) (((x1 * (nI 30)) + x4).toNatClampNeg)) + (nI 1))] E2 I2 J2 S2 (q_V fun E4 I4 J4 S4 => am_cl 46 [.ref 68, .int ((I4 18) 10), .ref 12, .ref 18] E4 I4 J4 S4 (q_V fun E5 I5 J5 S5 => (((I5 68) 1) < ((I5 18) 10) → (am_ww 175 17 [.ref 0, .int x1, .ref 20, .int (x3 + nI 1), .int (x4 + nI 1)] [] E5 I5 J5 S5 Q)) ∧ (¬ ((I5 68) 1) < ((I5 18) 10) → (am_cl 172 [.ref 70, .ref 21, .int (nI 16)] E5 I5 J5 S5 (q_I fun v6 E6 I6 J6 S6 => (v6 = 0 → (am_ww 175 17 [.ref 0, .int x1, .ref 20, .int (x3 + nI 1), .int (x4 + nI 1)] [] E6 I6 J6 S6 Q)) ∧ (¬ v6 = 0 → (am_ww 175 17 [.ref 0, .int x1, .ref 20, .int x3, .int (x4 + nI 1)] [] E6 I6 J6 S6 Q))))))))))))) : am_ww 175 17 [.ref 0, .int x1, .ref 20, .int x3, .int x4] [] E I J S Q := by
  refine w_st (i' := 18) (ls' := [.ref 0, .int x1, .ref 20, .int x3, .int x4]) (st' := [.int x4]) (E' := E) (I' := I) (J' := J) (S' := S) am_e175 rfl rfl rfl rfl ?_
  refine w_st (i' := 19) (ls' := [.ref 0, .int x1, .ref 20, .int x3, .int x4]) (st' := [.ref 20, .int x4]) (E' := E) (I' := I) (J' := J) (S' := S) am_e175 rfl rfl rfl rfl ?_
  refine w_st (i' := 20) (ls' := [.ref 0, .int x1, .ref 20, .int x3, .int x4]) (st' := [.ref 26, .int x4]) (E' := E) (I' := I) (J' := J) (S' := S) am_e175 rfl rfl rfl rfl ?_
  refine w_st (i' := 21) (ls' := [.ref 0, .int x1, .ref 20, .int x3, .int x4]) (st' := [.int x1, .ref 26, .int x4]) (E' := E) (I' := I) (J' := J) (S' := S) am_e175 rfl rfl rfl rfl ?_
  have hf1 := h.1
  replace h := h.2
  refine w_ia (k := 26) (n := 3) (jn := x1.toNatClampNeg) am_e175 rfl rfl (by decide) hf1 rfl ?_
  refine w_if2 am_e175 rfl rfl (fun c => ?_) (fun c => ?_)
  · replace h := h.1 (of_decide_eq_true c)
    refine w_st (i' := 76) (ls' := [.ref 0, .int x1, .ref 20, .int x3, .int x4]) (st' := [.int x3]) (E' := E) (I' := I) (J' := J) (S' := S) am_e175 rfl rfl rfl rfl ?_
    exact w_ri am_e175 rfl rfl h
  · replace h := h.2 (of_decide_eq_false c)
    refine w_st (i' := 24) (ls' := [.ref 0, .int x1, .ref 20, .int x3, .int x4]) (st' := [.ref 0]) (E' := E) (I' := I) (J' := J) (S' := S) am_e175 rfl rfl rfl rfl ?_
    refine w_st (i' := 25) (ls' := [.ref 0, .int x1, .ref 20, .int x3, .int x4]) (st' := [.ref 68]) (E' := E) (I' := I) (J' := J) (S' := S) am_e175 rfl rfl rfl rfl ?_
    refine w_st (i' := 26) (ls' := [.ref 0, .int x1, .ref 20, .int x3, .int x4]) (st' := [.ref 0, .ref 68]) (E' := E) (I' := I) (J' := J) (S' := S) am_e175 rfl rfl rfl rfl ?_
    refine w_st (i' := 27) (ls' := [.ref 0, .int x1, .ref 20, .int x3, .int x4]) (st' := [.ref 12, .ref 68]) (E' := E) (I' := I) (J' := J) (S' := S) am_e175 rfl rfl rfl rfl ?_
    refine w_cV am_e175 rfl rfl (as := [.ref 68, .ref 12]) (rest := []) rfl rfl (am_ww.mono h ?_)
    rintro _ E2 I2 J2 S2 ⟨rfl, h⟩
    refine q_mkV ?_
    refine w_st (i' := 29) (ls' := [.ref 0, .int x1, .ref 20, .int x3, .int x4]) (st' := [.ref 0]) (E' := E2) (I' := I2) (J' := J2) (S' := S2) am_e175 rfl rfl rfl rfl ?_
    refine w_st (i' := 30) (ls' := [.ref 0, .int x1, .ref 20, .int x3, .int x4]) (st' := [.ref 68]) (E' := E2) (I' := I2) (J' := J2) (S' := S2) am_e175 rfl rfl rfl rfl ?_
    refine w_st (i' := 31) (ls' := [.ref 0, .int x1, .ref 20, .int x3, .int x4]) (st' := [.int (nI 2), .ref 68]) (E' := E2) (I' := I2) (J' := J2) (S' := S2) am_e175 rfl rfl rfl rfl ?_
    refine w_st (i' := 32) (ls' := [.ref 0, .int x1, .ref 20, .int x3, .int x4]) (st' := [.int x1, .int (nI 2), .ref 68]) (E' := E2) (I' := I2) (J' := J2) (S' := S2) am_e175 rfl rfl rfl rfl ?_
    refine w_st (i' := 33) (ls' := [.ref 0, .int x1, .ref 20, .int x3, .int x4]) (st' := [.int ((nI 2) + x1), .ref 68]) (E' := E2) (I' := I2) (J' := J2) (S' := S2) am_e175 rfl rfl rfl rfl ?_
    refine w_st (i' := 34) (ls' := [.ref 0, .int x1, .ref 20, .int x3, .int x4]) (st' := [.int x4, .int ((nI 2) + x1), .ref 68]) (E' := E2) (I' := I2) (J' := J2) (S' := S2) am_e175 rfl rfl rfl rfl ?_
    refine w_st (i' := 35) (ls' := [.ref 0, .int x1, .ref 20, .int x3, .int x4]) (st' := [.ref 0, .int x4, .int ((nI 2) + x1), .ref 68]) (E' := E2) (I' := I2) (J' := J2) (S' := S2) am_e175 rfl rfl rfl rfl ?_
    refine w_st (i' := 36) (ls' := [.ref 0, .int x1, .ref 20, .int x3, .int x4]) (st' := [.ref 18, .int x4, .int ((nI 2) + x1), .ref 68]) (E' := E2) (I' := I2) (J' := J2) (S' := S2) am_e175 rfl rfl rfl rfl ?_
    refine w_st (i' := 37) (ls' := [.ref 0, .int x1, .ref 20, .int x3, .int x4]) (st' := [.ref 27, .int x4, .int ((nI 2) + x1), .ref 68]) (E' := E2) (I' := I2) (J' := J2) (S' := S2) am_e175 rfl rfl rfl rfl ?_
    refine w_st (i' := 38) (ls' := [.ref 0, .int x1, .ref 20, .int x3, .int x4]) (st' := [.int x1, .ref 27, .int x4, .int ((nI 2) + x1), .ref 68]) (E' := E2) (I' := I2) (J' := J2) (S' := S2) am_e175 rfl rfl rfl rfl ?_
    refine w_st (i' := 39) (ls' := [.ref 0, .int x1, .ref 20, .int x3, .int x4]) (st' := [.int (nI 30), .int x1, .ref 27, .int x4, .int ((nI 2) + x1), .ref 68]) (E' := E2) (I' := I2) (J' := J2) (S' := S2) am_e175 rfl rfl rfl rfl ?_
    refine w_st (i' := 40) (ls' := [.ref 0, .int x1, .ref 20, .int x3, .int x4]) (st' := [.int (x1 * (nI 30)), .ref 27, .int x4, .int ((nI 2) + x1), .ref 68]) (E' := E2) (I' := I2) (J' := J2) (S' := S2) am_e175 rfl rfl rfl rfl ?_
    refine w_st (i' := 41) (ls' := [.ref 0, .int x1, .ref 20, .int x3, .int x4]) (st' := [.int x4, .int (x1 * (nI 30)), .ref 27, .int x4, .int ((nI 2) + x1), .ref 68]) (E' := E2) (I' := I2) (J' := J2) (S' := S2) am_e175 rfl rfl rfl rfl ?_
    refine w_st (i' := 42) (ls' := [.ref 0, .int x1, .ref 20, .int x3, .int x4]) (st' := [.int ((x1 * (nI 30)) + x4), .ref 27, .int x4, .int ((nI 2) + x1), .ref 68]) (E' := E2) (I' := I2) (J' := J2) (S' := S2) am_e175 rfl rfl rfl rfl ?_
    have hf3 := h.1
    replace h := h.2
    refine w_ia (k := 27) (n := 90) (jn := ((x1 * (nI 30)) + x4).toNatClampNeg) am_e175 rfl rfl (by decide) hf3 rfl ?_
    refine w_st (i' := 44) (ls' := [.ref 0, .int x1, .ref 20, .int x3, .int x4]) (st' := [.int (nI 1), .int ((I2 27) (((x1 * (nI 30)) + x4).toNatClampNeg)), .int x4, .int ((nI 2) + x1), .ref 68]) (E' := E2) (I' := I2) (J' := J2) (S' := S2) am_e175 rfl rfl rfl rfl ?_
    refine w_st (i' := 45) (ls' := [.ref 0, .int x1, .ref 20, .int x3, .int x4]) (st' := [.int (((I2 27) (((x1 * (nI 30)) + x4).toNatClampNeg)) + (nI 1)), .int x4, .int ((nI 2) + x1), .ref 68]) (E' := E2) (I' := I2) (J' := J2) (S' := S2) am_e175 rfl rfl rfl rfl ?_
    refine w_cV am_e175 rfl rfl (as := [.ref 68, .int ((nI 2) + x1), .int x4, .int (((I2 27) (((x1 * (nI 30)) + x4).toNatClampNeg)) + (nI 1))]) (rest := []) rfl rfl (am_ww.mono h ?_)
    rintro _ E4 I4 J4 S4 ⟨rfl, h⟩
    refine q_mkV ?_
    refine w_st (i' := 47) (ls' := [.ref 0, .int x1, .ref 20, .int x3, .int x4]) (st' := [.ref 0]) (E' := E4) (I' := I4) (J' := J4) (S' := S4) am_e175 rfl rfl rfl rfl ?_
    refine w_st (i' := 48) (ls' := [.ref 0, .int x1, .ref 20, .int x3, .int x4]) (st' := [.ref 68]) (E' := E4) (I' := I4) (J' := J4) (S' := S4) am_e175 rfl rfl rfl rfl ?_
    refine w_st (i' := 49) (ls' := [.ref 0, .int x1, .ref 20, .int x3, .int x4]) (st' := [.ref 0, .ref 68]) (E' := E4) (I' := I4) (J' := J4) (S' := S4) am_e175 rfl rfl rfl rfl ?_
    refine w_st (i' := 50) (ls' := [.ref 0, .int x1, .ref 20, .int x3, .int x4]) (st' := [.ref 18, .ref 68]) (E' := E4) (I' := I4) (J' := J4) (S' := S4) am_e175 rfl rfl rfl rfl ?_
    refine w_st (i' := 51) (ls' := [.ref 0, .int x1, .ref 20, .int x3, .int x4]) (st' := [.int ((I4 18) 10), .ref 68]) (E' := E4) (I' := I4) (J' := J4) (S' := S4) am_e175 rfl rfl rfl rfl ?_
    refine w_st (i' := 52) (ls' := [.ref 0, .int x1, .ref 20, .int x3, .int x4]) (st' := [.ref 0, .int ((I4 18) 10), .ref 68]) (E' := E4) (I' := I4) (J' := J4) (S' := S4) am_e175 rfl rfl rfl rfl ?_
    refine w_st (i' := 53) (ls' := [.ref 0, .int x1, .ref 20, .int x3, .int x4]) (st' := [.ref 12, .int ((I4 18) 10), .ref 68]) (E' := E4) (I' := I4) (J' := J4) (S' := S4) am_e175 rfl rfl rfl rfl ?_
    refine w_st (i' := 54) (ls' := [.ref 0, .int x1, .ref 20, .int x3, .int x4]) (st' := [.ref 0, .ref 12, .int ((I4 18) 10), .ref 68]) (E' := E4) (I' := I4) (J' := J4) (S' := S4) am_e175 rfl rfl rfl rfl ?_
    refine w_st (i' := 55) (ls' := [.ref 0, .int x1, .ref 20, .int x3, .int x4]) (st' := [.ref 18, .ref 12, .int ((I4 18) 10), .ref 68]) (E' := E4) (I' := I4) (J' := J4) (S' := S4) am_e175 rfl rfl rfl rfl ?_
    refine w_cV am_e175 rfl rfl (as := [.ref 68, .int ((I4 18) 10), .ref 12, .ref 18]) (rest := []) rfl rfl (am_ww.mono h ?_)
    rintro _ E5 I5 J5 S5 ⟨rfl, h⟩
    refine q_mkV ?_
    refine w_st (i' := 57) (ls' := [.ref 0, .int x1, .ref 20, .int x3, .int x4]) (st' := [.ref 0]) (E' := E5) (I' := I5) (J' := J5) (S' := S5) am_e175 rfl rfl rfl rfl ?_
    refine w_st (i' := 58) (ls' := [.ref 0, .int x1, .ref 20, .int x3, .int x4]) (st' := [.ref 68]) (E' := E5) (I' := I5) (J' := J5) (S' := S5) am_e175 rfl rfl rfl rfl ?_
    refine w_st (i' := 59) (ls' := [.ref 0, .int x1, .ref 20, .int x3, .int x4]) (st' := [.int ((I5 68) 1)]) (E' := E5) (I' := I5) (J' := J5) (S' := S5) am_e175 rfl rfl rfl rfl ?_
    refine w_st (i' := 60) (ls' := [.ref 0, .int x1, .ref 20, .int x3, .int x4]) (st' := [.ref 0, .int ((I5 68) 1)]) (E' := E5) (I' := I5) (J' := J5) (S' := S5) am_e175 rfl rfl rfl rfl ?_
    refine w_st (i' := 61) (ls' := [.ref 0, .int x1, .ref 20, .int x3, .int x4]) (st' := [.ref 18, .int ((I5 68) 1)]) (E' := E5) (I' := I5) (J' := J5) (S' := S5) am_e175 rfl rfl rfl rfl ?_
    refine w_st (i' := 62) (ls' := [.ref 0, .int x1, .ref 20, .int x3, .int x4]) (st' := [.int ((I5 18) 10), .int ((I5 68) 1)]) (E' := E5) (I' := I5) (J' := J5) (S' := S5) am_e175 rfl rfl rfl rfl ?_
    refine w_if2 am_e175 rfl rfl (fun c => ?_) (fun c => ?_)
    · replace h := h.1 (of_decide_eq_true c)
      refine w_st (i' := 73) (ls' := [.ref 0, .int x1, .ref 20, .int (x3 + nI 1), .int x4]) (st' := []) (E' := E5) (I' := I5) (J' := J5) (S' := S5) am_e175 rfl rfl rfl rfl ?_
      refine w_st (i' := 74) (ls' := [.ref 0, .int x1, .ref 20, .int (x3 + nI 1), .int (x4 + nI 1)]) (st' := []) (E' := E5) (I' := I5) (J' := J5) (S' := S5) am_e175 rfl rfl rfl rfl ?_
      refine w_st (i' := 17) (ls' := [.ref 0, .int x1, .ref 20, .int (x3 + nI 1), .int (x4 + nI 1)]) (st' := []) (E' := E5) (I' := I5) (J' := J5) (S' := S5) am_e175 rfl rfl rfl rfl ?_
      exact h
    · replace h := h.2 (of_decide_eq_false c)
      refine w_st (i' := 64) (ls' := [.ref 0, .int x1, .ref 20, .int x3, .int x4]) (st' := [.ref 0]) (E' := E5) (I' := I5) (J' := J5) (S' := S5) am_e175 rfl rfl rfl rfl ?_
      refine w_st (i' := 65) (ls' := [.ref 0, .int x1, .ref 20, .int x3, .int x4]) (st' := [.ref 68]) (E' := E5) (I' := I5) (J' := J5) (S' := S5) am_e175 rfl rfl rfl rfl ?_
      refine w_st (i' := 66) (ls' := [.ref 0, .int x1, .ref 20, .int x3, .int x4]) (st' := [.ref 69]) (E' := E5) (I' := I5) (J' := J5) (S' := S5) am_e175 rfl rfl rfl rfl ?_
      refine w_st (i' := 67) (ls' := [.ref 0, .int x1, .ref 20, .int x3, .int x4]) (st' := [.ref 70]) (E' := E5) (I' := I5) (J' := J5) (S' := S5) am_e175 rfl rfl rfl rfl ?_
      refine w_st (i' := 68) (ls' := [.ref 0, .int x1, .ref 20, .int x3, .int x4]) (st' := [.ref 20, .ref 70]) (E' := E5) (I' := I5) (J' := J5) (S' := S5) am_e175 rfl rfl rfl rfl ?_
      refine w_st (i' := 69) (ls' := [.ref 0, .int x1, .ref 20, .int x3, .int x4]) (st' := [.ref 21, .ref 70]) (E' := E5) (I' := I5) (J' := J5) (S' := S5) am_e175 rfl rfl rfl rfl ?_
      refine w_st (i' := 70) (ls' := [.ref 0, .int x1, .ref 20, .int x3, .int x4]) (st' := [.int (nI 16), .ref 21, .ref 70]) (E' := E5) (I' := I5) (J' := J5) (S' := S5) am_e175 rfl rfl rfl rfl ?_
      refine w_cI am_e175 rfl rfl (as := [.ref 70, .ref 21, .int (nI 16)]) (rest := []) rfl rfl (am_ww.mono h ?_)
      rintro _ E6 I6 J6 S6 ⟨v6, rfl, h⟩
      refine q_mkI ?_
      refine w_if1 am_e175 rfl rfl (fun c => ?_) (fun c => ?_)
      · replace h := h.2 (of_decide_eq_true c)
        refine w_st (i' := 74) (ls' := [.ref 0, .int x1, .ref 20, .int x3, .int (x4 + nI 1)]) (st' := []) (E' := E6) (I' := I6) (J' := J6) (S' := S6) am_e175 rfl rfl rfl rfl ?_
        refine w_st (i' := 17) (ls' := [.ref 0, .int x1, .ref 20, .int x3, .int (x4 + nI 1)]) (st' := []) (E' := E6) (I' := I6) (J' := J6) (S' := S6) am_e175 rfl rfl rfl rfl ?_
        exact h
      · replace h := h.1 (Decidable.not_not.mp (of_decide_eq_false c))
        refine w_st (i' := 73) (ls' := [.ref 0, .int x1, .ref 20, .int (x3 + nI 1), .int x4]) (st' := []) (E' := E6) (I' := I6) (J' := J6) (S' := S6) am_e175 rfl rfl rfl rfl ?_
        refine w_st (i' := 74) (ls' := [.ref 0, .int x1, .ref 20, .int (x3 + nI 1), .int (x4 + nI 1)]) (st' := []) (E' := E6) (I' := I6) (J' := J6) (S' := S6) am_e175 rfl rfl rfl rfl ?_
        refine w_st (i' := 17) (ls' := [.ref 0, .int x1, .ref 20, .int (x3 + nI 1), .int (x4 + nI 1)]) (st' := []) (E' := E6) (I' := I6) (J' := J6) (S' := S6) am_e175 rfl rfl rfl rfl ?_
        exact h
-- 177 outcomes
theorem g177_0 {p1 : Int32} {p2 : Int32} {E : am_Ev} {I : Nat → Nat → Int32} {J : Nat → Nat → Int64} {S : Nat → Nat → Option Nat} {Q : am_Qt}  (h : am_cl 178 [.ref 0, .int p1, .int p2] E I J S (fun r E1 I1 J1 S1 => match r with | .inl w => w = none ∧ (am_ww 177 6 [.ref 0, .int p1, .int p2, .int (nI 0), am_U, am_U, am_U] [] E1 I1 J1 S1 Q) | .inr e => Q (.inr e) E1 I1 J1 S1)) : am_ww 177 0 [.ref 0, .int p1, .int p2, am_U, am_U, am_U, am_U] [] E I J S Q := by
  refine w_st (i' := 1) (ls' := [.ref 0, .int p1, .int p2, am_U, am_U, am_U, am_U]) (st' := [.ref 0]) (E' := E) (I' := I) (J' := J) (S' := S) am_e177 rfl rfl rfl rfl ?_
  refine w_st (i' := 2) (ls' := [.ref 0, .int p1, .int p2, am_U, am_U, am_U, am_U]) (st' := [.int p1, .ref 0]) (E' := E) (I' := I) (J' := J) (S' := S) am_e177 rfl rfl rfl rfl ?_
  refine w_st (i' := 3) (ls' := [.ref 0, .int p1, .int p2, am_U, am_U, am_U, am_U]) (st' := [.int p2, .int p1, .ref 0]) (E' := E) (I' := I) (J' := J) (S' := S) am_e177 rfl rfl rfl rfl ?_
  refine w_cX am_e177 rfl rfl (as := [.ref 0, .int p1, .int p2]) (rest := []) rfl rfl rfl (am_ww.mono h ?_)
  intro r E1 I1 J1 S1 h
  cases r with
  | inr e => exact h
  | inl w =>
    obtain ⟨rfl, h⟩ := h
    refine w_st (i' := 5) (ls' := [.ref 0, .int p1, .int p2, am_U, am_U, am_U, am_U]) (st' := [.int (nI 0)]) (E' := E1) (I' := I1) (J' := J1) (S' := S1) am_e177 rfl rfl rfl rfl ?_
    refine w_st (i' := 6) (ls' := [.ref 0, .int p1, .int p2, .int (nI 0), am_U, am_U, am_U]) (st' := []) (E' := E1) (I' := I1) (J' := J1) (S' := S1) am_e177 rfl rfl rfl rfl ?_
    exact h
theorem g177_6 {x1 : Int32} {x2 : Int32} {x3 : Int32} {d4 : Value} {d5 : Value} {d6 : Value} {E : am_Ev} {I : Nat → Nat → Int32} {J : Nat → Nat → Int64} {S : Nat → Nat → Option Nat} {Q : am_Qt} (hd4 : am_isL d4 = false) (hd5 : am_isL d5 = false) (hd6 : am_isL d6 = false) (h : ((nI 7) ≤ x3 → (am_ww 177 39 [.ref 0, .int x1, .int x2, .int (nI 1), .int (-1), .int (nI 1), d6] [] E I J S Q)) ∧ (¬ (nI 7) ≤ x3 → (am_cl 179 [.ref 0, .int x1, .int x3, .int ((I 17) 0)] E I J S (q_I fun v1 E1 I1 J1 S1 => am_cpOk (nI 0) (x3 * (nI 16)) (nI 16) 16 112 ∧ (am_ww 177 6 [.ref 0, .int x1, .int x2, .int (x3 + nI 1), d4, d5, d6] [] E1 (u_I I1 84 (va_cpy (I1 78) (I1 84) 0 ((x3 * (nI 16)).toNatClampNeg) 16)) J1 S1 Q))))) : am_ww 177 6 [.ref 0, .int x1, .int x2, .int x3, d4, d5, d6] [] E I J S Q := by
  refine w_st (i' := 7) (ls' := [.ref 0, .int x1, .int x2, .int x3, d4, d5, d6]) (st' := [.int x3]) (E' := E) (I' := I) (J' := J) (S' := S) am_e177 rfl rfl rfl rfl ?_
  refine w_st (i' := 8) (ls' := [.ref 0, .int x1, .int x2, .int x3, d4, d5, d6]) (st' := [.int (nI 7), .int x3]) (E' := E) (I' := I) (J' := J) (S' := S) am_e177 rfl rfl rfl rfl ?_
  refine w_if2 am_e177 rfl rfl (fun c => ?_) (fun c => ?_)
  · replace h := h.1 (of_decide_eq_true c)
    refine w_st (i' := 34) (ls' := [.ref 0, .int x1, .int x2, .int x3, d4, d5, d6]) (st' := [.int (nI 1)]) (E' := E) (I' := I) (J' := J) (S' := S) am_e177 rfl rfl rfl rfl ?_
    refine w_st (i' := 35) (ls' := [.ref 0, .int x1, .int x2, .int (nI 1), d4, d5, d6]) (st' := []) (E' := E) (I' := I) (J' := J) (S' := S) am_e177 rfl rfl rfl rfl ?_
    refine w_st (i' := 36) (ls' := [.ref 0, .int x1, .int x2, .int (nI 1), d4, d5, d6]) (st' := [.int (-1)]) (E' := E) (I' := I) (J' := J) (S' := S) am_e177 rfl rfl rfl rfl ?_
    refine w_st (i' := 37) (ls' := [.ref 0, .int x1, .int x2, .int (nI 1), .int (-1), d5, d6]) (st' := []) (E' := E) (I' := I) (J' := J) (S' := S) am_e177 rfl rfl rfl rfl ?_
    refine w_st (i' := 38) (ls' := [.ref 0, .int x1, .int x2, .int (nI 1), .int (-1), d5, d6]) (st' := [.int (nI 1)]) (E' := E) (I' := I) (J' := J) (S' := S) am_e177 rfl rfl rfl rfl ?_
    refine w_st (i' := 39) (ls' := [.ref 0, .int x1, .int x2, .int (nI 1), .int (-1), .int (nI 1), d6]) (st' := []) (E' := E) (I' := I) (J' := J) (S' := S) am_e177 rfl rfl rfl rfl ?_
    exact h
  · replace h := h.2 (of_decide_eq_false c)
    refine w_st (i' := 10) (ls' := [.ref 0, .int x1, .int x2, .int x3, d4, d5, d6]) (st' := [.ref 0]) (E' := E) (I' := I) (J' := J) (S' := S) am_e177 rfl rfl rfl rfl ?_
    refine w_st (i' := 11) (ls' := [.ref 0, .int x1, .int x2, .int x3, d4, d5, d6]) (st' := [.int x1, .ref 0]) (E' := E) (I' := I) (J' := J) (S' := S) am_e177 rfl rfl rfl rfl ?_
    refine w_st (i' := 12) (ls' := [.ref 0, .int x1, .int x2, .int x3, d4, d5, d6]) (st' := [.int x3, .int x1, .ref 0]) (E' := E) (I' := I) (J' := J) (S' := S) am_e177 rfl rfl rfl rfl ?_
    refine w_st (i' := 13) (ls' := [.ref 0, .int x1, .int x2, .int x3, d4, d5, d6]) (st' := [.ref 0, .int x3, .int x1, .ref 0]) (E' := E) (I' := I) (J' := J) (S' := S) am_e177 rfl rfl rfl rfl ?_
    refine w_st (i' := 14) (ls' := [.ref 0, .int x1, .int x2, .int x3, d4, d5, d6]) (st' := [.ref 12, .int x3, .int x1, .ref 0]) (E' := E) (I' := I) (J' := J) (S' := S) am_e177 rfl rfl rfl rfl ?_
    refine w_st (i' := 15) (ls' := [.ref 0, .int x1, .int x2, .int x3, d4, d5, d6]) (st' := [.ref 17, .int x3, .int x1, .ref 0]) (E' := E) (I' := I) (J' := J) (S' := S) am_e177 rfl rfl rfl rfl ?_
    refine w_st (i' := 16) (ls' := [.ref 0, .int x1, .int x2, .int x3, d4, d5, d6]) (st' := [.int (nI 0), .ref 17, .int x3, .int x1, .ref 0]) (E' := E) (I' := I) (J' := J) (S' := S) am_e177 rfl rfl rfl rfl ?_
    refine w_ia (k := 17) (n := 4) (jn := 0) am_e177 rfl rfl (by decide) (vp_in_nI (by decide) (by decide)) rfl ?_
    show am_ww 177 17 [.ref 0, .int x1, .int x2, .int x3, d4, d5, d6] [.int ((I 17) 0), .int x3, .int x1, .ref 0] E I J S _
    refine w_cI am_e177 rfl rfl (as := [.ref 0, .int x1, .int x3, .int ((I 17) 0)]) (rest := []) rfl rfl (am_ww.mono h ?_)
    rintro _ E1 I1 J1 S1 ⟨v1, rfl, h⟩
    refine q_mkI ?_
    refine w_st (i' := 19) (ls' := [.ref 0, .int x1, .int x2, .int x3, d4, d5, d6]) (st' := []) (E' := E1) (I' := I1) (J' := J1) (S' := S1) am_e177 rfl rfl rfl rfl ?_
    refine w_st (i' := 20) (ls' := [.ref 0, .int x1, .int x2, .int x3, d4, d5, d6]) (st' := [.ref 0]) (E' := E1) (I' := I1) (J' := J1) (S' := S1) am_e177 rfl rfl rfl rfl ?_
    refine w_st (i' := 21) (ls' := [.ref 0, .int x1, .int x2, .int x3, d4, d5, d6]) (st' := [.ref 76]) (E' := E1) (I' := I1) (J' := J1) (S' := S1) am_e177 rfl rfl rfl rfl ?_
    refine w_st (i' := 22) (ls' := [.ref 0, .int x1, .int x2, .int x3, d4, d5, d6]) (st' := [.ref 77]) (E' := E1) (I' := I1) (J' := J1) (S' := S1) am_e177 rfl rfl rfl rfl ?_
    refine w_st (i' := 23) (ls' := [.ref 0, .int x1, .int x2, .int x3, d4, d5, d6]) (st' := [.ref 78]) (E' := E1) (I' := I1) (J' := J1) (S' := S1) am_e177 rfl rfl rfl rfl ?_
    refine w_st (i' := 24) (ls' := [.ref 0, .int x1, .int x2, .int x3, d4, d5, d6]) (st' := [.int (nI 0), .ref 78]) (E' := E1) (I' := I1) (J' := J1) (S' := S1) am_e177 rfl rfl rfl rfl ?_
    refine w_st (i' := 25) (ls' := [.ref 0, .int x1, .int x2, .int x3, d4, d5, d6]) (st' := [.ref 0, .int (nI 0), .ref 78]) (E' := E1) (I' := I1) (J' := J1) (S' := S1) am_e177 rfl rfl rfl rfl ?_
    refine w_st (i' := 26) (ls' := [.ref 0, .int x1, .int x2, .int x3, d4, d5, d6]) (st' := [.ref 84, .int (nI 0), .ref 78]) (E' := E1) (I' := I1) (J' := J1) (S' := S1) am_e177 rfl rfl rfl rfl ?_
    refine w_st (i' := 27) (ls' := [.ref 0, .int x1, .int x2, .int x3, d4, d5, d6]) (st' := [.int x3, .ref 84, .int (nI 0), .ref 78]) (E' := E1) (I' := I1) (J' := J1) (S' := S1) am_e177 rfl rfl rfl rfl ?_
    refine w_st (i' := 28) (ls' := [.ref 0, .int x1, .int x2, .int x3, d4, d5, d6]) (st' := [.int (nI 16), .int x3, .ref 84, .int (nI 0), .ref 78]) (E' := E1) (I' := I1) (J' := J1) (S' := S1) am_e177 rfl rfl rfl rfl ?_
    refine w_st (i' := 29) (ls' := [.ref 0, .int x1, .int x2, .int x3, d4, d5, d6]) (st' := [.int (x3 * (nI 16)), .ref 84, .int (nI 0), .ref 78]) (E' := E1) (I' := I1) (J' := J1) (S' := S1) am_e177 rfl rfl rfl rfl ?_
    refine w_st (i' := 30) (ls' := [.ref 0, .int x1, .int x2, .int x3, d4, d5, d6]) (st' := [.int (nI 16), .int (x3 * (nI 16)), .ref 84, .int (nI 0), .ref 78]) (E' := E1) (I' := I1) (J' := J1) (S' := S1) am_e177 rfl rfl rfl rfl ?_
    refine w_cp (k := 78) (a := 84) (nk := 16) (na := 112) am_e177 rfl (by decide) (by decide) rfl rfl (by decide) h.1 ?_
    replace h := h.2
    show am_ww 177 31 [.ref 0, .int x1, .int x2, .int x3, d4, d5, d6] [] E1 (u_I I1 84 (va_cpy (I1 78) (I1 84) 0 ((x3 * (nI 16)).toNatClampNeg) 16)) J1 S1 _
    refine w_st (i' := 32) (ls' := [.ref 0, .int x1, .int x2, .int (x3 + nI 1), d4, d5, d6]) (st' := []) (E' := E1) (I' := (u_I I1 84 (va_cpy (I1 78) (I1 84) 0 ((x3 * (nI 16)).toNatClampNeg) 16))) (J' := J1) (S' := S1) am_e177 rfl rfl rfl rfl ?_
    refine w_st (i' := 6) (ls' := [.ref 0, .int x1, .int x2, .int (x3 + nI 1), d4, d5, d6]) (st' := []) (E' := E1) (I' := (u_I I1 84 (va_cpy (I1 78) (I1 84) 0 ((x3 * (nI 16)).toNatClampNeg) 16))) (J' := J1) (S' := S1) am_e177 rfl rfl rfl rfl ?_
    exact h
theorem g177_39 {d1 : Value} {x2 : Int32} {x3 : Int32} {x4 : Int32} {x5 : Int32} {d6 : Value} {E : am_Ev} {I : Nat → Nat → Int32} {J : Nat → Nat → Int64} {S : Nat → Nat → Option Nat} {Q : am_Qt} (hd1 : am_isL d1 = false) (hd6 : am_isL d6 = false) (h : ((nI 7) ≤ x5 → (Q (.inl (some (.int (if x2 = 0 then x3 else x4)))) E I J S)) ∧ (¬ (nI 7) ≤ x5 → (am_cl 180 [.ref 0, .int x5] E I J S (q_I fun v2 E2 I2 J2 S2 => (v2 = x5 → (∀ w8 : Int32, w8 = (if v2 = 0 then x4 else (if x4 = (-1) then x5 else x4)) → (am_ww 177 39 [.ref 0, d1, .int x2, .int (x3 + nI 1), .int w8, .int (x5 + nI 1), .int v2] [] E2 I2 J2 S2 Q))) ∧ (¬ v2 = x5 → (∀ w5 : Int32, w5 = (if v2 = 0 then x4 else (if x4 = (-1) then x5 else x4)) → (am_ww 177 39 [.ref 0, d1, .int x2, .int x3, .int w5, .int (x5 + nI 1), .int v2] [] E2 I2 J2 S2 Q))))))) : am_ww 177 39 [.ref 0, d1, .int x2, .int x3, .int x4, .int x5, d6] [] E I J S Q := by
  refine w_st (i' := 40) (ls' := [.ref 0, d1, .int x2, .int x3, .int x4, .int x5, d6]) (st' := [.int x5]) (E' := E) (I' := I) (J' := J) (S' := S) am_e177 rfl rfl rfl rfl ?_
  refine w_st (i' := 41) (ls' := [.ref 0, d1, .int x2, .int x3, .int x4, .int x5, d6]) (st' := [.int (nI 7), .int x5]) (E' := E) (I' := I) (J' := J) (S' := S) am_e177 rfl rfl rfl rfl ?_
  refine w_if2 am_e177 rfl rfl (fun c => ?_) (fun c => ?_)
  · replace h := h.1 (of_decide_eq_true c)
    refine w_st (i' := 60) (ls' := [.ref 0, d1, .int x2, .int x3, .int x4, .int x5, d6]) (st' := [.int x2]) (E' := E) (I' := I) (J' := J) (S' := S) am_e177 rfl rfl rfl rfl ?_
    refine w_mg (i := 64) (ls' := [.ref 0, d1, .int x2, .int x3, .int x4, .int x5, d6]) (st' := [.int (if x2 = 0 then x3 else x4)]) (fun hm => ?_) ?_
    · clear h
      refine w_if1 am_e177 rfl rfl (fun c => ?_) (fun c => ?_)
      · have m1 : ¬ (x2 = 0) := (of_decide_eq_true c)
        refine w_st (i' := 64) (ls' := [.ref 0, d1, .int x2, .int x3, .int x4, .int x5, d6]) (st' := [.int x4]) (E' := E) (I' := I) (J' := J) (S' := S) am_e177 rfl rfl rfl rfl ?_
        first | exact hm | (simp only [if_neg m1] at hm; exact hm)
      · have m1 : x2 = 0 := (Decidable.not_not.mp (of_decide_eq_false c))
        refine w_st (i' := 62) (ls' := [.ref 0, d1, .int x2, .int x3, .int x4, .int x5, d6]) (st' := [.int x3]) (E' := E) (I' := I) (J' := J) (S' := S) am_e177 rfl rfl rfl rfl ?_
        refine w_st (i' := 64) (ls' := [.ref 0, d1, .int x2, .int x3, .int x4, .int x5, d6]) (st' := [.int x3]) (E' := E) (I' := I) (J' := J) (S' := S) am_e177 rfl rfl rfl rfl ?_
        first | exact hm | (simp only [if_pos m1] at hm; exact hm)
    exact w_ri am_e177 rfl rfl h
  · replace h := h.2 (of_decide_eq_false c)
    refine w_st (i' := 43) (ls' := [.ref 0, d1, .int x2, .int x3, .int x4, .int x5, d6]) (st' := [.ref 0]) (E' := E) (I' := I) (J' := J) (S' := S) am_e177 rfl rfl rfl rfl ?_
    refine w_st (i' := 44) (ls' := [.ref 0, d1, .int x2, .int x3, .int x4, .int x5, d6]) (st' := [.int x5, .ref 0]) (E' := E) (I' := I) (J' := J) (S' := S) am_e177 rfl rfl rfl rfl ?_
    refine w_cI am_e177 rfl rfl (as := [.ref 0, .int x5]) (rest := []) rfl rfl (am_ww.mono h ?_)
    rintro _ E2 I2 J2 S2 ⟨v2, rfl, h⟩
    refine q_mkI ?_
    refine w_st (i' := 46) (ls' := [.ref 0, d1, .int x2, .int x3, .int x4, .int x5, .int v2]) (st' := []) (E' := E2) (I' := I2) (J' := J2) (S' := S2) am_e177 rfl rfl rfl rfl ?_
    refine w_st (i' := 47) (ls' := [.ref 0, d1, .int x2, .int x3, .int x4, .int x5, .int v2]) (st' := [.int v2]) (E' := E2) (I' := I2) (J' := J2) (S' := S2) am_e177 rfl rfl rfl rfl ?_
    refine w_st (i' := 48) (ls' := [.ref 0, d1, .int x2, .int x3, .int x4, .int x5, .int v2]) (st' := [.int x5, .int v2]) (E' := E2) (I' := I2) (J' := J2) (S' := S2) am_e177 rfl rfl rfl rfl ?_
    refine w_if2 am_e177 rfl rfl (fun c => ?_) (fun c => ?_)
    · replace h := h.2 (of_decide_eq_true c)
      refine w_st (i' := 51) (ls' := [.ref 0, d1, .int x2, .int x3, .int x4, .int x5, .int v2]) (st' := [.int v2]) (E' := E2) (I' := I2) (J' := J2) (S' := S2) am_e177 rfl rfl rfl rfl ?_
      refine w_mg (i := 57) (ls' := [.ref 0, d1, .int x2, .int x3, .int (if v2 = 0 then x4 else (if x4 = (-1) then x5 else x4)), .int x5, .int v2]) (st' := []) (fun hm => ?_) ?_
      · clear h
        refine w_if1 am_e177 rfl rfl (fun c => ?_) (fun c => ?_)
        · have m3 : v2 = 0 := (of_decide_eq_true c)
          first | exact hm | (simp only [if_pos m3] at hm; exact hm)
        · have m3 : ¬ (v2 = 0) := (of_decide_eq_false c)
          refine w_st (i' := 53) (ls' := [.ref 0, d1, .int x2, .int x3, .int x4, .int x5, .int v2]) (st' := [.int x4]) (E' := E2) (I' := I2) (J' := J2) (S' := S2) am_e177 rfl rfl rfl rfl ?_
          refine w_st (i' := 54) (ls' := [.ref 0, d1, .int x2, .int x3, .int x4, .int x5, .int v2]) (st' := [.int (-1), .int x4]) (E' := E2) (I' := I2) (J' := J2) (S' := S2) am_e177 rfl rfl rfl rfl ?_
          refine w_if2 am_e177 rfl rfl (fun c => ?_) (fun c => ?_)
          · have m4 : ¬ (x4 = (-1)) := (of_decide_eq_true c)
            first | exact hm | (simp only [if_neg m3, if_neg m4] at hm; exact hm)
          · have m4 : x4 = (-1) := (Decidable.not_not.mp (of_decide_eq_false c))
            refine w_st (i' := 56) (ls' := [.ref 0, d1, .int x2, .int x3, .int x4, .int x5, .int v2]) (st' := [.int x5]) (E' := E2) (I' := I2) (J' := J2) (S' := S2) am_e177 rfl rfl rfl rfl ?_
            refine w_st (i' := 57) (ls' := [.ref 0, d1, .int x2, .int x3, .int x5, .int x5, .int v2]) (st' := []) (E' := E2) (I' := I2) (J' := J2) (S' := S2) am_e177 rfl rfl rfl rfl ?_
            first | exact hm | (simp only [if_neg m3, if_pos m4] at hm; exact hm)
      refine w_var (fun w5 => am_ww 177 57 [.ref 0, d1, .int x2, .int x3, .int w5, .int x5, .int v2] [] E2 I2 J2 S2 _) (if v2 = 0 then x4 else (if x4 = (-1) then x5 else x4)) (fun w5 hw5 => ?_)
      replace h := h w5 hw5
      refine w_st (i' := 58) (ls' := [.ref 0, d1, .int x2, .int x3, .int w5, .int (x5 + nI 1), .int v2]) (st' := []) (E' := E2) (I' := I2) (J' := J2) (S' := S2) am_e177 rfl rfl rfl rfl ?_
      refine w_st (i' := 39) (ls' := [.ref 0, d1, .int x2, .int x3, .int w5, .int (x5 + nI 1), .int v2]) (st' := []) (E' := E2) (I' := I2) (J' := J2) (S' := S2) am_e177 rfl rfl rfl rfl ?_
      exact h
    · replace h := h.1 (Decidable.not_not.mp (of_decide_eq_false c))
      refine w_st (i' := 50) (ls' := [.ref 0, d1, .int x2, .int (x3 + nI 1), .int x4, .int x5, .int v2]) (st' := []) (E' := E2) (I' := I2) (J' := J2) (S' := S2) am_e177 rfl rfl rfl rfl ?_
      refine w_st (i' := 51) (ls' := [.ref 0, d1, .int x2, .int (x3 + nI 1), .int x4, .int x5, .int v2]) (st' := [.int v2]) (E' := E2) (I' := I2) (J' := J2) (S' := S2) am_e177 rfl rfl rfl rfl ?_
      refine w_mg (i := 57) (ls' := [.ref 0, d1, .int x2, .int (x3 + nI 1), .int (if v2 = 0 then x4 else (if x4 = (-1) then x5 else x4)), .int x5, .int v2]) (st' := []) (fun hm => ?_) ?_
      · clear h
        refine w_if1 am_e177 rfl rfl (fun c => ?_) (fun c => ?_)
        · have m6 : v2 = 0 := (of_decide_eq_true c)
          first | exact hm | (simp only [if_pos m6] at hm; exact hm)
        · have m6 : ¬ (v2 = 0) := (of_decide_eq_false c)
          refine w_st (i' := 53) (ls' := [.ref 0, d1, .int x2, .int (x3 + nI 1), .int x4, .int x5, .int v2]) (st' := [.int x4]) (E' := E2) (I' := I2) (J' := J2) (S' := S2) am_e177 rfl rfl rfl rfl ?_
          refine w_st (i' := 54) (ls' := [.ref 0, d1, .int x2, .int (x3 + nI 1), .int x4, .int x5, .int v2]) (st' := [.int (-1), .int x4]) (E' := E2) (I' := I2) (J' := J2) (S' := S2) am_e177 rfl rfl rfl rfl ?_
          refine w_if2 am_e177 rfl rfl (fun c => ?_) (fun c => ?_)
          · have m7 : ¬ (x4 = (-1)) := (of_decide_eq_true c)
            first | exact hm | (simp only [if_neg m6, if_neg m7] at hm; exact hm)
          · have m7 : x4 = (-1) := (Decidable.not_not.mp (of_decide_eq_false c))
            refine w_st (i' := 56) (ls' := [.ref 0, d1, .int x2, .int (x3 + nI 1), .int x4, .int x5, .int v2]) (st' := [.int x5]) (E' := E2) (I' := I2) (J' := J2) (S' := S2) am_e177 rfl rfl rfl rfl ?_
            refine w_st (i' := 57) (ls' := [.ref 0, d1, .int x2, .int (x3 + nI 1), .int x5, .int x5, .int v2]) (st' := []) (E' := E2) (I' := I2) (J' := J2) (S' := S2) am_e177 rfl rfl rfl rfl ?_
            first | exact hm | (simp only [if_neg m6, if_pos m7] at hm; exact hm)
      refine w_var (fun w8 => am_ww 177 57 [.ref 0, d1, .int x2, .int (x3 + nI 1), .int w8, .int x5, .int v2] [] E2 I2 J2 S2 _) (if v2 = 0 then x4 else (if x4 = (-1) then x5 else x4)) (fun w8 hw8 => ?_)
      replace h := h w8 hw8
      refine w_st (i' := 58) (ls' := [.ref 0, d1, .int x2, .int (x3 + nI 1), .int w8, .int (x5 + nI 1), .int v2]) (st' := []) (E' := E2) (I' := I2) (J' := J2) (S' := S2) am_e177 rfl rfl rfl rfl ?_
      refine w_st (i' := 39) (ls' := [.ref 0, d1, .int x2, .int (x3 + nI 1), .int w8, .int (x5 + nI 1), .int v2]) (st' := []) (E' := E2) (I' := I2) (J' := J2) (S' := S2) am_e177 rfl rfl rfl rfl ?_
      exact h
-- 182 toSpare
theorem g182_0 {p1 : Int32} {p2 : Int32} {E : am_Ev} {I : Nat → Nat → Int32} {J : Nat → Nat → Int64} {S : Nat → Nat → Option Nat} {Q : am_Qt}  (h : am_cl 178 [.ref 0, .int p1, .int p2] E I J S (fun r E1 I1 J1 S1 => match r with | .inl w => w = none ∧ (am_cl 179 [.ref 0, .int p1, .int ((I1 17) 1), .int (nI 1)] E1 I1 J1 S1 (q_I fun v2 E2 I2 J2 S2 => am_ww 182 18 [.ref 0, .int p1, .int p2, .int (nI 1), .int v2, .int (nI 2), am_U] [] E2 I2 J2 S2 Q)) | .inr e => Q (.inr e) E1 I1 J1 S1)) : am_ww 182 0 [.ref 0, .int p1, .int p2, am_U, am_U, am_U, am_U] [] E I J S Q := by
  refine w_st (i' := 1) (ls' := [.ref 0, .int p1, .int p2, am_U, am_U, am_U, am_U]) (st' := [.ref 0]) (E' := E) (I' := I) (J' := J) (S' := S) am_e182 rfl rfl rfl rfl ?_
  refine w_st (i' := 2) (ls' := [.ref 0, .int p1, .int p2, am_U, am_U, am_U, am_U]) (st' := [.int p1, .ref 0]) (E' := E) (I' := I) (J' := J) (S' := S) am_e182 rfl rfl rfl rfl ?_
  refine w_st (i' := 3) (ls' := [.ref 0, .int p1, .int p2, am_U, am_U, am_U, am_U]) (st' := [.int p2, .int p1, .ref 0]) (E' := E) (I' := I) (J' := J) (S' := S) am_e182 rfl rfl rfl rfl ?_
  refine w_cX am_e182 rfl rfl (as := [.ref 0, .int p1, .int p2]) (rest := []) rfl rfl rfl (am_ww.mono h ?_)
  intro r E1 I1 J1 S1 h
  cases r with
  | inr e => exact h
  | inl w =>
    obtain ⟨rfl, h⟩ := h
    refine w_st (i' := 5) (ls' := [.ref 0, .int p1, .int p2, am_U, am_U, am_U, am_U]) (st' := [.int (nI 1)]) (E' := E1) (I' := I1) (J' := J1) (S' := S1) am_e182 rfl rfl rfl rfl ?_
    refine w_st (i' := 6) (ls' := [.ref 0, .int p1, .int p2, .int (nI 1), am_U, am_U, am_U]) (st' := []) (E' := E1) (I' := I1) (J' := J1) (S' := S1) am_e182 rfl rfl rfl rfl ?_
    refine w_st (i' := 7) (ls' := [.ref 0, .int p1, .int p2, .int (nI 1), am_U, am_U, am_U]) (st' := [.ref 0]) (E' := E1) (I' := I1) (J' := J1) (S' := S1) am_e182 rfl rfl rfl rfl ?_
    refine w_st (i' := 8) (ls' := [.ref 0, .int p1, .int p2, .int (nI 1), am_U, am_U, am_U]) (st' := [.int p1, .ref 0]) (E' := E1) (I' := I1) (J' := J1) (S' := S1) am_e182 rfl rfl rfl rfl ?_
    refine w_st (i' := 9) (ls' := [.ref 0, .int p1, .int p2, .int (nI 1), am_U, am_U, am_U]) (st' := [.ref 0, .int p1, .ref 0]) (E' := E1) (I' := I1) (J' := J1) (S' := S1) am_e182 rfl rfl rfl rfl ?_
    refine w_st (i' := 10) (ls' := [.ref 0, .int p1, .int p2, .int (nI 1), am_U, am_U, am_U]) (st' := [.ref 12, .int p1, .ref 0]) (E' := E1) (I' := I1) (J' := J1) (S' := S1) am_e182 rfl rfl rfl rfl ?_
    refine w_st (i' := 11) (ls' := [.ref 0, .int p1, .int p2, .int (nI 1), am_U, am_U, am_U]) (st' := [.ref 17, .int p1, .ref 0]) (E' := E1) (I' := I1) (J' := J1) (S' := S1) am_e182 rfl rfl rfl rfl ?_
    refine w_st (i' := 12) (ls' := [.ref 0, .int p1, .int p2, .int (nI 1), am_U, am_U, am_U]) (st' := [.int (nI 1), .ref 17, .int p1, .ref 0]) (E' := E1) (I' := I1) (J' := J1) (S' := S1) am_e182 rfl rfl rfl rfl ?_
    refine w_ia (k := 17) (n := 4) (jn := 1) am_e182 rfl rfl (by decide) (vp_in_nI (by decide) (by decide)) rfl ?_
    show am_ww 182 13 [.ref 0, .int p1, .int p2, .int (nI 1), am_U, am_U, am_U] [.int ((I1 17) 1), .int p1, .ref 0] E1 I1 J1 S1 _
    refine w_st (i' := 14) (ls' := [.ref 0, .int p1, .int p2, .int (nI 1), am_U, am_U, am_U]) (st' := [.int (nI 1), .int ((I1 17) 1), .int p1, .ref 0]) (E' := E1) (I' := I1) (J' := J1) (S' := S1) am_e182 rfl rfl rfl rfl ?_
    refine w_cI am_e182 rfl rfl (as := [.ref 0, .int p1, .int ((I1 17) 1), .int (nI 1)]) (rest := []) rfl rfl (am_ww.mono h ?_)
    rintro _ E2 I2 J2 S2 ⟨v2, rfl, h⟩
    refine q_mkI ?_
    refine w_st (i' := 16) (ls' := [.ref 0, .int p1, .int p2, .int (nI 1), .int v2, am_U, am_U]) (st' := []) (E' := E2) (I' := I2) (J' := J2) (S' := S2) am_e182 rfl rfl rfl rfl ?_
    refine w_st (i' := 17) (ls' := [.ref 0, .int p1, .int p2, .int (nI 1), .int v2, am_U, am_U]) (st' := [.int (nI 2)]) (E' := E2) (I' := I2) (J' := J2) (S' := S2) am_e182 rfl rfl rfl rfl ?_
    refine w_st (i' := 18) (ls' := [.ref 0, .int p1, .int p2, .int (nI 1), .int v2, .int (nI 2), am_U]) (st' := []) (E' := E2) (I' := I2) (J' := J2) (S' := S2) am_e182 rfl rfl rfl rfl ?_
    exact h
theorem g182_18 {x1 : Int32} {x2 : Int32} {x3 : Int32} {x4 : Int32} {x5 : Int32} {d6 : Value} {E : am_Ev} {I : Nat → Nat → Int32} {J : Nat → Nat → Int64} {S : Nat → Nat → Option Nat} {Q : am_Qt} (hd6 : am_isL d6 = false) (h : ((nI 9) < x5 → (Q (.inl (some (.int (if x2 = 0 then x3 else x4)))) E I J S)) ∧ (¬ (nI 9) < x5 → (am_cl 179 [.ref 0, .int x1, .int ((I 17) 1), .int x5] E I J S (q_I fun v2 E2 I2 J2 S2 => am_ww 182 18 [.ref 0, .int x1, .int x2, .int (if x4 ≤ v2 then x3 else x5), .int (if x4 ≤ v2 then x4 else v2), .int (x5 + nI 1), .int v2] [] E2 I2 J2 S2 Q)))) : am_ww 182 18 [.ref 0, .int x1, .int x2, .int x3, .int x4, .int x5, d6] [] E I J S Q := by
  refine w_st (i' := 19) (ls' := [.ref 0, .int x1, .int x2, .int x3, .int x4, .int x5, d6]) (st' := [.int x5]) (E' := E) (I' := I) (J' := J) (S' := S) am_e182 rfl rfl rfl rfl ?_
  refine w_st (i' := 20) (ls' := [.ref 0, .int x1, .int x2, .int x3, .int x4, .int x5, d6]) (st' := [.int (nI 9), .int x5]) (E' := E) (I' := I) (J' := J) (S' := S) am_e182 rfl rfl rfl rfl ?_
  refine w_if2 am_e182 rfl rfl (fun c => ?_) (fun c => ?_)
  · replace h := h.1 (of_decide_eq_true c)
    refine w_st (i' := 41) (ls' := [.ref 0, .int x1, .int x2, .int x3, .int x4, .int x5, d6]) (st' := [.int x2]) (E' := E) (I' := I) (J' := J) (S' := S) am_e182 rfl rfl rfl rfl ?_
    refine w_mg (i := 45) (ls' := [.ref 0, .int x1, .int x2, .int x3, .int x4, .int x5, d6]) (st' := [.int (if x2 = 0 then x3 else x4)]) (fun hm => ?_) ?_
    · clear h
      refine w_if1 am_e182 rfl rfl (fun c => ?_) (fun c => ?_)
      · have m1 : ¬ (x2 = 0) := (of_decide_eq_true c)
        refine w_st (i' := 45) (ls' := [.ref 0, .int x1, .int x2, .int x3, .int x4, .int x5, d6]) (st' := [.int x4]) (E' := E) (I' := I) (J' := J) (S' := S) am_e182 rfl rfl rfl rfl ?_
        first | exact hm | (simp only [if_neg m1] at hm; exact hm)
      · have m1 : x2 = 0 := (Decidable.not_not.mp (of_decide_eq_false c))
        refine w_st (i' := 43) (ls' := [.ref 0, .int x1, .int x2, .int x3, .int x4, .int x5, d6]) (st' := [.int x3]) (E' := E) (I' := I) (J' := J) (S' := S) am_e182 rfl rfl rfl rfl ?_
        refine w_st (i' := 45) (ls' := [.ref 0, .int x1, .int x2, .int x3, .int x4, .int x5, d6]) (st' := [.int x3]) (E' := E) (I' := I) (J' := J) (S' := S) am_e182 rfl rfl rfl rfl ?_
        first | exact hm | (simp only [if_pos m1] at hm; exact hm)
    exact w_ri am_e182 rfl rfl h
  · replace h := h.2 (of_decide_eq_false c)
    refine w_st (i' := 22) (ls' := [.ref 0, .int x1, .int x2, .int x3, .int x4, .int x5, d6]) (st' := [.ref 0]) (E' := E) (I' := I) (J' := J) (S' := S) am_e182 rfl rfl rfl rfl ?_
    refine w_st (i' := 23) (ls' := [.ref 0, .int x1, .int x2, .int x3, .int x4, .int x5, d6]) (st' := [.int x1, .ref 0]) (E' := E) (I' := I) (J' := J) (S' := S) am_e182 rfl rfl rfl rfl ?_
    refine w_st (i' := 24) (ls' := [.ref 0, .int x1, .int x2, .int x3, .int x4, .int x5, d6]) (st' := [.ref 0, .int x1, .ref 0]) (E' := E) (I' := I) (J' := J) (S' := S) am_e182 rfl rfl rfl rfl ?_
    refine w_st (i' := 25) (ls' := [.ref 0, .int x1, .int x2, .int x3, .int x4, .int x5, d6]) (st' := [.ref 12, .int x1, .ref 0]) (E' := E) (I' := I) (J' := J) (S' := S) am_e182 rfl rfl rfl rfl ?_
    refine w_st (i' := 26) (ls' := [.ref 0, .int x1, .int x2, .int x3, .int x4, .int x5, d6]) (st' := [.ref 17, .int x1, .ref 0]) (E' := E) (I' := I) (J' := J) (S' := S) am_e182 rfl rfl rfl rfl ?_
    refine w_st (i' := 27) (ls' := [.ref 0, .int x1, .int x2, .int x3, .int x4, .int x5, d6]) (st' := [.int (nI 1), .ref 17, .int x1, .ref 0]) (E' := E) (I' := I) (J' := J) (S' := S) am_e182 rfl rfl rfl rfl ?_
    refine w_ia (k := 17) (n := 4) (jn := 1) am_e182 rfl rfl (by decide) (vp_in_nI (by decide) (by decide)) rfl ?_
    show am_ww 182 28 [.ref 0, .int x1, .int x2, .int x3, .int x4, .int x5, d6] [.int ((I 17) 1), .int x1, .ref 0] E I J S _
    refine w_st (i' := 29) (ls' := [.ref 0, .int x1, .int x2, .int x3, .int x4, .int x5, d6]) (st' := [.int x5, .int ((I 17) 1), .int x1, .ref 0]) (E' := E) (I' := I) (J' := J) (S' := S) am_e182 rfl rfl rfl rfl ?_
    refine w_cI am_e182 rfl rfl (as := [.ref 0, .int x1, .int ((I 17) 1), .int x5]) (rest := []) rfl rfl (am_ww.mono h ?_)
    rintro _ E2 I2 J2 S2 ⟨v2, rfl, h⟩
    refine q_mkI ?_
    refine w_st (i' := 31) (ls' := [.ref 0, .int x1, .int x2, .int x3, .int x4, .int x5, .int v2]) (st' := []) (E' := E2) (I' := I2) (J' := J2) (S' := S2) am_e182 rfl rfl rfl rfl ?_
    refine w_st (i' := 32) (ls' := [.ref 0, .int x1, .int x2, .int x3, .int x4, .int x5, .int v2]) (st' := [.int v2]) (E' := E2) (I' := I2) (J' := J2) (S' := S2) am_e182 rfl rfl rfl rfl ?_
    refine w_st (i' := 33) (ls' := [.ref 0, .int x1, .int x2, .int x3, .int x4, .int x5, .int v2]) (st' := [.int x4, .int v2]) (E' := E2) (I' := I2) (J' := J2) (S' := S2) am_e182 rfl rfl rfl rfl ?_
    refine w_mg (i := 38) (ls' := [.ref 0, .int x1, .int x2, .int (if x4 ≤ v2 then x3 else x5), .int (if x4 ≤ v2 then x4 else v2), .int x5, .int v2]) (st' := []) (fun hm => ?_) ?_
    · clear h
      refine w_if2 am_e182 rfl rfl (fun c => ?_) (fun c => ?_)
      · have m3 : x4 ≤ v2 := (of_decide_eq_true c)
        first | exact hm | (simp only [if_pos m3] at hm; exact hm)
      · have m3 : ¬ (x4 ≤ v2) := (of_decide_eq_false c)
        refine w_st (i' := 35) (ls' := [.ref 0, .int x1, .int x2, .int x3, .int x4, .int x5, .int v2]) (st' := [.int v2]) (E' := E2) (I' := I2) (J' := J2) (S' := S2) am_e182 rfl rfl rfl rfl ?_
        refine w_st (i' := 36) (ls' := [.ref 0, .int x1, .int x2, .int x3, .int v2, .int x5, .int v2]) (st' := []) (E' := E2) (I' := I2) (J' := J2) (S' := S2) am_e182 rfl rfl rfl rfl ?_
        refine w_st (i' := 37) (ls' := [.ref 0, .int x1, .int x2, .int x3, .int v2, .int x5, .int v2]) (st' := [.int x5]) (E' := E2) (I' := I2) (J' := J2) (S' := S2) am_e182 rfl rfl rfl rfl ?_
        refine w_st (i' := 38) (ls' := [.ref 0, .int x1, .int x2, .int x5, .int v2, .int x5, .int v2]) (st' := []) (E' := E2) (I' := I2) (J' := J2) (S' := S2) am_e182 rfl rfl rfl rfl ?_
        first | exact hm | (simp only [if_neg m3] at hm; exact hm)
    refine w_st (i' := 39) (ls' := [.ref 0, .int x1, .int x2, .int (if x4 ≤ v2 then x3 else x5), .int (if x4 ≤ v2 then x4 else v2), .int (x5 + nI 1), .int v2]) (st' := []) (E' := E2) (I' := I2) (J' := J2) (S' := S2) am_e182 rfl rfl rfl rfl ?_
    refine w_st (i' := 18) (ls' := [.ref 0, .int x1, .int x2, .int (if x4 ≤ v2 then x3 else x5), .int (if x4 ≤ v2 then x4 else v2), .int (x5 + nI 1), .int v2]) (st' := []) (E' := E2) (I' := I2) (J' := J2) (S' := S2) am_e182 rfl rfl rfl rfl ?_
    exact h
-- 124 checkCell
theorem g124_0 {p1 : Int32} {E : am_Ev} {I : Nat → Nat → Int32} {J : Nat → Nat → Int64} {S : Nat → Nat → Option Nat} {Q : am_Qt}  (h : (p1 < 0 → (Q (.inr 0) (E.1 + 1, E.2.1 + 6, E.2.2) I J S)) ∧ (¬ p1 < 0 → ((p1 < (nI 16) → (Q (.inl none) E I J S)) ∧ (¬ p1 < (nI 16) → (Q (.inr 0) (E.1 + 1, E.2.1 + 6, E.2.2) I J S))))) : am_ww 124 0 [.ref 0, .int p1] [] E I J S Q := by
  refine w_st (i' := 1) (ls' := [.ref 0, .int p1]) (st' := [.int p1]) (E' := E) (I' := I) (J' := J) (S' := S) am_e124 rfl rfl rfl rfl ?_
  refine w_if1 am_e124 rfl rfl (fun c => ?_) (fun c => ?_)
  · replace h := h.1 (of_decide_eq_true c)
    exact w_end (r := .inr 0) (E' := (E.1 + 1, E.2.1 + 6, E.2.2)) am_e124 rfl rfl rfl h
  · replace h := h.2 (of_decide_eq_false c)
    refine w_st (i' := 3) (ls' := [.ref 0, .int p1]) (st' := [.int p1]) (E' := E) (I' := I) (J' := J) (S' := S) am_e124 rfl rfl rfl rfl ?_
    refine w_st (i' := 4) (ls' := [.ref 0, .int p1]) (st' := [.int (nI 16), .int p1]) (E' := E) (I' := I) (J' := J) (S' := S) am_e124 rfl rfl rfl rfl ?_
    refine w_if2 am_e124 rfl rfl (fun c => ?_) (fun c => ?_)
    · replace h := h.1 (of_decide_eq_true c)
      exact w_end am_e124 rfl rfl rfl h
    · replace h := h.2 (of_decide_eq_false c)
      exact w_end (r := .inr 0) (E' := (E.1 + 1, E.2.1 + 6, E.2.2)) am_e124 rfl rfl rfl h
-- 132 checkInstruction
theorem g132_0 {p1 : Int32} {p2 : Int32} {E : am_Ev} {I : Nat → Nat → Int32} {J : Nat → Nat → Int64} {S : Nat → Nat → Option Nat} {Q : am_Qt}  (h : (p1 < 0 → (Q (.inr 0) (E.1 + 1, E.2.1 + 6, E.2.2) I J S)) ∧ (¬ p1 < 0 → ((((I 12) 5) ≤ p1 → (Q (.inr 0) (E.1 + 1, E.2.1 + 6, E.2.2) I J S)) ∧ (¬ ((I 12) 5) ≤ p1 → ((p2 < 0 → (Q (.inr 0) (E.1 + 1, E.2.1 + 6, E.2.2) I J S)) ∧ (¬ p2 < 0 → (vp_in p1 4 ∧ ((p2 < ((I 15) p1.toNatClampNeg) → (Q (.inl none) E I J S)) ∧ (¬ p2 < ((I 15) p1.toNatClampNeg) → (Q (.inr 0) (E.1 + 1, E.2.1 + 6, E.2.2) I J S)))))))))) : am_ww 132 0 [.ref 0, .int p1, .int p2] [] E I J S Q := by
  refine w_st (i' := 1) (ls' := [.ref 0, .int p1, .int p2]) (st' := [.ref 0]) (E' := E) (I' := I) (J' := J) (S' := S) am_e132 rfl rfl rfl rfl ?_
  refine w_st (i' := 2) (ls' := [.ref 0, .int p1, .int p2]) (st' := [.int p1, .ref 0]) (E' := E) (I' := I) (J' := J) (S' := S) am_e132 rfl rfl rfl rfl ?_
  refine w_cI am_e132 rfl rfl (as := [.ref 0, .int p1]) (rest := []) rfl rfl ?_
  show am_ww 127 0 [.ref 0, .int p1] [] E I J S _
  refine w_st (i' := 1) (ls' := [.ref 0, .int p1]) (st' := [.int p1]) (E' := E) (I' := I) (J' := J) (S' := S) am_e127 rfl rfl rfl rfl ?_
  refine w_if1 am_e127 rfl rfl (fun c => ?_) (fun c => ?_)
  · replace h := h.1 (of_decide_eq_true c)
    refine w_st (i' := 10) (ls' := [.ref 0, .int p1]) (st' := [.int (nI 0)]) (E' := E) (I' := I) (J' := J) (S' := S) am_e127 rfl rfl rfl rfl ?_
    refine w_end (E' := E) (I' := I) (J' := J) (S' := S) am_e127 rfl rfl rfl (q_mkI ?_)
    show am_ww 132 3 [.ref 0, .int p1, .int p2] [.int (nI 0)] E I J S _
    refine w_st (i' := 13) (ls' := [.ref 0, .int p1, .int p2]) (st' := []) (E' := E) (I' := I) (J' := J) (S' := S) am_e132 rfl rfl rfl rfl ?_
    exact w_end (r := .inr 0) (E' := (E.1 + 1, E.2.1 + 6, E.2.2)) am_e132 rfl rfl rfl h
  · replace h := h.2 (of_decide_eq_false c)
    refine w_st (i' := 3) (ls' := [.ref 0, .int p1]) (st' := [.int p1]) (E' := E) (I' := I) (J' := J) (S' := S) am_e127 rfl rfl rfl rfl ?_
    refine w_st (i' := 4) (ls' := [.ref 0, .int p1]) (st' := [.ref 0, .int p1]) (E' := E) (I' := I) (J' := J) (S' := S) am_e127 rfl rfl rfl rfl ?_
    refine w_st (i' := 5) (ls' := [.ref 0, .int p1]) (st' := [.ref 12, .int p1]) (E' := E) (I' := I) (J' := J) (S' := S) am_e127 rfl rfl rfl rfl ?_
    refine w_st (i' := 6) (ls' := [.ref 0, .int p1]) (st' := [.int ((I 12) 5), .int p1]) (E' := E) (I' := I) (J' := J) (S' := S) am_e127 rfl rfl rfl rfl ?_
    refine w_if2 am_e127 rfl rfl (fun c => ?_) (fun c => ?_)
    · replace h := h.1 (of_decide_eq_true c)
      refine w_st (i' := 10) (ls' := [.ref 0, .int p1]) (st' := [.int (nI 0)]) (E' := E) (I' := I) (J' := J) (S' := S) am_e127 rfl rfl rfl rfl ?_
      refine w_end (E' := E) (I' := I) (J' := J) (S' := S) am_e127 rfl rfl rfl (q_mkI ?_)
      show am_ww 132 3 [.ref 0, .int p1, .int p2] [.int (nI 0)] E I J S _
      refine w_st (i' := 13) (ls' := [.ref 0, .int p1, .int p2]) (st' := []) (E' := E) (I' := I) (J' := J) (S' := S) am_e132 rfl rfl rfl rfl ?_
      exact w_end (r := .inr 0) (E' := (E.1 + 1, E.2.1 + 6, E.2.2)) am_e132 rfl rfl rfl h
    · replace h := h.2 (of_decide_eq_false c)
      refine w_st (i' := 8) (ls' := [.ref 0, .int p1]) (st' := [.int (nI 1)]) (E' := E) (I' := I) (J' := J) (S' := S) am_e127 rfl rfl rfl rfl ?_
      refine w_st (i' := 10) (ls' := [.ref 0, .int p1]) (st' := [.int (nI 1)]) (E' := E) (I' := I) (J' := J) (S' := S) am_e127 rfl rfl rfl rfl ?_
      refine w_end (E' := E) (I' := I) (J' := J) (S' := S) am_e127 rfl rfl rfl (q_mkI ?_)
      show am_ww 132 3 [.ref 0, .int p1, .int p2] [.int (nI 1)] E I J S _
      refine w_st (i' := 4) (ls' := [.ref 0, .int p1, .int p2]) (st' := []) (E' := E) (I' := I) (J' := J) (S' := S) am_e132 rfl rfl rfl rfl ?_
      refine w_st (i' := 5) (ls' := [.ref 0, .int p1, .int p2]) (st' := [.int p2]) (E' := E) (I' := I) (J' := J) (S' := S) am_e132 rfl rfl rfl rfl ?_
      refine w_if1 am_e132 rfl rfl (fun c => ?_) (fun c => ?_)
      · replace h := h.1 (of_decide_eq_true c)
        exact w_end (r := .inr 0) (E' := (E.1 + 1, E.2.1 + 6, E.2.2)) am_e132 rfl rfl rfl h
      · replace h := h.2 (of_decide_eq_false c)
        refine w_st (i' := 7) (ls' := [.ref 0, .int p1, .int p2]) (st' := [.int p2]) (E' := E) (I' := I) (J' := J) (S' := S) am_e132 rfl rfl rfl rfl ?_
        refine w_st (i' := 8) (ls' := [.ref 0, .int p1, .int p2]) (st' := [.ref 0, .int p2]) (E' := E) (I' := I) (J' := J) (S' := S) am_e132 rfl rfl rfl rfl ?_
        refine w_st (i' := 9) (ls' := [.ref 0, .int p1, .int p2]) (st' := [.ref 12, .int p2]) (E' := E) (I' := I) (J' := J) (S' := S) am_e132 rfl rfl rfl rfl ?_
        refine w_st (i' := 10) (ls' := [.ref 0, .int p1, .int p2]) (st' := [.ref 15, .int p2]) (E' := E) (I' := I) (J' := J) (S' := S) am_e132 rfl rfl rfl rfl ?_
        refine w_st (i' := 11) (ls' := [.ref 0, .int p1, .int p2]) (st' := [.int p1, .ref 15, .int p2]) (E' := E) (I' := I) (J' := J) (S' := S) am_e132 rfl rfl rfl rfl ?_
        have hf1 := h.1
        replace h := h.2
        refine w_ia (k := 15) (n := 4) (jn := p1.toNatClampNeg) am_e132 rfl rfl (by decide) hf1 rfl ?_
        refine w_if2 am_e132 rfl rfl (fun c => ?_) (fun c => ?_)
        · replace h := h.1 (of_decide_eq_true c)
          exact w_end am_e132 rfl rfl rfl h
        · replace h := h.2 (of_decide_eq_false c)
          exact w_end (r := .inr 0) (E' := (E.1 + 1, E.2.1 + 6, E.2.2)) am_e132 rfl rfl rfl h
-- 178 checkTrial
theorem g178_0 {p1 : Int32} {p2 : Int32} {E : am_Ev} {I : Nat → Nat → Int32} {J : Nat → Nat → Int64} {S : Nat → Nat → Option Nat} {Q : am_Qt}  (h : (p2 < 0 → (Q (.inr 0) (E.1 + 1, E.2.1 + 6, E.2.2) I J S)) ∧ (¬ p2 < 0 → ((p2 ≤ (nI 1) → ((p1 < 0 → (Q (.inr 1) (E.1 + 1, E.2.1 + 6, E.2.2) I J S)) ∧ (¬ p1 < 0 → ((p1 ≤ (nI 400) → (Q (.inl none) E I J S)) ∧ (¬ p1 ≤ (nI 400) → (Q (.inr 1) (E.1 + 1, E.2.1 + 6, E.2.2) I J S)))))) ∧ (¬ p2 ≤ (nI 1) → (Q (.inr 0) (E.1 + 1, E.2.1 + 6, E.2.2) I J S))))) : am_ww 178 0 [.ref 0, .int p1, .int p2] [] E I J S Q := by
  refine w_st (i' := 1) (ls' := [.ref 0, .int p1, .int p2]) (st' := [.int p2]) (E' := E) (I' := I) (J' := J) (S' := S) am_e178 rfl rfl rfl rfl ?_
  refine w_if1 am_e178 rfl rfl (fun c => ?_) (fun c => ?_)
  · replace h := h.1 (of_decide_eq_true c)
    exact w_end (r := .inr 0) (E' := (E.1 + 1, E.2.1 + 6, E.2.2)) am_e178 rfl rfl rfl h
  · replace h := h.2 (of_decide_eq_false c)
    refine w_st (i' := 3) (ls' := [.ref 0, .int p1, .int p2]) (st' := [.int p2]) (E' := E) (I' := I) (J' := J) (S' := S) am_e178 rfl rfl rfl rfl ?_
    refine w_st (i' := 4) (ls' := [.ref 0, .int p1, .int p2]) (st' := [.int (nI 1), .int p2]) (E' := E) (I' := I) (J' := J) (S' := S) am_e178 rfl rfl rfl rfl ?_
    refine w_if2 am_e178 rfl rfl (fun c => ?_) (fun c => ?_)
    · replace h := h.1 (of_decide_eq_true c)
      refine w_st (i' := 11) (ls' := [.ref 0, .int p1, .int p2]) (st' := [.int p1]) (E' := E) (I' := I) (J' := J) (S' := S) am_e178 rfl rfl rfl rfl ?_
      refine w_if1 am_e178 rfl rfl (fun c => ?_) (fun c => ?_)
      · replace h := h.1 (of_decide_eq_true c)
        exact w_end (r := .inr 1) (E' := (E.1 + 1, E.2.1 + 6, E.2.2)) am_e178 rfl rfl rfl h
      · replace h := h.2 (of_decide_eq_false c)
        refine w_st (i' := 13) (ls' := [.ref 0, .int p1, .int p2]) (st' := [.int p1]) (E' := E) (I' := I) (J' := J) (S' := S) am_e178 rfl rfl rfl rfl ?_
        refine w_st (i' := 14) (ls' := [.ref 0, .int p1, .int p2]) (st' := [.int (nI 400), .int p1]) (E' := E) (I' := I) (J' := J) (S' := S) am_e178 rfl rfl rfl rfl ?_
        refine w_if2 am_e178 rfl rfl (fun c => ?_) (fun c => ?_)
        · replace h := h.1 (of_decide_eq_true c)
          exact w_end am_e178 rfl rfl rfl h
        · replace h := h.2 (of_decide_eq_false c)
          exact w_end (r := .inr 1) (E' := (E.1 + 1, E.2.1 + 6, E.2.2)) am_e178 rfl rfl rfl h
    · replace h := h.2 (of_decide_eq_false c)
      exact w_end (r := .inr 0) (E' := (E.1 + 1, E.2.1 + 6, E.2.2)) am_e178 rfl rfl rfl h
-- 59 program
theorem g59_0 {p1 : Int32} {E : am_Ev} {I : Nat → Nat → Int32} {J : Nat → Nat → Int64} {S : Nat → Nat → Option Nat} {Q : am_Qt}  (h : (p1 < 0 → (Q (.inr 1) (E.1 + 1, E.2.1 + 6, E.2.2) I J S)) ∧ (¬ p1 < 0 → ((p1 ≤ ((I 1) 1) → (am_cl 60 [.ref 1, .int p1] E I J S (q_I fun v1 E1 I1 J1 S1 => (v1 = 0 → (am_cl 96 [.ref 12, .ref 3] E1 (u_I (u_I I1 1 (upd (I1 1) 1 (nI 0))) 0 (upd (I1 0) 12 (-1))) J1 S1 (q_V fun E2 I2 J2 S2 => am_cl 14 [.ref 18, .ref 12] E2 I2 J2 S2 (q_V fun E3 I3 J3 S3 => am_cl 41 [.ref 0] E3 (u_I I3 0 (upd (I3 0) 13 (nI 0))) J3 S3 (q_V fun E4 I4 J4 S4 => Q (.inl (some (.int (nI 0)))) E4 I4 J4 S4))))) ∧ (¬ v1 = 0 → (Q (.inl (some (.int v1))) E1 (u_I (u_I (u_I I1 1 (upd (I1 1) 1 (nI 0))) 0 (upd (I1 0) 12 ((I1 1) 3))) 18 (upd (I1 18) 12 (((I1 18) 12) + (nI 1)))) J1 S1))))) ∧ (¬ p1 ≤ ((I 1) 1) → (Q (.inr 1) (E.1 + 1, E.2.1 + 6, E.2.2) I J S))))) : am_ww 59 0 [.ref 0, .int p1, am_U] [] E I J S Q := by
  refine w_st (i' := 1) (ls' := [.ref 0, .int p1, am_U]) (st' := [.int p1]) (E' := E) (I' := I) (J' := J) (S' := S) am_e59 rfl rfl rfl rfl ?_
  refine w_if1 am_e59 rfl rfl (fun c => ?_) (fun c => ?_)
  · replace h := h.1 (of_decide_eq_true c)
    exact w_end (r := .inr 1) (E' := (E.1 + 1, E.2.1 + 6, E.2.2)) am_e59 rfl rfl rfl h
  · replace h := h.2 (of_decide_eq_false c)
    refine w_st (i' := 3) (ls' := [.ref 0, .int p1, am_U]) (st' := [.int p1]) (E' := E) (I' := I) (J' := J) (S' := S) am_e59 rfl rfl rfl rfl ?_
    refine w_st (i' := 4) (ls' := [.ref 0, .int p1, am_U]) (st' := [.ref 0, .int p1]) (E' := E) (I' := I) (J' := J) (S' := S) am_e59 rfl rfl rfl rfl ?_
    refine w_st (i' := 5) (ls' := [.ref 0, .int p1, am_U]) (st' := [.ref 1, .int p1]) (E' := E) (I' := I) (J' := J) (S' := S) am_e59 rfl rfl rfl rfl ?_
    refine w_st (i' := 6) (ls' := [.ref 0, .int p1, am_U]) (st' := [.int ((I 1) 1), .int p1]) (E' := E) (I' := I) (J' := J) (S' := S) am_e59 rfl rfl rfl rfl ?_
    refine w_if2 am_e59 rfl rfl (fun c => ?_) (fun c => ?_)
    · replace h := h.1 (of_decide_eq_true c)
      refine w_st (i' := 13) (ls' := [.ref 0, .int p1, am_U]) (st' := [.ref 0]) (E' := E) (I' := I) (J' := J) (S' := S) am_e59 rfl rfl rfl rfl ?_
      refine w_st (i' := 14) (ls' := [.ref 0, .int p1, am_U]) (st' := [.ref 1]) (E' := E) (I' := I) (J' := J) (S' := S) am_e59 rfl rfl rfl rfl ?_
      refine w_st (i' := 15) (ls' := [.ref 0, .int p1, am_U]) (st' := [.int p1, .ref 1]) (E' := E) (I' := I) (J' := J) (S' := S) am_e59 rfl rfl rfl rfl ?_
      refine w_cI am_e59 rfl rfl (as := [.ref 1, .int p1]) (rest := []) rfl rfl (am_ww.mono h ?_)
      rintro _ E1 I1 J1 S1 ⟨v1, rfl, h⟩
      refine q_mkI ?_
      refine w_st (i' := 17) (ls' := [.ref 0, .int p1, .int v1]) (st' := []) (E' := E1) (I' := I1) (J' := J1) (S' := S1) am_e59 rfl rfl rfl rfl ?_
      refine w_st (i' := 18) (ls' := [.ref 0, .int p1, .int v1]) (st' := [.ref 0]) (E' := E1) (I' := I1) (J' := J1) (S' := S1) am_e59 rfl rfl rfl rfl ?_
      refine w_st (i' := 19) (ls' := [.ref 0, .int p1, .int v1]) (st' := [.ref 1]) (E' := E1) (I' := I1) (J' := J1) (S' := S1) am_e59 rfl rfl rfl rfl ?_
      refine w_st (i' := 20) (ls' := [.ref 0, .int p1, .int v1]) (st' := [.int (nI 0), .ref 1]) (E' := E1) (I' := I1) (J' := J1) (S' := S1) am_e59 rfl rfl rfl rfl ?_
      refine w_st (i' := 21) (ls' := [.ref 0, .int p1, .int v1]) (st' := []) (E' := E1) (I' := (u_I I1 1 (upd (I1 1) 1 (nI 0)))) (J' := J1) (S' := S1) am_e59 rfl rfl rfl rfl ?_
      refine w_st (i' := 22) (ls' := [.ref 0, .int p1, .int v1]) (st' := [.int v1]) (E' := E1) (I' := (u_I I1 1 (upd (I1 1) 1 (nI 0)))) (J' := J1) (S' := S1) am_e59 rfl rfl rfl rfl ?_
      refine w_if1 am_e59 rfl rfl (fun c => ?_) (fun c => ?_)
      · replace h := h.1 (of_decide_eq_true c)
        refine w_st (i' := 38) (ls' := [.ref 0, .int p1, .int v1]) (st' := [.ref 0]) (E' := E1) (I' := (u_I I1 1 (upd (I1 1) 1 (nI 0)))) (J' := J1) (S' := S1) am_e59 rfl rfl rfl rfl ?_
        refine w_st (i' := 39) (ls' := [.ref 0, .int p1, .int v1]) (st' := [.int (-1), .ref 0]) (E' := E1) (I' := (u_I I1 1 (upd (I1 1) 1 (nI 0)))) (J' := J1) (S' := S1) am_e59 rfl rfl rfl rfl ?_
        refine w_st (i' := 40) (ls' := [.ref 0, .int p1, .int v1]) (st' := []) (E' := E1) (I' := (u_I (u_I I1 1 (upd (I1 1) 1 (nI 0))) 0 (upd (I1 0) 12 (-1)))) (J' := J1) (S' := S1) am_e59 rfl rfl rfl rfl ?_
        refine w_st (i' := 41) (ls' := [.ref 0, .int p1, .int v1]) (st' := [.ref 0]) (E' := E1) (I' := (u_I (u_I I1 1 (upd (I1 1) 1 (nI 0))) 0 (upd (I1 0) 12 (-1)))) (J' := J1) (S' := S1) am_e59 rfl rfl rfl rfl ?_
        refine w_st (i' := 42) (ls' := [.ref 0, .int p1, .int v1]) (st' := [.ref 12]) (E' := E1) (I' := (u_I (u_I I1 1 (upd (I1 1) 1 (nI 0))) 0 (upd (I1 0) 12 (-1)))) (J' := J1) (S' := S1) am_e59 rfl rfl rfl rfl ?_
        refine w_st (i' := 43) (ls' := [.ref 0, .int p1, .int v1]) (st' := [.ref 0, .ref 12]) (E' := E1) (I' := (u_I (u_I I1 1 (upd (I1 1) 1 (nI 0))) 0 (upd (I1 0) 12 (-1)))) (J' := J1) (S' := S1) am_e59 rfl rfl rfl rfl ?_
        refine w_st (i' := 44) (ls' := [.ref 0, .int p1, .int v1]) (st' := [.ref 1, .ref 12]) (E' := E1) (I' := (u_I (u_I I1 1 (upd (I1 1) 1 (nI 0))) 0 (upd (I1 0) 12 (-1)))) (J' := J1) (S' := S1) am_e59 rfl rfl rfl rfl ?_
        refine w_st (i' := 45) (ls' := [.ref 0, .int p1, .int v1]) (st' := [.ref 3, .ref 12]) (E' := E1) (I' := (u_I (u_I I1 1 (upd (I1 1) 1 (nI 0))) 0 (upd (I1 0) 12 (-1)))) (J' := J1) (S' := S1) am_e59 rfl rfl rfl rfl ?_
        refine w_cV am_e59 rfl rfl (as := [.ref 12, .ref 3]) (rest := []) rfl rfl (am_ww.mono h ?_)
        rintro _ E2 I2 J2 S2 ⟨rfl, h⟩
        refine q_mkV ?_
        refine w_st (i' := 47) (ls' := [.ref 0, .int p1, .int v1]) (st' := [.ref 0]) (E' := E2) (I' := I2) (J' := J2) (S' := S2) am_e59 rfl rfl rfl rfl ?_
        refine w_st (i' := 48) (ls' := [.ref 0, .int p1, .int v1]) (st' := [.ref 18]) (E' := E2) (I' := I2) (J' := J2) (S' := S2) am_e59 rfl rfl rfl rfl ?_
        refine w_st (i' := 49) (ls' := [.ref 0, .int p1, .int v1]) (st' := [.ref 0, .ref 18]) (E' := E2) (I' := I2) (J' := J2) (S' := S2) am_e59 rfl rfl rfl rfl ?_
        refine w_st (i' := 50) (ls' := [.ref 0, .int p1, .int v1]) (st' := [.ref 12, .ref 18]) (E' := E2) (I' := I2) (J' := J2) (S' := S2) am_e59 rfl rfl rfl rfl ?_
        refine w_cV am_e59 rfl rfl (as := [.ref 18, .ref 12]) (rest := []) rfl rfl (am_ww.mono h ?_)
        rintro _ E3 I3 J3 S3 ⟨rfl, h⟩
        refine q_mkV ?_
        refine w_st (i' := 52) (ls' := [.ref 0, .int p1, .int v1]) (st' := [.ref 0]) (E' := E3) (I' := I3) (J' := J3) (S' := S3) am_e59 rfl rfl rfl rfl ?_
        refine w_st (i' := 53) (ls' := [.ref 0, .int p1, .int v1]) (st' := [.int (nI 0), .ref 0]) (E' := E3) (I' := I3) (J' := J3) (S' := S3) am_e59 rfl rfl rfl rfl ?_
        refine w_st (i' := 54) (ls' := [.ref 0, .int p1, .int v1]) (st' := []) (E' := E3) (I' := (u_I I3 0 (upd (I3 0) 13 (nI 0)))) (J' := J3) (S' := S3) am_e59 rfl rfl rfl rfl ?_
        refine w_st (i' := 55) (ls' := [.ref 0, .int p1, .int v1]) (st' := [.ref 0]) (E' := E3) (I' := (u_I I3 0 (upd (I3 0) 13 (nI 0)))) (J' := J3) (S' := S3) am_e59 rfl rfl rfl rfl ?_
        refine w_cV am_e59 rfl rfl (as := [.ref 0]) (rest := []) rfl rfl (am_ww.mono h ?_)
        rintro _ E4 I4 J4 S4 ⟨rfl, h⟩
        refine q_mkV ?_
        refine w_st (i' := 57) (ls' := [.ref 0, .int p1, .int v1]) (st' := [.int (nI 0)]) (E' := E4) (I' := I4) (J' := J4) (S' := S4) am_e59 rfl rfl rfl rfl ?_
        exact w_end am_e59 rfl rfl rfl h
      · replace h := h.2 (of_decide_eq_false c)
        refine w_st (i' := 24) (ls' := [.ref 0, .int p1, .int v1]) (st' := [.ref 0]) (E' := E1) (I' := (u_I I1 1 (upd (I1 1) 1 (nI 0)))) (J' := J1) (S' := S1) am_e59 rfl rfl rfl rfl ?_
        refine w_st (i' := 25) (ls' := [.ref 0, .int p1, .int v1]) (st' := [.ref 0, .ref 0]) (E' := E1) (I' := (u_I I1 1 (upd (I1 1) 1 (nI 0)))) (J' := J1) (S' := S1) am_e59 rfl rfl rfl rfl ?_
        refine w_st (i' := 26) (ls' := [.ref 0, .int p1, .int v1]) (st' := [.ref 1, .ref 0]) (E' := E1) (I' := (u_I I1 1 (upd (I1 1) 1 (nI 0)))) (J' := J1) (S' := S1) am_e59 rfl rfl rfl rfl ?_
        refine w_st (i' := 27) (ls' := [.ref 0, .int p1, .int v1]) (st' := [.int ((I1 1) 3), .ref 0]) (E' := E1) (I' := (u_I I1 1 (upd (I1 1) 1 (nI 0)))) (J' := J1) (S' := S1) am_e59 rfl rfl rfl rfl ?_
        refine w_st (i' := 28) (ls' := [.ref 0, .int p1, .int v1]) (st' := []) (E' := E1) (I' := (u_I (u_I I1 1 (upd (I1 1) 1 (nI 0))) 0 (upd (I1 0) 12 ((I1 1) 3)))) (J' := J1) (S' := S1) am_e59 rfl rfl rfl rfl ?_
        refine w_st (i' := 29) (ls' := [.ref 0, .int p1, .int v1]) (st' := [.ref 0]) (E' := E1) (I' := (u_I (u_I I1 1 (upd (I1 1) 1 (nI 0))) 0 (upd (I1 0) 12 ((I1 1) 3)))) (J' := J1) (S' := S1) am_e59 rfl rfl rfl rfl ?_
        refine w_st (i' := 30) (ls' := [.ref 0, .int p1, .int v1]) (st' := [.ref 18]) (E' := E1) (I' := (u_I (u_I I1 1 (upd (I1 1) 1 (nI 0))) 0 (upd (I1 0) 12 ((I1 1) 3)))) (J' := J1) (S' := S1) am_e59 rfl rfl rfl rfl ?_
        refine w_st (i' := 31) (ls' := [.ref 0, .int p1, .int v1]) (st' := [.ref 18, .ref 18]) (E' := E1) (I' := (u_I (u_I I1 1 (upd (I1 1) 1 (nI 0))) 0 (upd (I1 0) 12 ((I1 1) 3)))) (J' := J1) (S' := S1) am_e59 rfl rfl rfl rfl ?_
        refine w_st (i' := 32) (ls' := [.ref 0, .int p1, .int v1]) (st' := [.int ((I1 18) 12), .ref 18]) (E' := E1) (I' := (u_I (u_I I1 1 (upd (I1 1) 1 (nI 0))) 0 (upd (I1 0) 12 ((I1 1) 3)))) (J' := J1) (S' := S1) am_e59 rfl rfl rfl rfl ?_
        refine w_st (i' := 33) (ls' := [.ref 0, .int p1, .int v1]) (st' := [.int (nI 1), .int ((I1 18) 12), .ref 18]) (E' := E1) (I' := (u_I (u_I I1 1 (upd (I1 1) 1 (nI 0))) 0 (upd (I1 0) 12 ((I1 1) 3)))) (J' := J1) (S' := S1) am_e59 rfl rfl rfl rfl ?_
        refine w_st (i' := 34) (ls' := [.ref 0, .int p1, .int v1]) (st' := [.int (((I1 18) 12) + (nI 1)), .ref 18]) (E' := E1) (I' := (u_I (u_I I1 1 (upd (I1 1) 1 (nI 0))) 0 (upd (I1 0) 12 ((I1 1) 3)))) (J' := J1) (S' := S1) am_e59 rfl rfl rfl rfl ?_
        refine w_st (i' := 35) (ls' := [.ref 0, .int p1, .int v1]) (st' := []) (E' := E1) (I' := (u_I (u_I (u_I I1 1 (upd (I1 1) 1 (nI 0))) 0 (upd (I1 0) 12 ((I1 1) 3))) 18 (upd (I1 18) 12 (((I1 18) 12) + (nI 1))))) (J' := J1) (S' := S1) am_e59 rfl rfl rfl rfl ?_
        refine w_st (i' := 36) (ls' := [.ref 0, .int p1, .int v1]) (st' := [.int v1]) (E' := E1) (I' := (u_I (u_I (u_I I1 1 (upd (I1 1) 1 (nI 0))) 0 (upd (I1 0) 12 ((I1 1) 3))) 18 (upd (I1 18) 12 (((I1 18) 12) + (nI 1))))) (J' := J1) (S' := S1) am_e59 rfl rfl rfl rfl ?_
        exact w_ri am_e59 rfl rfl h
    · replace h := h.2 (of_decide_eq_false c)
      exact w_end (r := .inr 1) (E' := (E.1 + 1, E.2.1 + 6, E.2.2)) am_e59 rfl rfl rfl h
