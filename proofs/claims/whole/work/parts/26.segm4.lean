/-! rows of methods, by program -/
-- 67 length
theorem g67_0 {p0 : Nat} {E : am_Ev} {I : Nat → Nat → Int32} {J : Nat → Nat → Int64} {S : Nat → Nat → Option Nat} {Q : am_Qt} (hsp0 : p0 < 55) (h : Q (.inl (some (.int ((nI (am_slen.getD p0 0)) >>> ((nI 0) &&& 31))))) E I J S) : am_ww 67 0 [.ref (2000000 + p0)] [] E I J S Q := by
  refine w_al am_e67 rfl rfl (by omega) ?_
  refine w_gv hsp0 am_e67 rfl ?_
  refine w_sl hsp0 am_e67 rfl ?_
  refine w_al am_e67 rfl rfl (by omega) ?_
  refine w_cI am_e67 rfl rfl (as := [.ref (2000000 + p0)]) (rest := [.int (nI (am_slen.getD p0 0))]) rfl (am_ckS hsp0 rfl) ?_
  show am_ww 68 0 [.ref (2000000 + p0)] [] E I J S _
  refine w_st (i' := 1) (ls' := [.ref (2000000 + p0)]) (st' := [.int (nI 1)]) (E' := E) (I' := I) (J' := J) (S' := S) am_e68 rfl rfl rfl rfl ?_
  refine w_st (i' := 2) (ls' := [.ref (2000000 + p0)]) (st' := []) (E' := E) (I' := I) (J' := J) (S' := S) am_e68 rfl rfl rfl rfl ?_
  refine w_al am_e68 rfl rfl (by omega) ?_
  refine w_gc hsp0 am_e68 rfl ?_
  refine w_st (i' := 6) (ls' := [.ref (2000000 + p0)]) (st' := [.int (nI 0)]) (E' := E) (I' := I) (J' := J) (S' := S) am_e68 rfl rfl rfl rfl ?_
  refine w_end (E' := E) (I' := I) (J' := J) (S' := S) am_e68 rfl rfl rfl (q_mkI ?_)
  show am_ww 67 5 [.ref (2000000 + p0)] [.int (nI 0), .int (nI (am_slen.getD p0 0))] E I J S _
  refine w_st (i' := 6) (ls' := [.ref (2000000 + p0)]) (st' := [.int ((nI (am_slen.getD p0 0)) >>> ((nI 0) &&& 31))]) (E' := E) (I' := I) (J' := J) (S' := S) am_e67 rfl rfl rfl rfl ?_
  exact w_ri am_e67 rfl rfl h
-- 69 charAt
theorem g69_0 {p0 : Nat} {p1 : Int32} {E : am_Ev} {I : Nat → Nat → Int32} {J : Nat → Nat → Int64} {S : Nat → Nat → Option Nat} {Q : am_Qt} (hsp0 : p0 < 55) (h : (p1 < 0 → (False)) ∧ (¬ p1 < 0 → ((p1 < (nI (am_slen.getD p0 0)) → (vp_in p1 (am_slen.getD p0 0) ∧ (narrow .char (.int (((((am_strL.getD p0 []).getD p1.toNatClampNeg 0) &&& (nI 255)).toUInt32 % 65536).toInt32)) = .int (((((am_strL.getD p0 []).getD p1.toNatClampNeg 0) &&& (nI 255)).toUInt32 % 65536).toInt32) ∧ (∀ w1 : Int32, w1 = (((((am_strL.getD p0 []).getD p1.toNatClampNeg 0) &&& (nI 255)).toUInt32 % 65536).toInt32) → (narrow .char (.int w1) = .int w1 ∧ Q (.inl (some (.int w1))) E I J S))))) ∧ (¬ p1 < (nI (am_slen.getD p0 0)) → (False))))) : am_ww 69 0 [.ref (2000000 + p0), .int p1] [] E I J S Q := by
  refine w_al am_e69 rfl rfl (by omega) ?_
  refine w_cI am_e69 rfl rfl (as := [.ref (2000000 + p0)]) (rest := []) rfl (am_ckS hsp0 rfl) ?_
  show am_ww 70 0 [.ref (2000000 + p0)] [] E I J S _
  refine w_st (i' := 1) (ls' := [.ref (2000000 + p0)]) (st' := [.int (nI 1)]) (E' := E) (I' := I) (J' := J) (S' := S) am_e70 rfl rfl rfl rfl ?_
  refine w_st (i' := 2) (ls' := [.ref (2000000 + p0)]) (st' := []) (E' := E) (I' := I) (J' := J) (S' := S) am_e70 rfl rfl rfl rfl ?_
  refine w_al am_e70 rfl rfl (by omega) ?_
  refine w_gc hsp0 am_e70 rfl ?_
  refine w_st (i' := 5) (ls' := [.ref (2000000 + p0)]) (st' := []) (E' := E) (I' := I) (J' := J) (S' := S) am_e70 rfl rfl rfl rfl ?_
  refine w_st (i' := 6) (ls' := [.ref (2000000 + p0)]) (st' := [.int (nI 1)]) (E' := E) (I' := I) (J' := J) (S' := S) am_e70 rfl rfl rfl rfl ?_
  refine w_st (i' := 8) (ls' := [.ref (2000000 + p0)]) (st' := [.int (nI 1)]) (E' := E) (I' := I) (J' := J) (S' := S) am_e70 rfl rfl rfl rfl ?_
  refine w_end (E' := E) (I' := I) (J' := J) (S' := S) am_e70 rfl rfl rfl (q_mkI ?_)
  show am_ww 69 2 [.ref (2000000 + p0), .int p1] [.int (nI 1)] E I J S _
  refine w_st (i' := 3) (ls' := [.ref (2000000 + p0), .int p1]) (st' := []) (E' := E) (I' := I) (J' := J) (S' := S) am_e69 rfl rfl rfl rfl ?_
  refine w_al am_e69 rfl rfl (by omega) ?_
  refine w_gv hsp0 am_e69 rfl ?_
  refine w_st (i' := 6) (ls' := [.ref (2000000 + p0), .int p1]) (st' := [.int p1, .ref (3000000 + p0)]) (E' := E) (I' := I) (J' := J) (S' := S) am_e69 rfl rfl rfl rfl ?_
  refine w_cI am_e69 rfl rfl (as := [.ref (3000000 + p0), .int p1]) (rest := []) rfl rfl ?_
  show am_ww 71 0 [.ref (3000000 + p0), .int p1] [] E I J S _
  refine w_st (i' := 1) (ls' := [.ref (3000000 + p0), .int p1]) (st' := [.int p1]) (E' := E) (I' := I) (J' := J) (S' := S) am_e71 rfl rfl rfl rfl ?_
  refine w_al am_e71 rfl rfl (by omega) ?_
  refine w_sl hsp0 am_e71 rfl ?_
  refine w_cV am_e71 rfl rfl (as := [.int p1, .int (nI (am_slen.getD p0 0))]) (rest := []) rfl rfl ?_
  show am_ww 72 0 [.int p1, .int (nI (am_slen.getD p0 0))] [] E I J S _
  refine w_st (i' := 1) (ls' := [.int p1, .int (nI (am_slen.getD p0 0))]) (st' := [.int p1]) (E' := E) (I' := I) (J' := J) (S' := S) am_e72 rfl rfl rfl rfl ?_
  refine w_st (i' := 2) (ls' := [.int p1, .int (nI (am_slen.getD p0 0))]) (st' := [.int (nI (am_slen.getD p0 0)), .int p1]) (E' := E) (I' := I) (J' := J) (S' := S) am_e72 rfl rfl rfl rfl ?_
  refine w_st (i' := 3) (ls' := [.int p1, .int (nI (am_slen.getD p0 0))]) (st' := [.ref 4000000, .int (nI (am_slen.getD p0 0)), .int p1]) (E' := E) (I' := I) (J' := J) (S' := S) am_e72 rfl rfl rfl rfl ?_
  refine w_cI am_e72 rfl rfl (as := [.int p1, .int (nI (am_slen.getD p0 0)), .ref 4000000]) (rest := []) rfl rfl ?_
  show am_ww 73 0 [.int p1, .int (nI (am_slen.getD p0 0)), .ref 4000000] [] E I J S _
  refine w_st (i' := 1) (ls' := [.int p1, .int (nI (am_slen.getD p0 0)), .ref 4000000]) (st' := [.int p1]) (E' := E) (I' := I) (J' := J) (S' := S) am_e73 rfl rfl rfl rfl ?_
  refine w_if1 am_e73 rfl rfl (fun c => ?_) (fun c => ?_)
  · replace h := h.1 (of_decide_eq_true c)
    exact h.elim
  · replace h := h.2 (of_decide_eq_false c)
    refine w_st (i' := 3) (ls' := [.int p1, .int (nI (am_slen.getD p0 0)), .ref 4000000]) (st' := [.int p1]) (E' := E) (I' := I) (J' := J) (S' := S) am_e73 rfl rfl rfl rfl ?_
    refine w_st (i' := 4) (ls' := [.int p1, .int (nI (am_slen.getD p0 0)), .ref 4000000]) (st' := [.int (nI (am_slen.getD p0 0)), .int p1]) (E' := E) (I' := I) (J' := J) (S' := S) am_e73 rfl rfl rfl rfl ?_
    refine w_if2 am_e73 rfl rfl (fun c => ?_) (fun c => ?_)
    · replace h := h.1 (of_decide_eq_true c)
      refine w_st (i' := 11) (ls' := [.int p1, .int (nI (am_slen.getD p0 0)), .ref 4000000]) (st' := [.int p1]) (E' := E) (I' := I) (J' := J) (S' := S) am_e73 rfl rfl rfl rfl ?_
      refine w_ri am_e73 rfl rfl (q_mkI ?_)
      show am_ww 72 4 [.int p1, .int (nI (am_slen.getD p0 0))] [.int p1] E I J S _
      refine w_st (i' := 5) (ls' := [.int p1, .int (nI (am_slen.getD p0 0))]) (st' := []) (E' := E) (I' := I) (J' := J) (S' := S) am_e72 rfl rfl rfl rfl ?_
      refine w_end (E' := E) (I' := I) (J' := J) (S' := S) am_e72 rfl rfl rfl (q_mkV ?_)
      show am_ww 71 4 [.ref (3000000 + p0), .int p1] [] E I J S _
      refine w_al am_e71 rfl rfl (by omega) ?_
      refine w_st (i' := 6) (ls' := [.ref (3000000 + p0), .int p1]) (st' := [.int p1, .ref (3000000 + p0)]) (E' := E) (I' := I) (J' := J) (S' := S) am_e71 rfl rfl rfl rfl ?_
      refine w_sb (q := p0) hsp0 h.1 am_e71 rfl ?_
      replace h := h.2
      refine w_st (i' := 8) (ls' := [.ref (3000000 + p0), .int p1]) (st' := [.int (nI 255), .int ((am_strL.getD p0 []).getD p1.toNatClampNeg 0)]) (E' := E) (I' := I) (J' := J) (S' := S) am_e71 rfl rfl rfl rfl ?_
      refine w_st (i' := 9) (ls' := [.ref (3000000 + p0), .int p1]) (st' := [.int (((am_strL.getD p0 []).getD p1.toNatClampNeg 0) &&& (nI 255))]) (E' := E) (I' := I) (J' := J) (S' := S) am_e71 rfl rfl rfl rfl ?_
      refine w_st (i' := 10) (ls' := [.ref (3000000 + p0), .int p1]) (st' := [.int (((((am_strL.getD p0 []).getD p1.toNatClampNeg 0) &&& (nI 255)).toUInt32 % 65536).toInt32)]) (E' := E) (I' := I) (J' := J) (S' := S) am_e71 rfl rfl rfl rfl ?_
      refine w_rc am_e71 rfl rfl h.1 (q_mkI ?_)
      replace h := h.2
      show am_ww 69 7 [.ref (2000000 + p0), .int p1] [.int (((((am_strL.getD p0 []).getD p1.toNatClampNeg 0) &&& (nI 255)).toUInt32 % 65536).toInt32)] E I J S _
      refine w_var (fun w1 => am_ww 69 7 [.ref (2000000 + p0), .int p1] [.int w1] E I J S _) (((((am_strL.getD p0 []).getD p1.toNatClampNeg 0) &&& (nI 255)).toUInt32 % 65536).toInt32) (fun w1 hw1 => ?_)
      replace h := h w1 hw1
      exact w_rc am_e69 rfl rfl h.1 h.2
    · replace h := h.2 (of_decide_eq_false c)
      exact h.elim
-- 81 isEmpty
theorem g81_0 {p0 : Nat} {E : am_Ev} {I : Nat → Nat → Int32} {J : Nat → Nat → Int64} {S : Nat → Nat → Option Nat} {Q : am_Qt} (hsp0 : p0 < 55) (h : ((nI (am_slen.getD p0 0)) = 0 → (Q (.inl (some (.int (nI 1)))) E I J S)) ∧ (¬ (nI (am_slen.getD p0 0)) = 0 → (Q (.inl (some (.int (nI 0)))) E I J S))) : am_ww 81 0 [.ref (2000000 + p0)] [] E I J S Q := by
  refine w_al am_e81 rfl rfl (by omega) ?_
  refine w_gv hsp0 am_e81 rfl ?_
  refine w_sl hsp0 am_e81 rfl ?_
  refine w_if1 am_e81 rfl rfl (fun c => ?_) (fun c => ?_)
  · replace h := h.2 (of_decide_eq_true c)
    refine w_st (i' := 7) (ls' := [.ref (2000000 + p0)]) (st' := [.int (nI 0)]) (E' := E) (I' := I) (J' := J) (S' := S) am_e81 rfl rfl rfl rfl ?_
    exact w_end am_e81 rfl rfl rfl h
  · replace h := h.1 (Decidable.not_not.mp (of_decide_eq_false c))
    refine w_st (i' := 5) (ls' := [.ref (2000000 + p0)]) (st' := [.int (nI 1)]) (E' := E) (I' := I) (J' := J) (S' := S) am_e81 rfl rfl rfl rfl ?_
    refine w_st (i' := 7) (ls' := [.ref (2000000 + p0)]) (st' := [.int (nI 1)]) (E' := E) (I' := I) (J' := J) (S' := S) am_e81 rfl rfl rfl rfl ?_
    exact w_end am_e81 rfl rfl rfl h
-- 190 stepOn
theorem g190_0  {E : am_Ev} {I : Nat → Nat → Int32} {J : Nat → Nat → Int64} {S : Nat → Nat → Option Nat} {Q : am_Qt}  (h : ((((I 99) 17) ≤ ((I 99) 16) → (True)) ∧ (¬ ((I 99) 17) ≤ ((I 99) 16) → (vp_in ((I 99) 16) 700 ∧ True))) ∧ (∀ w2 : Int32, w2 = (if ((I 99) 17) ≤ ((I 99) 16) then (-1) else ((I 111) (((I 99) 16).toNatClampNeg))) → ((w2 = (nI 32) → (am_ww 190 0 [.ref 99, am_U] [] E (u_I I 99 (upd (I 99) 16 (((I 99) 16) + (nI 1)))) J S Q)) ∧ (¬ w2 = (nI 32) → (((((I 99) 17) ≤ ((I 99) 16) → (True)) ∧ (¬ ((I 99) 17) ≤ ((I 99) 16) → (vp_in ((I 99) 16) 700 ∧ True))) ∧ (∀ w4 : Int32, w4 = (if ((I 99) 17) ≤ ((I 99) 16) then (-1) else ((I 111) (((I 99) 16).toNatClampNeg))) → ((w4 = (nI 10) → (am_ww 190 0 [.ref 99, am_U] [] E (u_I I 99 (upd (I 99) 16 (((I 99) 16) + (nI 1)))) J S Q)) ∧ (¬ w4 = (nI 10) → (((((I 99) 17) ≤ ((I 99) 16) → (True)) ∧ (¬ ((I 99) 17) ≤ ((I 99) 16) → (vp_in ((I 99) 16) 700 ∧ True))) ∧ (∀ w6 : Int32, w6 = (if ((I 99) 17) ≤ ((I 99) 16) then (-1) else ((I 111) (((I 99) 16).toNatClampNeg))) → ((w6 = (-1) → (Q (.inl none) E (u_I I 99 (upd (upd (upd (I 99) 20 ((I 99) 16)) 18 (nI 0)) 21 ((I 99) 16))) J S)) ∧ (¬ w6 = (-1) → ((w6 < (nI 97) → ((w6 < (nI 48) → (∀ w11 : Int32, w11 = (if w6 = (nI 59) then nI 3 else (if w6 = (nI 44) then nI 3 else (if w6 = (nI 58) then nI 3 else (if w6 = (nI 45) then nI 3 else nI 4)))) → (Q (.inl none) E (u_I I 99 (upd (upd (upd (upd (I 99) 20 ((I 99) 16)) 16 (((I 99) 16) + (nI 1))) 18 w11) 21 (((I 99) 16) + (nI 1)))) J S))) ∧ (¬ w6 < (nI 48) → (((nI 57) < w6 → (∀ w16 : Int32, w16 = (if w6 = (nI 59) then nI 3 else (if w6 = (nI 44) then nI 3 else (if w6 = (nI 58) then nI 3 else (if w6 = (nI 45) then nI 3 else nI 4)))) → (Q (.inl none) E (u_I I 99 (upd (upd (upd (upd (I 99) 20 ((I 99) 16)) 16 (((I 99) 16) + (nI 1))) 18 w16) 21 (((I 99) 16) + (nI 1)))) J S))) ∧ (¬ (nI 57) < w6 → (am_ww 190 61 [.ref 99, .int w6] [] E (u_I I 99 (upd (upd (I 99) 20 ((I 99) 16)) 19 (nI 0))) J S Q)))))) ∧ (¬ w6 < (nI 97) → (((nI 122) < w6 → ((w6 < (nI 48) → (∀ w21 : Int32, w21 = (if w6 = (nI 59) then nI 3 else (if w6 = (nI 44) then nI 3 else (if w6 = (nI 58) then nI 3 else (if w6 = (nI 45) then nI 3 else nI 4)))) → (Q (.inl none) E (u_I I 99 (upd (upd (upd (upd (I 99) 20 ((I 99) 16)) 16 (((I 99) 16) + (nI 1))) 18 w21) 21 (((I 99) 16) + (nI 1)))) J S))) ∧ (¬ w6 < (nI 48) → (((nI 57) < w6 → (∀ w26 : Int32, w26 = (if w6 = (nI 59) then nI 3 else (if w6 = (nI 44) then nI 3 else (if w6 = (nI 58) then nI 3 else (if w6 = (nI 45) then nI 3 else nI 4)))) → (Q (.inl none) E (u_I I 99 (upd (upd (upd (upd (I 99) 20 ((I 99) 16)) 16 (((I 99) 16) + (nI 1))) 18 w26) 21 (((I 99) 16) + (nI 1)))) J S))) ∧ (¬ (nI 57) < w6 → (am_ww 190 61 [.ref 99, .int w6] [] E (u_I I 99 (upd (upd (I 99) 20 ((I 99) 16)) 19 (nI 0))) J S Q)))))) ∧ (¬ (nI 122) < w6 → (am_ww 190 38 [.ref 99, .int w6] [] E (u_I I 99 (upd (I 99) 20 ((I 99) 16))) J S Q))))))))))))))))) : am_ww 190 0 [.ref 99, am_U] [] E I J S Q := by
  refine w_st (i' := 1) (ls' := [.ref 99, am_U]) (st' := [.ref 99]) (E' := E) (I' := I) (J' := J) (S' := S) am_e190 rfl rfl rfl rfl ?_
  refine w_st (i' := 2) (ls' := [.ref 99, am_U]) (st' := [.ref 99, .ref 99]) (E' := E) (I' := I) (J' := J) (S' := S) am_e190 rfl rfl rfl rfl ?_
  refine w_st (i' := 3) (ls' := [.ref 99, am_U]) (st' := [.int ((I 99) 16), .ref 99]) (E' := E) (I' := I) (J' := J) (S' := S) am_e190 rfl rfl rfl rfl ?_
  refine w_cI am_e190 rfl rfl (as := [.ref 99, .int ((I 99) 16)]) (rest := []) rfl rfl ?_
  show am_ww 191 0 [.ref 99, .int ((I 99) 16)] [] E I J S _
  refine w_st (i' := 1) (ls' := [.ref 99, .int ((I 99) 16)]) (st' := [.int ((I 99) 16)]) (E' := E) (I' := I) (J' := J) (S' := S) am_e191 rfl rfl rfl rfl ?_
  refine w_st (i' := 2) (ls' := [.ref 99, .int ((I 99) 16)]) (st' := [.ref 99, .int ((I 99) 16)]) (E' := E) (I' := I) (J' := J) (S' := S) am_e191 rfl rfl rfl rfl ?_
  refine w_st (i' := 3) (ls' := [.ref 99, .int ((I 99) 16)]) (st' := [.int ((I 99) 17), .int ((I 99) 16)]) (E' := E) (I' := I) (J' := J) (S' := S) am_e191 rfl rfl rfl rfl ?_
  refine w_mg (i := 10) (ls' := [.ref 99, .int ((I 99) 16)]) (st' := [.int (if ((I 99) 17) ≤ ((I 99) 16) then (-1) else ((I 111) (((I 99) 16).toNatClampNeg)))]) (fun hm => ?_) ?_
  · replace h := h.1
    refine w_if2 am_e191 rfl rfl (fun c => ?_) (fun c => ?_)
    · have m1 : ((I 99) 17) ≤ ((I 99) 16) := (of_decide_eq_true c)
      replace h := h.1 m1
      refine w_st (i' := 10) (ls' := [.ref 99, .int ((I 99) 16)]) (st' := [.int (-1)]) (E' := E) (I' := I) (J' := J) (S' := S) am_e191 rfl rfl rfl rfl ?_
      first | exact hm | (simp only [if_pos m1] at hm; exact hm)
    · have m1 : ¬ (((I 99) 17) ≤ ((I 99) 16)) := (of_decide_eq_false c)
      replace h := h.2 m1
      refine w_st (i' := 5) (ls' := [.ref 99, .int ((I 99) 16)]) (st' := [.ref 99]) (E' := E) (I' := I) (J' := J) (S' := S) am_e191 rfl rfl rfl rfl ?_
      refine w_st (i' := 6) (ls' := [.ref 99, .int ((I 99) 16)]) (st' := [.ref 111]) (E' := E) (I' := I) (J' := J) (S' := S) am_e191 rfl rfl rfl rfl ?_
      refine w_st (i' := 7) (ls' := [.ref 99, .int ((I 99) 16)]) (st' := [.int ((I 99) 16), .ref 111]) (E' := E) (I' := I) (J' := J) (S' := S) am_e191 rfl rfl rfl rfl ?_
      refine w_ia (k := 111) (n := 700) (jn := ((I 99) 16).toNatClampNeg) am_e191 rfl rfl (by decide) h.1 rfl ?_
      replace h := h.2
      show am_ww 191 8 [.ref 99, .int ((I 99) 16)] [.int ((I 111) (((I 99) 16).toNatClampNeg))] E I J S _
      refine w_st (i' := 10) (ls' := [.ref 99, .int ((I 99) 16)]) (st' := [.int ((I 111) (((I 99) 16).toNatClampNeg))]) (E' := E) (I' := I) (J' := J) (S' := S) am_e191 rfl rfl rfl rfl ?_
      first | exact hm | (simp only [if_neg m1] at hm; exact hm)
  replace h := h.2
  refine w_var (fun w2 => am_ww 191 10 [.ref 99, .int ((I 99) 16)] [.int w2] E I J S _) (if ((I 99) 17) ≤ ((I 99) 16) then (-1) else ((I 111) (((I 99) 16).toNatClampNeg))) (fun w2 hw2 => ?_)
  replace h := h w2 hw2
  refine w_ri am_e191 rfl rfl (q_mkI ?_)
  show am_ww 190 4 [.ref 99, am_U] [.int w2] E I J S _
  refine w_st (i' := 5) (ls' := [.ref 99, am_U]) (st' := [.int (nI 32), .int w2]) (E' := E) (I' := I) (J' := J) (S' := S) am_e190 rfl rfl rfl rfl ?_
  refine w_if2 am_e190 rfl rfl (fun c => ?_) (fun c => ?_)
  · replace h := h.1 (of_decide_eq_true c)
    refine w_st (i' := 13) (ls' := [.ref 99, am_U]) (st' := [.ref 99]) (E' := E) (I' := I) (J' := J) (S' := S) am_e190 rfl rfl rfl rfl ?_
    refine w_st (i' := 14) (ls' := [.ref 99, am_U]) (st' := [.ref 99, .ref 99]) (E' := E) (I' := I) (J' := J) (S' := S) am_e190 rfl rfl rfl rfl ?_
    refine w_st (i' := 15) (ls' := [.ref 99, am_U]) (st' := [.int ((I 99) 16), .ref 99]) (E' := E) (I' := I) (J' := J) (S' := S) am_e190 rfl rfl rfl rfl ?_
    refine w_st (i' := 16) (ls' := [.ref 99, am_U]) (st' := [.int (nI 1), .int ((I 99) 16), .ref 99]) (E' := E) (I' := I) (J' := J) (S' := S) am_e190 rfl rfl rfl rfl ?_
    refine w_st (i' := 17) (ls' := [.ref 99, am_U]) (st' := [.int (((I 99) 16) + (nI 1)), .ref 99]) (E' := E) (I' := I) (J' := J) (S' := S) am_e190 rfl rfl rfl rfl ?_
    refine w_st (i' := 18) (ls' := [.ref 99, am_U]) (st' := []) (E' := E) (I' := (u_I I 99 (upd (I 99) 16 (((I 99) 16) + (nI 1))))) (J' := J) (S' := S) am_e190 rfl rfl rfl rfl ?_
    refine w_st (i' := 0) (ls' := [.ref 99, am_U]) (st' := []) (E' := E) (I' := (u_I I 99 (upd (I 99) 16 (((I 99) 16) + (nI 1))))) (J' := J) (S' := S) am_e190 rfl rfl rfl rfl ?_
    exact h
  · replace h := h.2 (of_decide_eq_false c)
    refine w_st (i' := 7) (ls' := [.ref 99, am_U]) (st' := [.ref 99]) (E' := E) (I' := I) (J' := J) (S' := S) am_e190 rfl rfl rfl rfl ?_
    refine w_st (i' := 8) (ls' := [.ref 99, am_U]) (st' := [.ref 99, .ref 99]) (E' := E) (I' := I) (J' := J) (S' := S) am_e190 rfl rfl rfl rfl ?_
    refine w_st (i' := 9) (ls' := [.ref 99, am_U]) (st' := [.int ((I 99) 16), .ref 99]) (E' := E) (I' := I) (J' := J) (S' := S) am_e190 rfl rfl rfl rfl ?_
    refine w_cI am_e190 rfl rfl (as := [.ref 99, .int ((I 99) 16)]) (rest := []) rfl rfl ?_
    show am_ww 191 0 [.ref 99, .int ((I 99) 16)] [] E I J S _
    refine w_st (i' := 1) (ls' := [.ref 99, .int ((I 99) 16)]) (st' := [.int ((I 99) 16)]) (E' := E) (I' := I) (J' := J) (S' := S) am_e191 rfl rfl rfl rfl ?_
    refine w_st (i' := 2) (ls' := [.ref 99, .int ((I 99) 16)]) (st' := [.ref 99, .int ((I 99) 16)]) (E' := E) (I' := I) (J' := J) (S' := S) am_e191 rfl rfl rfl rfl ?_
    refine w_st (i' := 3) (ls' := [.ref 99, .int ((I 99) 16)]) (st' := [.int ((I 99) 17), .int ((I 99) 16)]) (E' := E) (I' := I) (J' := J) (S' := S) am_e191 rfl rfl rfl rfl ?_
    refine w_mg (i := 10) (ls' := [.ref 99, .int ((I 99) 16)]) (st' := [.int (if ((I 99) 17) ≤ ((I 99) 16) then (-1) else ((I 111) (((I 99) 16).toNatClampNeg)))]) (fun hm => ?_) ?_
    · replace h := h.1
      refine w_if2 am_e191 rfl rfl (fun c => ?_) (fun c => ?_)
      · have m3 : ((I 99) 17) ≤ ((I 99) 16) := (of_decide_eq_true c)
        replace h := h.1 m3
        refine w_st (i' := 10) (ls' := [.ref 99, .int ((I 99) 16)]) (st' := [.int (-1)]) (E' := E) (I' := I) (J' := J) (S' := S) am_e191 rfl rfl rfl rfl ?_
        first | exact hm | (simp only [if_pos m3] at hm; exact hm)
      · have m3 : ¬ (((I 99) 17) ≤ ((I 99) 16)) := (of_decide_eq_false c)
        replace h := h.2 m3
        refine w_st (i' := 5) (ls' := [.ref 99, .int ((I 99) 16)]) (st' := [.ref 99]) (E' := E) (I' := I) (J' := J) (S' := S) am_e191 rfl rfl rfl rfl ?_
        refine w_st (i' := 6) (ls' := [.ref 99, .int ((I 99) 16)]) (st' := [.ref 111]) (E' := E) (I' := I) (J' := J) (S' := S) am_e191 rfl rfl rfl rfl ?_
        refine w_st (i' := 7) (ls' := [.ref 99, .int ((I 99) 16)]) (st' := [.int ((I 99) 16), .ref 111]) (E' := E) (I' := I) (J' := J) (S' := S) am_e191 rfl rfl rfl rfl ?_
        refine w_ia (k := 111) (n := 700) (jn := ((I 99) 16).toNatClampNeg) am_e191 rfl rfl (by decide) h.1 rfl ?_
        replace h := h.2
        show am_ww 191 8 [.ref 99, .int ((I 99) 16)] [.int ((I 111) (((I 99) 16).toNatClampNeg))] E I J S _
        refine w_st (i' := 10) (ls' := [.ref 99, .int ((I 99) 16)]) (st' := [.int ((I 111) (((I 99) 16).toNatClampNeg))]) (E' := E) (I' := I) (J' := J) (S' := S) am_e191 rfl rfl rfl rfl ?_
        first | exact hm | (simp only [if_neg m3] at hm; exact hm)
    replace h := h.2
    refine w_var (fun w4 => am_ww 191 10 [.ref 99, .int ((I 99) 16)] [.int w4] E I J S _) (if ((I 99) 17) ≤ ((I 99) 16) then (-1) else ((I 111) (((I 99) 16).toNatClampNeg))) (fun w4 hw4 => ?_)
    replace h := h w4 hw4
    refine w_ri am_e191 rfl rfl (q_mkI ?_)
    show am_ww 190 10 [.ref 99, am_U] [.int w4] E I J S _
    refine w_st (i' := 11) (ls' := [.ref 99, am_U]) (st' := [.int (nI 10), .int w4]) (E' := E) (I' := I) (J' := J) (S' := S) am_e190 rfl rfl rfl rfl ?_
    refine w_if2 am_e190 rfl rfl (fun c => ?_) (fun c => ?_)
    · replace h := h.2 (of_decide_eq_true c)
      refine w_st (i' := 20) (ls' := [.ref 99, am_U]) (st' := [.ref 99]) (E' := E) (I' := I) (J' := J) (S' := S) am_e190 rfl rfl rfl rfl ?_
      refine w_st (i' := 21) (ls' := [.ref 99, am_U]) (st' := [.ref 99, .ref 99]) (E' := E) (I' := I) (J' := J) (S' := S) am_e190 rfl rfl rfl rfl ?_
      refine w_st (i' := 22) (ls' := [.ref 99, am_U]) (st' := [.int ((I 99) 16), .ref 99]) (E' := E) (I' := I) (J' := J) (S' := S) am_e190 rfl rfl rfl rfl ?_
      refine w_st (i' := 23) (ls' := [.ref 99, am_U]) (st' := []) (E' := E) (I' := (u_I I 99 (upd (I 99) 20 ((I 99) 16)))) (J' := J) (S' := S) am_e190 rfl rfl rfl rfl ?_
      refine w_st (i' := 24) (ls' := [.ref 99, am_U]) (st' := [.ref 99]) (E' := E) (I' := (u_I I 99 (upd (I 99) 20 ((I 99) 16)))) (J' := J) (S' := S) am_e190 rfl rfl rfl rfl ?_
      refine w_st (i' := 25) (ls' := [.ref 99, am_U]) (st' := [.ref 99, .ref 99]) (E' := E) (I' := (u_I I 99 (upd (I 99) 20 ((I 99) 16)))) (J' := J) (S' := S) am_e190 rfl rfl rfl rfl ?_
      refine w_st (i' := 26) (ls' := [.ref 99, am_U]) (st' := [.int ((I 99) 16), .ref 99]) (E' := E) (I' := (u_I I 99 (upd (I 99) 20 ((I 99) 16)))) (J' := J) (S' := S) am_e190 rfl rfl rfl rfl ?_
      refine w_cI am_e190 rfl rfl (as := [.ref 99, .int ((I 99) 16)]) (rest := []) rfl rfl ?_
      show am_ww 191 0 [.ref 99, .int ((I 99) 16)] [] E (u_I I 99 (upd (I 99) 20 ((I 99) 16))) J S _
      refine w_st (i' := 1) (ls' := [.ref 99, .int ((I 99) 16)]) (st' := [.int ((I 99) 16)]) (E' := E) (I' := (u_I I 99 (upd (I 99) 20 ((I 99) 16)))) (J' := J) (S' := S) am_e191 rfl rfl rfl rfl ?_
      refine w_st (i' := 2) (ls' := [.ref 99, .int ((I 99) 16)]) (st' := [.ref 99, .int ((I 99) 16)]) (E' := E) (I' := (u_I I 99 (upd (I 99) 20 ((I 99) 16)))) (J' := J) (S' := S) am_e191 rfl rfl rfl rfl ?_
      refine w_st (i' := 3) (ls' := [.ref 99, .int ((I 99) 16)]) (st' := [.int ((I 99) 17), .int ((I 99) 16)]) (E' := E) (I' := (u_I I 99 (upd (I 99) 20 ((I 99) 16)))) (J' := J) (S' := S) am_e191 rfl rfl rfl rfl ?_
      refine w_mg (i := 10) (ls' := [.ref 99, .int ((I 99) 16)]) (st' := [.int (if ((I 99) 17) ≤ ((I 99) 16) then (-1) else ((I 111) (((I 99) 16).toNatClampNeg)))]) (fun hm => ?_) ?_
      · replace h := h.1
        refine w_if2 am_e191 rfl rfl (fun c => ?_) (fun c => ?_)
        · have m5 : ((I 99) 17) ≤ ((I 99) 16) := (of_decide_eq_true c)
          replace h := h.1 m5
          refine w_st (i' := 10) (ls' := [.ref 99, .int ((I 99) 16)]) (st' := [.int (-1)]) (E' := E) (I' := (u_I I 99 (upd (I 99) 20 ((I 99) 16)))) (J' := J) (S' := S) am_e191 rfl rfl rfl rfl ?_
          first | exact hm | (simp only [if_pos m5] at hm; exact hm)
        · have m5 : ¬ (((I 99) 17) ≤ ((I 99) 16)) := (of_decide_eq_false c)
          replace h := h.2 m5
          refine w_st (i' := 5) (ls' := [.ref 99, .int ((I 99) 16)]) (st' := [.ref 99]) (E' := E) (I' := (u_I I 99 (upd (I 99) 20 ((I 99) 16)))) (J' := J) (S' := S) am_e191 rfl rfl rfl rfl ?_
          refine w_st (i' := 6) (ls' := [.ref 99, .int ((I 99) 16)]) (st' := [.ref 111]) (E' := E) (I' := (u_I I 99 (upd (I 99) 20 ((I 99) 16)))) (J' := J) (S' := S) am_e191 rfl rfl rfl rfl ?_
          refine w_st (i' := 7) (ls' := [.ref 99, .int ((I 99) 16)]) (st' := [.int ((I 99) 16), .ref 111]) (E' := E) (I' := (u_I I 99 (upd (I 99) 20 ((I 99) 16)))) (J' := J) (S' := S) am_e191 rfl rfl rfl rfl ?_
          refine w_ia (k := 111) (n := 700) (jn := ((I 99) 16).toNatClampNeg) am_e191 rfl rfl (by decide) h.1 rfl ?_
          replace h := h.2
          show am_ww 191 8 [.ref 99, .int ((I 99) 16)] [.int ((I 111) (((I 99) 16).toNatClampNeg))] E (u_I I 99 (upd (I 99) 20 ((I 99) 16))) J S _
          refine w_st (i' := 10) (ls' := [.ref 99, .int ((I 99) 16)]) (st' := [.int ((I 111) (((I 99) 16).toNatClampNeg))]) (E' := E) (I' := (u_I I 99 (upd (I 99) 20 ((I 99) 16)))) (J' := J) (S' := S) am_e191 rfl rfl rfl rfl ?_
          first | exact hm | (simp only [if_neg m5] at hm; exact hm)
      replace h := h.2
      refine w_var (fun w6 => am_ww 191 10 [.ref 99, .int ((I 99) 16)] [.int w6] E (u_I I 99 (upd (I 99) 20 ((I 99) 16))) J S _) (if ((I 99) 17) ≤ ((I 99) 16) then (-1) else ((I 111) (((I 99) 16).toNatClampNeg))) (fun w6 hw6 => ?_)
      replace h := h w6 hw6
      refine w_ri am_e191 rfl rfl (q_mkI ?_)
      show am_ww 190 27 [.ref 99, am_U] [.int w6] E (u_I I 99 (upd (I 99) 20 ((I 99) 16))) J S _
      refine w_st (i' := 28) (ls' := [.ref 99, .int w6]) (st' := []) (E' := E) (I' := (u_I I 99 (upd (I 99) 20 ((I 99) 16)))) (J' := J) (S' := S) am_e190 rfl rfl rfl rfl ?_
      refine w_st (i' := 29) (ls' := [.ref 99, .int w6]) (st' := [.int w6]) (E' := E) (I' := (u_I I 99 (upd (I 99) 20 ((I 99) 16)))) (J' := J) (S' := S) am_e190 rfl rfl rfl rfl ?_
      refine w_st (i' := 30) (ls' := [.ref 99, .int w6]) (st' := [.int (-1), .int w6]) (E' := E) (I' := (u_I I 99 (upd (I 99) 20 ((I 99) 16)))) (J' := J) (S' := S) am_e190 rfl rfl rfl rfl ?_
      refine w_if2 am_e190 rfl rfl (fun c => ?_) (fun c => ?_)
      · replace h := h.2 (of_decide_eq_true c)
        refine w_st (i' := 36) (ls' := [.ref 99, .int w6]) (st' := [.int w6]) (E' := E) (I' := (u_I I 99 (upd (I 99) 20 ((I 99) 16)))) (J' := J) (S' := S) am_e190 rfl rfl rfl rfl ?_
        refine w_cI am_e190 rfl rfl (as := [.int w6]) (rest := []) rfl rfl ?_
        show am_ww 192 0 [.int w6] [] E (u_I I 99 (upd (I 99) 20 ((I 99) 16))) J S _
        refine w_st (i' := 1) (ls' := [.int w6]) (st' := [.int w6]) (E' := E) (I' := (u_I I 99 (upd (I 99) 20 ((I 99) 16)))) (J' := J) (S' := S) am_e192 rfl rfl rfl rfl ?_
        refine w_st (i' := 2) (ls' := [.int w6]) (st' := [.int (nI 97), .int w6]) (E' := E) (I' := (u_I I 99 (upd (I 99) 20 ((I 99) 16)))) (J' := J) (S' := S) am_e192 rfl rfl rfl rfl ?_
        refine w_if2 am_e192 rfl rfl (fun c => ?_) (fun c => ?_)
        · replace h := h.1 (of_decide_eq_true c)
          refine w_st (i' := 9) (ls' := [.int w6]) (st' := [.int (nI 0)]) (E' := E) (I' := (u_I I 99 (upd (I 99) 20 ((I 99) 16)))) (J' := J) (S' := S) am_e192 rfl rfl rfl rfl ?_
          refine w_end (E' := E) (I' := (u_I I 99 (upd (I 99) 20 ((I 99) 16)))) (J' := J) (S' := S) am_e192 rfl rfl rfl (q_mkI ?_)
          show am_ww 190 37 [.ref 99, .int w6] [.int (nI 0)] E (u_I I 99 (upd (I 99) 20 ((I 99) 16))) J S _
          refine w_st (i' := 55) (ls' := [.ref 99, .int w6]) (st' := []) (E' := E) (I' := (u_I I 99 (upd (I 99) 20 ((I 99) 16)))) (J' := J) (S' := S) am_e190 rfl rfl rfl rfl ?_
          refine w_st (i' := 56) (ls' := [.ref 99, .int w6]) (st' := [.int w6]) (E' := E) (I' := (u_I I 99 (upd (I 99) 20 ((I 99) 16)))) (J' := J) (S' := S) am_e190 rfl rfl rfl rfl ?_
          refine w_cI am_e190 rfl rfl (as := [.int w6]) (rest := []) rfl rfl ?_
          show am_ww 193 0 [.int w6] [] E (u_I I 99 (upd (I 99) 20 ((I 99) 16))) J S _
          refine w_st (i' := 1) (ls' := [.int w6]) (st' := [.int w6]) (E' := E) (I' := (u_I I 99 (upd (I 99) 20 ((I 99) 16)))) (J' := J) (S' := S) am_e193 rfl rfl rfl rfl ?_
          refine w_st (i' := 2) (ls' := [.int w6]) (st' := [.int (nI 48), .int w6]) (E' := E) (I' := (u_I I 99 (upd (I 99) 20 ((I 99) 16)))) (J' := J) (S' := S) am_e193 rfl rfl rfl rfl ?_
          refine w_if2 am_e193 rfl rfl (fun c => ?_) (fun c => ?_)
          · replace h := h.1 (of_decide_eq_true c)
            refine w_st (i' := 9) (ls' := [.int w6]) (st' := [.int (nI 0)]) (E' := E) (I' := (u_I I 99 (upd (I 99) 20 ((I 99) 16)))) (J' := J) (S' := S) am_e193 rfl rfl rfl rfl ?_
            refine w_end (E' := E) (I' := (u_I I 99 (upd (I 99) 20 ((I 99) 16)))) (J' := J) (S' := S) am_e193 rfl rfl rfl (q_mkI ?_)
            show am_ww 190 57 [.ref 99, .int w6] [.int (nI 0)] E (u_I I 99 (upd (I 99) 20 ((I 99) 16))) J S _
            refine w_st (i' := 93) (ls' := [.ref 99, .int w6]) (st' := []) (E' := E) (I' := (u_I I 99 (upd (I 99) 20 ((I 99) 16)))) (J' := J) (S' := S) am_e190 rfl rfl rfl rfl ?_
            refine w_st (i' := 94) (ls' := [.ref 99, .int w6]) (st' := [.ref 99]) (E' := E) (I' := (u_I I 99 (upd (I 99) 20 ((I 99) 16)))) (J' := J) (S' := S) am_e190 rfl rfl rfl rfl ?_
            refine w_st (i' := 95) (ls' := [.ref 99, .int w6]) (st' := [.ref 99, .ref 99]) (E' := E) (I' := (u_I I 99 (upd (I 99) 20 ((I 99) 16)))) (J' := J) (S' := S) am_e190 rfl rfl rfl rfl ?_
            refine w_st (i' := 96) (ls' := [.ref 99, .int w6]) (st' := [.int ((I 99) 16), .ref 99]) (E' := E) (I' := (u_I I 99 (upd (I 99) 20 ((I 99) 16)))) (J' := J) (S' := S) am_e190 rfl rfl rfl rfl ?_
            refine w_st (i' := 97) (ls' := [.ref 99, .int w6]) (st' := [.int (nI 1), .int ((I 99) 16), .ref 99]) (E' := E) (I' := (u_I I 99 (upd (I 99) 20 ((I 99) 16)))) (J' := J) (S' := S) am_e190 rfl rfl rfl rfl ?_
            refine w_st (i' := 98) (ls' := [.ref 99, .int w6]) (st' := [.int (((I 99) 16) + (nI 1)), .ref 99]) (E' := E) (I' := (u_I I 99 (upd (I 99) 20 ((I 99) 16)))) (J' := J) (S' := S) am_e190 rfl rfl rfl rfl ?_
            refine w_st (i' := 99) (ls' := [.ref 99, .int w6]) (st' := []) (E' := E) (I' := (u_I (u_I I 99 (upd (I 99) 20 ((I 99) 16))) 99 (upd (upd (I 99) 20 ((I 99) 16)) 16 (((I 99) 16) + (nI 1))))) (J' := J) (S' := S) am_e190 rfl rfl rfl rfl ?_
            refine w_eI (uI_0 ..) ?_
            show am_ww 190 99 [.ref 99, .int w6] [] E (u_I I 99 (upd (upd (I 99) 20 ((I 99) 16)) 16 (((I 99) 16) + (nI 1)))) J S _
            refine w_st (i' := 100) (ls' := [.ref 99, .int w6]) (st' := [.ref 99]) (E' := E) (I' := (u_I I 99 (upd (upd (I 99) 20 ((I 99) 16)) 16 (((I 99) 16) + (nI 1))))) (J' := J) (S' := S) am_e190 rfl rfl rfl rfl ?_
            refine w_st (i' := 101) (ls' := [.ref 99, .int w6]) (st' := [.int w6, .ref 99]) (E' := E) (I' := (u_I I 99 (upd (upd (I 99) 20 ((I 99) 16)) 16 (((I 99) 16) + (nI 1))))) (J' := J) (S' := S) am_e190 rfl rfl rfl rfl ?_
            refine w_st (i' := 102) (ls' := [.ref 99, .int w6]) (st' := [.int (nI 59), .int w6, .ref 99]) (E' := E) (I' := (u_I I 99 (upd (upd (I 99) 20 ((I 99) 16)) 16 (((I 99) 16) + (nI 1))))) (J' := J) (S' := S) am_e190 rfl rfl rfl rfl ?_
            refine w_mg (i := 115) (ls' := [.ref 99, .int w6]) (st' := [.int (if w6 = (nI 59) then nI 3 else (if w6 = (nI 44) then nI 3 else (if w6 = (nI 58) then nI 3 else (if w6 = (nI 45) then nI 3 else nI 4)))), .ref 99]) (fun hm => ?_) ?_
            · clear h
              refine w_if2 am_e190 rfl rfl (fun c => ?_) (fun c => ?_)
              · have m7 : w6 = (nI 59) := (of_decide_eq_true c)
                refine w_st (i' := 113) (ls' := [.ref 99, .int w6]) (st' := [.int (nI 3), .ref 99]) (E' := E) (I' := (u_I I 99 (upd (upd (I 99) 20 ((I 99) 16)) 16 (((I 99) 16) + (nI 1))))) (J' := J) (S' := S) am_e190 rfl rfl rfl rfl ?_
                refine w_st (i' := 115) (ls' := [.ref 99, .int w6]) (st' := [.int (nI 3), .ref 99]) (E' := E) (I' := (u_I I 99 (upd (upd (I 99) 20 ((I 99) 16)) 16 (((I 99) 16) + (nI 1))))) (J' := J) (S' := S) am_e190 rfl rfl rfl rfl ?_
                first | exact hm | (simp only [if_pos m7] at hm; exact hm)
              · have m7 : ¬ (w6 = (nI 59)) := (of_decide_eq_false c)
                refine w_st (i' := 104) (ls' := [.ref 99, .int w6]) (st' := [.int w6, .ref 99]) (E' := E) (I' := (u_I I 99 (upd (upd (I 99) 20 ((I 99) 16)) 16 (((I 99) 16) + (nI 1))))) (J' := J) (S' := S) am_e190 rfl rfl rfl rfl ?_
                refine w_st (i' := 105) (ls' := [.ref 99, .int w6]) (st' := [.int (nI 44), .int w6, .ref 99]) (E' := E) (I' := (u_I I 99 (upd (upd (I 99) 20 ((I 99) 16)) 16 (((I 99) 16) + (nI 1))))) (J' := J) (S' := S) am_e190 rfl rfl rfl rfl ?_
                refine w_if2 am_e190 rfl rfl (fun c => ?_) (fun c => ?_)
                · have m8 : w6 = (nI 44) := (of_decide_eq_true c)
                  refine w_st (i' := 113) (ls' := [.ref 99, .int w6]) (st' := [.int (nI 3), .ref 99]) (E' := E) (I' := (u_I I 99 (upd (upd (I 99) 20 ((I 99) 16)) 16 (((I 99) 16) + (nI 1))))) (J' := J) (S' := S) am_e190 rfl rfl rfl rfl ?_
                  refine w_st (i' := 115) (ls' := [.ref 99, .int w6]) (st' := [.int (nI 3), .ref 99]) (E' := E) (I' := (u_I I 99 (upd (upd (I 99) 20 ((I 99) 16)) 16 (((I 99) 16) + (nI 1))))) (J' := J) (S' := S) am_e190 rfl rfl rfl rfl ?_
                  first | exact hm | (simp only [if_neg m7, if_pos m8] at hm; exact hm)
                · have m8 : ¬ (w6 = (nI 44)) := (of_decide_eq_false c)
                  refine w_st (i' := 107) (ls' := [.ref 99, .int w6]) (st' := [.int w6, .ref 99]) (E' := E) (I' := (u_I I 99 (upd (upd (I 99) 20 ((I 99) 16)) 16 (((I 99) 16) + (nI 1))))) (J' := J) (S' := S) am_e190 rfl rfl rfl rfl ?_
                  refine w_st (i' := 108) (ls' := [.ref 99, .int w6]) (st' := [.int (nI 58), .int w6, .ref 99]) (E' := E) (I' := (u_I I 99 (upd (upd (I 99) 20 ((I 99) 16)) 16 (((I 99) 16) + (nI 1))))) (J' := J) (S' := S) am_e190 rfl rfl rfl rfl ?_
                  refine w_if2 am_e190 rfl rfl (fun c => ?_) (fun c => ?_)
                  · have m9 : w6 = (nI 58) := (of_decide_eq_true c)
                    refine w_st (i' := 113) (ls' := [.ref 99, .int w6]) (st' := [.int (nI 3), .ref 99]) (E' := E) (I' := (u_I I 99 (upd (upd (I 99) 20 ((I 99) 16)) 16 (((I 99) 16) + (nI 1))))) (J' := J) (S' := S) am_e190 rfl rfl rfl rfl ?_
                    refine w_st (i' := 115) (ls' := [.ref 99, .int w6]) (st' := [.int (nI 3), .ref 99]) (E' := E) (I' := (u_I I 99 (upd (upd (I 99) 20 ((I 99) 16)) 16 (((I 99) 16) + (nI 1))))) (J' := J) (S' := S) am_e190 rfl rfl rfl rfl ?_
                    first | exact hm | (simp only [if_neg m7, if_neg m8, if_pos m9] at hm; exact hm)
                  · have m9 : ¬ (w6 = (nI 58)) := (of_decide_eq_false c)
                    refine w_st (i' := 110) (ls' := [.ref 99, .int w6]) (st' := [.int w6, .ref 99]) (E' := E) (I' := (u_I I 99 (upd (upd (I 99) 20 ((I 99) 16)) 16 (((I 99) 16) + (nI 1))))) (J' := J) (S' := S) am_e190 rfl rfl rfl rfl ?_
                    refine w_st (i' := 111) (ls' := [.ref 99, .int w6]) (st' := [.int (nI 45), .int w6, .ref 99]) (E' := E) (I' := (u_I I 99 (upd (upd (I 99) 20 ((I 99) 16)) 16 (((I 99) 16) + (nI 1))))) (J' := J) (S' := S) am_e190 rfl rfl rfl rfl ?_
                    refine w_if2 am_e190 rfl rfl (fun c => ?_) (fun c => ?_)
                    · have m10 : ¬ (w6 = (nI 45)) := (of_decide_eq_true c)
                      refine w_st (i' := 115) (ls' := [.ref 99, .int w6]) (st' := [.int (nI 4), .ref 99]) (E' := E) (I' := (u_I I 99 (upd (upd (I 99) 20 ((I 99) 16)) 16 (((I 99) 16) + (nI 1))))) (J' := J) (S' := S) am_e190 rfl rfl rfl rfl ?_
                      first | exact hm | (simp only [if_neg m7, if_neg m8, if_neg m9, if_neg m10] at hm; exact hm)
                    · have m10 : w6 = (nI 45) := (Decidable.not_not.mp (of_decide_eq_false c))
                      refine w_st (i' := 113) (ls' := [.ref 99, .int w6]) (st' := [.int (nI 3), .ref 99]) (E' := E) (I' := (u_I I 99 (upd (upd (I 99) 20 ((I 99) 16)) 16 (((I 99) 16) + (nI 1))))) (J' := J) (S' := S) am_e190 rfl rfl rfl rfl ?_
                      refine w_st (i' := 115) (ls' := [.ref 99, .int w6]) (st' := [.int (nI 3), .ref 99]) (E' := E) (I' := (u_I I 99 (upd (upd (I 99) 20 ((I 99) 16)) 16 (((I 99) 16) + (nI 1))))) (J' := J) (S' := S) am_e190 rfl rfl rfl rfl ?_
                      first | exact hm | (simp only [if_neg m7, if_neg m8, if_neg m9, if_pos m10] at hm; exact hm)
            refine w_var (fun w11 => am_ww 190 115 [.ref 99, .int w6] [.int w11, .ref 99] E (u_I I 99 (upd (upd (I 99) 20 ((I 99) 16)) 16 (((I 99) 16) + (nI 1)))) J S _) (if w6 = (nI 59) then nI 3 else (if w6 = (nI 44) then nI 3 else (if w6 = (nI 58) then nI 3 else (if w6 = (nI 45) then nI 3 else nI 4)))) (fun w11 hw11 => ?_)
            replace h := h w11 hw11
            refine w_st (i' := 116) (ls' := [.ref 99, .int w6]) (st' := []) (E' := E) (I' := (u_I (u_I I 99 (upd (upd (I 99) 20 ((I 99) 16)) 16 (((I 99) 16) + (nI 1)))) 99 (upd (upd (upd (I 99) 20 ((I 99) 16)) 16 (((I 99) 16) + (nI 1))) 18 w11))) (J' := J) (S' := S) am_e190 rfl rfl rfl rfl ?_
            refine w_eI (uI_0 ..) ?_
            show am_ww 190 116 [.ref 99, .int w6] [] E (u_I I 99 (upd (upd (upd (I 99) 20 ((I 99) 16)) 16 (((I 99) 16) + (nI 1))) 18 w11)) J S _
            refine w_st (i' := 117) (ls' := [.ref 99, .int w6]) (st' := [.ref 99]) (E' := E) (I' := (u_I I 99 (upd (upd (upd (I 99) 20 ((I 99) 16)) 16 (((I 99) 16) + (nI 1))) 18 w11))) (J' := J) (S' := S) am_e190 rfl rfl rfl rfl ?_
            refine w_st (i' := 118) (ls' := [.ref 99, .int w6]) (st' := [.ref 99, .ref 99]) (E' := E) (I' := (u_I I 99 (upd (upd (upd (I 99) 20 ((I 99) 16)) 16 (((I 99) 16) + (nI 1))) 18 w11))) (J' := J) (S' := S) am_e190 rfl rfl rfl rfl ?_
            refine w_st (i' := 119) (ls' := [.ref 99, .int w6]) (st' := [.int (((I 99) 16) + (nI 1)), .ref 99]) (E' := E) (I' := (u_I I 99 (upd (upd (upd (I 99) 20 ((I 99) 16)) 16 (((I 99) 16) + (nI 1))) 18 w11))) (J' := J) (S' := S) am_e190 rfl rfl rfl rfl ?_
            refine w_st (i' := 120) (ls' := [.ref 99, .int w6]) (st' := []) (E' := E) (I' := (u_I (u_I I 99 (upd (upd (upd (I 99) 20 ((I 99) 16)) 16 (((I 99) 16) + (nI 1))) 18 w11)) 99 (upd (upd (upd (upd (I 99) 20 ((I 99) 16)) 16 (((I 99) 16) + (nI 1))) 18 w11) 21 (((I 99) 16) + (nI 1))))) (J' := J) (S' := S) am_e190 rfl rfl rfl rfl ?_
            refine w_eI (uI_0 ..) ?_
            show am_ww 190 120 [.ref 99, .int w6] [] E (u_I I 99 (upd (upd (upd (upd (I 99) 20 ((I 99) 16)) 16 (((I 99) 16) + (nI 1))) 18 w11) 21 (((I 99) 16) + (nI 1)))) J S _
            exact w_end am_e190 rfl rfl rfl h
          · replace h := h.2 (of_decide_eq_false c)
            refine w_st (i' := 4) (ls' := [.int w6]) (st' := [.int w6]) (E' := E) (I' := (u_I I 99 (upd (I 99) 20 ((I 99) 16)))) (J' := J) (S' := S) am_e193 rfl rfl rfl rfl ?_
            refine w_st (i' := 5) (ls' := [.int w6]) (st' := [.int (nI 57), .int w6]) (E' := E) (I' := (u_I I 99 (upd (I 99) 20 ((I 99) 16)))) (J' := J) (S' := S) am_e193 rfl rfl rfl rfl ?_
            refine w_if2 am_e193 rfl rfl (fun c => ?_) (fun c => ?_)
            · replace h := h.1 (of_decide_eq_true c)
              refine w_st (i' := 9) (ls' := [.int w6]) (st' := [.int (nI 0)]) (E' := E) (I' := (u_I I 99 (upd (I 99) 20 ((I 99) 16)))) (J' := J) (S' := S) am_e193 rfl rfl rfl rfl ?_
              refine w_end (E' := E) (I' := (u_I I 99 (upd (I 99) 20 ((I 99) 16)))) (J' := J) (S' := S) am_e193 rfl rfl rfl (q_mkI ?_)
              show am_ww 190 57 [.ref 99, .int w6] [.int (nI 0)] E (u_I I 99 (upd (I 99) 20 ((I 99) 16))) J S _
              refine w_st (i' := 93) (ls' := [.ref 99, .int w6]) (st' := []) (E' := E) (I' := (u_I I 99 (upd (I 99) 20 ((I 99) 16)))) (J' := J) (S' := S) am_e190 rfl rfl rfl rfl ?_
              refine w_st (i' := 94) (ls' := [.ref 99, .int w6]) (st' := [.ref 99]) (E' := E) (I' := (u_I I 99 (upd (I 99) 20 ((I 99) 16)))) (J' := J) (S' := S) am_e190 rfl rfl rfl rfl ?_
              refine w_st (i' := 95) (ls' := [.ref 99, .int w6]) (st' := [.ref 99, .ref 99]) (E' := E) (I' := (u_I I 99 (upd (I 99) 20 ((I 99) 16)))) (J' := J) (S' := S) am_e190 rfl rfl rfl rfl ?_
              refine w_st (i' := 96) (ls' := [.ref 99, .int w6]) (st' := [.int ((I 99) 16), .ref 99]) (E' := E) (I' := (u_I I 99 (upd (I 99) 20 ((I 99) 16)))) (J' := J) (S' := S) am_e190 rfl rfl rfl rfl ?_
              refine w_st (i' := 97) (ls' := [.ref 99, .int w6]) (st' := [.int (nI 1), .int ((I 99) 16), .ref 99]) (E' := E) (I' := (u_I I 99 (upd (I 99) 20 ((I 99) 16)))) (J' := J) (S' := S) am_e190 rfl rfl rfl rfl ?_
              refine w_st (i' := 98) (ls' := [.ref 99, .int w6]) (st' := [.int (((I 99) 16) + (nI 1)), .ref 99]) (E' := E) (I' := (u_I I 99 (upd (I 99) 20 ((I 99) 16)))) (J' := J) (S' := S) am_e190 rfl rfl rfl rfl ?_
              refine w_st (i' := 99) (ls' := [.ref 99, .int w6]) (st' := []) (E' := E) (I' := (u_I (u_I I 99 (upd (I 99) 20 ((I 99) 16))) 99 (upd (upd (I 99) 20 ((I 99) 16)) 16 (((I 99) 16) + (nI 1))))) (J' := J) (S' := S) am_e190 rfl rfl rfl rfl ?_
              refine w_eI (uI_0 ..) ?_
              show am_ww 190 99 [.ref 99, .int w6] [] E (u_I I 99 (upd (upd (I 99) 20 ((I 99) 16)) 16 (((I 99) 16) + (nI 1)))) J S _
              refine w_st (i' := 100) (ls' := [.ref 99, .int w6]) (st' := [.ref 99]) (E' := E) (I' := (u_I I 99 (upd (upd (I 99) 20 ((I 99) 16)) 16 (((I 99) 16) + (nI 1))))) (J' := J) (S' := S) am_e190 rfl rfl rfl rfl ?_
              refine w_st (i' := 101) (ls' := [.ref 99, .int w6]) (st' := [.int w6, .ref 99]) (E' := E) (I' := (u_I I 99 (upd (upd (I 99) 20 ((I 99) 16)) 16 (((I 99) 16) + (nI 1))))) (J' := J) (S' := S) am_e190 rfl rfl rfl rfl ?_
              refine w_st (i' := 102) (ls' := [.ref 99, .int w6]) (st' := [.int (nI 59), .int w6, .ref 99]) (E' := E) (I' := (u_I I 99 (upd (upd (I 99) 20 ((I 99) 16)) 16 (((I 99) 16) + (nI 1))))) (J' := J) (S' := S) am_e190 rfl rfl rfl rfl ?_
              refine w_mg (i := 115) (ls' := [.ref 99, .int w6]) (st' := [.int (if w6 = (nI 59) then nI 3 else (if w6 = (nI 44) then nI 3 else (if w6 = (nI 58) then nI 3 else (if w6 = (nI 45) then nI 3 else nI 4)))), .ref 99]) (fun hm => ?_) ?_
              · clear h
                refine w_if2 am_e190 rfl rfl (fun c => ?_) (fun c => ?_)
                · have m12 : w6 = (nI 59) := (of_decide_eq_true c)
                  refine w_st (i' := 113) (ls' := [.ref 99, .int w6]) (st' := [.int (nI 3), .ref 99]) (E' := E) (I' := (u_I I 99 (upd (upd (I 99) 20 ((I 99) 16)) 16 (((I 99) 16) + (nI 1))))) (J' := J) (S' := S) am_e190 rfl rfl rfl rfl ?_
                  refine w_st (i' := 115) (ls' := [.ref 99, .int w6]) (st' := [.int (nI 3), .ref 99]) (E' := E) (I' := (u_I I 99 (upd (upd (I 99) 20 ((I 99) 16)) 16 (((I 99) 16) + (nI 1))))) (J' := J) (S' := S) am_e190 rfl rfl rfl rfl ?_
                  first | exact hm | (simp only [if_pos m12] at hm; exact hm)
                · have m12 : ¬ (w6 = (nI 59)) := (of_decide_eq_false c)
                  refine w_st (i' := 104) (ls' := [.ref 99, .int w6]) (st' := [.int w6, .ref 99]) (E' := E) (I' := (u_I I 99 (upd (upd (I 99) 20 ((I 99) 16)) 16 (((I 99) 16) + (nI 1))))) (J' := J) (S' := S) am_e190 rfl rfl rfl rfl ?_
                  refine w_st (i' := 105) (ls' := [.ref 99, .int w6]) (st' := [.int (nI 44), .int w6, .ref 99]) (E' := E) (I' := (u_I I 99 (upd (upd (I 99) 20 ((I 99) 16)) 16 (((I 99) 16) + (nI 1))))) (J' := J) (S' := S) am_e190 rfl rfl rfl rfl ?_
                  refine w_if2 am_e190 rfl rfl (fun c => ?_) (fun c => ?_)
                  · have m13 : w6 = (nI 44) := (of_decide_eq_true c)
                    refine w_st (i' := 113) (ls' := [.ref 99, .int w6]) (st' := [.int (nI 3), .ref 99]) (E' := E) (I' := (u_I I 99 (upd (upd (I 99) 20 ((I 99) 16)) 16 (((I 99) 16) + (nI 1))))) (J' := J) (S' := S) am_e190 rfl rfl rfl rfl ?_
                    refine w_st (i' := 115) (ls' := [.ref 99, .int w6]) (st' := [.int (nI 3), .ref 99]) (E' := E) (I' := (u_I I 99 (upd (upd (I 99) 20 ((I 99) 16)) 16 (((I 99) 16) + (nI 1))))) (J' := J) (S' := S) am_e190 rfl rfl rfl rfl ?_
                    first | exact hm | (simp only [if_neg m12, if_pos m13] at hm; exact hm)
                  · have m13 : ¬ (w6 = (nI 44)) := (of_decide_eq_false c)
                    refine w_st (i' := 107) (ls' := [.ref 99, .int w6]) (st' := [.int w6, .ref 99]) (E' := E) (I' := (u_I I 99 (upd (upd (I 99) 20 ((I 99) 16)) 16 (((I 99) 16) + (nI 1))))) (J' := J) (S' := S) am_e190 rfl rfl rfl rfl ?_
                    refine w_st (i' := 108) (ls' := [.ref 99, .int w6]) (st' := [.int (nI 58), .int w6, .ref 99]) (E' := E) (I' := (u_I I 99 (upd (upd (I 99) 20 ((I 99) 16)) 16 (((I 99) 16) + (nI 1))))) (J' := J) (S' := S) am_e190 rfl rfl rfl rfl ?_
                    refine w_if2 am_e190 rfl rfl (fun c => ?_) (fun c => ?_)
                    · have m14 : w6 = (nI 58) := (of_decide_eq_true c)
                      refine w_st (i' := 113) (ls' := [.ref 99, .int w6]) (st' := [.int (nI 3), .ref 99]) (E' := E) (I' := (u_I I 99 (upd (upd (I 99) 20 ((I 99) 16)) 16 (((I 99) 16) + (nI 1))))) (J' := J) (S' := S) am_e190 rfl rfl rfl rfl ?_
                      refine w_st (i' := 115) (ls' := [.ref 99, .int w6]) (st' := [.int (nI 3), .ref 99]) (E' := E) (I' := (u_I I 99 (upd (upd (I 99) 20 ((I 99) 16)) 16 (((I 99) 16) + (nI 1))))) (J' := J) (S' := S) am_e190 rfl rfl rfl rfl ?_
                      first | exact hm | (simp only [if_neg m12, if_neg m13, if_pos m14] at hm; exact hm)
                    · have m14 : ¬ (w6 = (nI 58)) := (of_decide_eq_false c)
                      refine w_st (i' := 110) (ls' := [.ref 99, .int w6]) (st' := [.int w6, .ref 99]) (E' := E) (I' := (u_I I 99 (upd (upd (I 99) 20 ((I 99) 16)) 16 (((I 99) 16) + (nI 1))))) (J' := J) (S' := S) am_e190 rfl rfl rfl rfl ?_
                      refine w_st (i' := 111) (ls' := [.ref 99, .int w6]) (st' := [.int (nI 45), .int w6, .ref 99]) (E' := E) (I' := (u_I I 99 (upd (upd (I 99) 20 ((I 99) 16)) 16 (((I 99) 16) + (nI 1))))) (J' := J) (S' := S) am_e190 rfl rfl rfl rfl ?_
                      refine w_if2 am_e190 rfl rfl (fun c => ?_) (fun c => ?_)
                      · have m15 : ¬ (w6 = (nI 45)) := (of_decide_eq_true c)
                        refine w_st (i' := 115) (ls' := [.ref 99, .int w6]) (st' := [.int (nI 4), .ref 99]) (E' := E) (I' := (u_I I 99 (upd (upd (I 99) 20 ((I 99) 16)) 16 (((I 99) 16) + (nI 1))))) (J' := J) (S' := S) am_e190 rfl rfl rfl rfl ?_
                        first | exact hm | (simp only [if_neg m12, if_neg m13, if_neg m14, if_neg m15] at hm; exact hm)
                      · have m15 : w6 = (nI 45) := (Decidable.not_not.mp (of_decide_eq_false c))
                        refine w_st (i' := 113) (ls' := [.ref 99, .int w6]) (st' := [.int (nI 3), .ref 99]) (E' := E) (I' := (u_I I 99 (upd (upd (I 99) 20 ((I 99) 16)) 16 (((I 99) 16) + (nI 1))))) (J' := J) (S' := S) am_e190 rfl rfl rfl rfl ?_
                        refine w_st (i' := 115) (ls' := [.ref 99, .int w6]) (st' := [.int (nI 3), .ref 99]) (E' := E) (I' := (u_I I 99 (upd (upd (I 99) 20 ((I 99) 16)) 16 (((I 99) 16) + (nI 1))))) (J' := J) (S' := S) am_e190 rfl rfl rfl rfl ?_
                        first | exact hm | (simp only [if_neg m12, if_neg m13, if_neg m14, if_pos m15] at hm; exact hm)
              refine w_var (fun w16 => am_ww 190 115 [.ref 99, .int w6] [.int w16, .ref 99] E (u_I I 99 (upd (upd (I 99) 20 ((I 99) 16)) 16 (((I 99) 16) + (nI 1)))) J S _) (if w6 = (nI 59) then nI 3 else (if w6 = (nI 44) then nI 3 else (if w6 = (nI 58) then nI 3 else (if w6 = (nI 45) then nI 3 else nI 4)))) (fun w16 hw16 => ?_)
              replace h := h w16 hw16
              refine w_st (i' := 116) (ls' := [.ref 99, .int w6]) (st' := []) (E' := E) (I' := (u_I (u_I I 99 (upd (upd (I 99) 20 ((I 99) 16)) 16 (((I 99) 16) + (nI 1)))) 99 (upd (upd (upd (I 99) 20 ((I 99) 16)) 16 (((I 99) 16) + (nI 1))) 18 w16))) (J' := J) (S' := S) am_e190 rfl rfl rfl rfl ?_
              refine w_eI (uI_0 ..) ?_
              show am_ww 190 116 [.ref 99, .int w6] [] E (u_I I 99 (upd (upd (upd (I 99) 20 ((I 99) 16)) 16 (((I 99) 16) + (nI 1))) 18 w16)) J S _
              refine w_st (i' := 117) (ls' := [.ref 99, .int w6]) (st' := [.ref 99]) (E' := E) (I' := (u_I I 99 (upd (upd (upd (I 99) 20 ((I 99) 16)) 16 (((I 99) 16) + (nI 1))) 18 w16))) (J' := J) (S' := S) am_e190 rfl rfl rfl rfl ?_
              refine w_st (i' := 118) (ls' := [.ref 99, .int w6]) (st' := [.ref 99, .ref 99]) (E' := E) (I' := (u_I I 99 (upd (upd (upd (I 99) 20 ((I 99) 16)) 16 (((I 99) 16) + (nI 1))) 18 w16))) (J' := J) (S' := S) am_e190 rfl rfl rfl rfl ?_
              refine w_st (i' := 119) (ls' := [.ref 99, .int w6]) (st' := [.int (((I 99) 16) + (nI 1)), .ref 99]) (E' := E) (I' := (u_I I 99 (upd (upd (upd (I 99) 20 ((I 99) 16)) 16 (((I 99) 16) + (nI 1))) 18 w16))) (J' := J) (S' := S) am_e190 rfl rfl rfl rfl ?_
              refine w_st (i' := 120) (ls' := [.ref 99, .int w6]) (st' := []) (E' := E) (I' := (u_I (u_I I 99 (upd (upd (upd (I 99) 20 ((I 99) 16)) 16 (((I 99) 16) + (nI 1))) 18 w16)) 99 (upd (upd (upd (upd (I 99) 20 ((I 99) 16)) 16 (((I 99) 16) + (nI 1))) 18 w16) 21 (((I 99) 16) + (nI 1))))) (J' := J) (S' := S) am_e190 rfl rfl rfl rfl ?_
              refine w_eI (uI_0 ..) ?_
              show am_ww 190 120 [.ref 99, .int w6] [] E (u_I I 99 (upd (upd (upd (upd (I 99) 20 ((I 99) 16)) 16 (((I 99) 16) + (nI 1))) 18 w16) 21 (((I 99) 16) + (nI 1)))) J S _
              exact w_end am_e190 rfl rfl rfl h
            · replace h := h.2 (of_decide_eq_false c)
              refine w_st (i' := 7) (ls' := [.int w6]) (st' := [.int (nI 1)]) (E' := E) (I' := (u_I I 99 (upd (I 99) 20 ((I 99) 16)))) (J' := J) (S' := S) am_e193 rfl rfl rfl rfl ?_
              refine w_st (i' := 9) (ls' := [.int w6]) (st' := [.int (nI 1)]) (E' := E) (I' := (u_I I 99 (upd (I 99) 20 ((I 99) 16)))) (J' := J) (S' := S) am_e193 rfl rfl rfl rfl ?_
              refine w_end (E' := E) (I' := (u_I I 99 (upd (I 99) 20 ((I 99) 16)))) (J' := J) (S' := S) am_e193 rfl rfl rfl (q_mkI ?_)
              show am_ww 190 57 [.ref 99, .int w6] [.int (nI 1)] E (u_I I 99 (upd (I 99) 20 ((I 99) 16))) J S _
              refine w_st (i' := 58) (ls' := [.ref 99, .int w6]) (st' := []) (E' := E) (I' := (u_I I 99 (upd (I 99) 20 ((I 99) 16)))) (J' := J) (S' := S) am_e190 rfl rfl rfl rfl ?_
              refine w_st (i' := 59) (ls' := [.ref 99, .int w6]) (st' := [.ref 99]) (E' := E) (I' := (u_I I 99 (upd (I 99) 20 ((I 99) 16)))) (J' := J) (S' := S) am_e190 rfl rfl rfl rfl ?_
              refine w_st (i' := 60) (ls' := [.ref 99, .int w6]) (st' := [.int (nI 0), .ref 99]) (E' := E) (I' := (u_I I 99 (upd (I 99) 20 ((I 99) 16)))) (J' := J) (S' := S) am_e190 rfl rfl rfl rfl ?_
              refine w_st (i' := 61) (ls' := [.ref 99, .int w6]) (st' := []) (E' := E) (I' := (u_I (u_I I 99 (upd (I 99) 20 ((I 99) 16))) 99 (upd (upd (I 99) 20 ((I 99) 16)) 19 (nI 0)))) (J' := J) (S' := S) am_e190 rfl rfl rfl rfl ?_
              refine w_eI (uI_0 ..) ?_
              show am_ww 190 61 [.ref 99, .int w6] [] E (u_I I 99 (upd (upd (I 99) 20 ((I 99) 16)) 19 (nI 0))) J S _
              exact h
        · replace h := h.2 (of_decide_eq_false c)
          refine w_st (i' := 4) (ls' := [.int w6]) (st' := [.int w6]) (E' := E) (I' := (u_I I 99 (upd (I 99) 20 ((I 99) 16)))) (J' := J) (S' := S) am_e192 rfl rfl rfl rfl ?_
          refine w_st (i' := 5) (ls' := [.int w6]) (st' := [.int (nI 122), .int w6]) (E' := E) (I' := (u_I I 99 (upd (I 99) 20 ((I 99) 16)))) (J' := J) (S' := S) am_e192 rfl rfl rfl rfl ?_
          refine w_if2 am_e192 rfl rfl (fun c => ?_) (fun c => ?_)
          · replace h := h.1 (of_decide_eq_true c)
            refine w_st (i' := 9) (ls' := [.int w6]) (st' := [.int (nI 0)]) (E' := E) (I' := (u_I I 99 (upd (I 99) 20 ((I 99) 16)))) (J' := J) (S' := S) am_e192 rfl rfl rfl rfl ?_
            refine w_end (E' := E) (I' := (u_I I 99 (upd (I 99) 20 ((I 99) 16)))) (J' := J) (S' := S) am_e192 rfl rfl rfl (q_mkI ?_)
            show am_ww 190 37 [.ref 99, .int w6] [.int (nI 0)] E (u_I I 99 (upd (I 99) 20 ((I 99) 16))) J S _
            refine w_st (i' := 55) (ls' := [.ref 99, .int w6]) (st' := []) (E' := E) (I' := (u_I I 99 (upd (I 99) 20 ((I 99) 16)))) (J' := J) (S' := S) am_e190 rfl rfl rfl rfl ?_
            refine w_st (i' := 56) (ls' := [.ref 99, .int w6]) (st' := [.int w6]) (E' := E) (I' := (u_I I 99 (upd (I 99) 20 ((I 99) 16)))) (J' := J) (S' := S) am_e190 rfl rfl rfl rfl ?_
            refine w_cI am_e190 rfl rfl (as := [.int w6]) (rest := []) rfl rfl ?_
            show am_ww 193 0 [.int w6] [] E (u_I I 99 (upd (I 99) 20 ((I 99) 16))) J S _
            refine w_st (i' := 1) (ls' := [.int w6]) (st' := [.int w6]) (E' := E) (I' := (u_I I 99 (upd (I 99) 20 ((I 99) 16)))) (J' := J) (S' := S) am_e193 rfl rfl rfl rfl ?_
            refine w_st (i' := 2) (ls' := [.int w6]) (st' := [.int (nI 48), .int w6]) (E' := E) (I' := (u_I I 99 (upd (I 99) 20 ((I 99) 16)))) (J' := J) (S' := S) am_e193 rfl rfl rfl rfl ?_
            refine w_if2 am_e193 rfl rfl (fun c => ?_) (fun c => ?_)
            · replace h := h.1 (of_decide_eq_true c)
              refine w_st (i' := 9) (ls' := [.int w6]) (st' := [.int (nI 0)]) (E' := E) (I' := (u_I I 99 (upd (I 99) 20 ((I 99) 16)))) (J' := J) (S' := S) am_e193 rfl rfl rfl rfl ?_
              refine w_end (E' := E) (I' := (u_I I 99 (upd (I 99) 20 ((I 99) 16)))) (J' := J) (S' := S) am_e193 rfl rfl rfl (q_mkI ?_)
              show am_ww 190 57 [.ref 99, .int w6] [.int (nI 0)] E (u_I I 99 (upd (I 99) 20 ((I 99) 16))) J S _
              refine w_st (i' := 93) (ls' := [.ref 99, .int w6]) (st' := []) (E' := E) (I' := (u_I I 99 (upd (I 99) 20 ((I 99) 16)))) (J' := J) (S' := S) am_e190 rfl rfl rfl rfl ?_
              refine w_st (i' := 94) (ls' := [.ref 99, .int w6]) (st' := [.ref 99]) (E' := E) (I' := (u_I I 99 (upd (I 99) 20 ((I 99) 16)))) (J' := J) (S' := S) am_e190 rfl rfl rfl rfl ?_
              refine w_st (i' := 95) (ls' := [.ref 99, .int w6]) (st' := [.ref 99, .ref 99]) (E' := E) (I' := (u_I I 99 (upd (I 99) 20 ((I 99) 16)))) (J' := J) (S' := S) am_e190 rfl rfl rfl rfl ?_
              refine w_st (i' := 96) (ls' := [.ref 99, .int w6]) (st' := [.int ((I 99) 16), .ref 99]) (E' := E) (I' := (u_I I 99 (upd (I 99) 20 ((I 99) 16)))) (J' := J) (S' := S) am_e190 rfl rfl rfl rfl ?_
              refine w_st (i' := 97) (ls' := [.ref 99, .int w6]) (st' := [.int (nI 1), .int ((I 99) 16), .ref 99]) (E' := E) (I' := (u_I I 99 (upd (I 99) 20 ((I 99) 16)))) (J' := J) (S' := S) am_e190 rfl rfl rfl rfl ?_
              refine w_st (i' := 98) (ls' := [.ref 99, .int w6]) (st' := [.int (((I 99) 16) + (nI 1)), .ref 99]) (E' := E) (I' := (u_I I 99 (upd (I 99) 20 ((I 99) 16)))) (J' := J) (S' := S) am_e190 rfl rfl rfl rfl ?_
              refine w_st (i' := 99) (ls' := [.ref 99, .int w6]) (st' := []) (E' := E) (I' := (u_I (u_I I 99 (upd (I 99) 20 ((I 99) 16))) 99 (upd (upd (I 99) 20 ((I 99) 16)) 16 (((I 99) 16) + (nI 1))))) (J' := J) (S' := S) am_e190 rfl rfl rfl rfl ?_
              refine w_eI (uI_0 ..) ?_
              show am_ww 190 99 [.ref 99, .int w6] [] E (u_I I 99 (upd (upd (I 99) 20 ((I 99) 16)) 16 (((I 99) 16) + (nI 1)))) J S _
              refine w_st (i' := 100) (ls' := [.ref 99, .int w6]) (st' := [.ref 99]) (E' := E) (I' := (u_I I 99 (upd (upd (I 99) 20 ((I 99) 16)) 16 (((I 99) 16) + (nI 1))))) (J' := J) (S' := S) am_e190 rfl rfl rfl rfl ?_
              refine w_st (i' := 101) (ls' := [.ref 99, .int w6]) (st' := [.int w6, .ref 99]) (E' := E) (I' := (u_I I 99 (upd (upd (I 99) 20 ((I 99) 16)) 16 (((I 99) 16) + (nI 1))))) (J' := J) (S' := S) am_e190 rfl rfl rfl rfl ?_
              refine w_st (i' := 102) (ls' := [.ref 99, .int w6]) (st' := [.int (nI 59), .int w6, .ref 99]) (E' := E) (I' := (u_I I 99 (upd (upd (I 99) 20 ((I 99) 16)) 16 (((I 99) 16) + (nI 1))))) (J' := J) (S' := S) am_e190 rfl rfl rfl rfl ?_
              refine w_mg (i := 115) (ls' := [.ref 99, .int w6]) (st' := [.int (if w6 = (nI 59) then nI 3 else (if w6 = (nI 44) then nI 3 else (if w6 = (nI 58) then nI 3 else (if w6 = (nI 45) then nI 3 else nI 4)))), .ref 99]) (fun hm => ?_) ?_
              · clear h
                refine w_if2 am_e190 rfl rfl (fun c => ?_) (fun c => ?_)
                · have m17 : w6 = (nI 59) := (of_decide_eq_true c)
                  refine w_st (i' := 113) (ls' := [.ref 99, .int w6]) (st' := [.int (nI 3), .ref 99]) (E' := E) (I' := (u_I I 99 (upd (upd (I 99) 20 ((I 99) 16)) 16 (((I 99) 16) + (nI 1))))) (J' := J) (S' := S) am_e190 rfl rfl rfl rfl ?_
                  refine w_st (i' := 115) (ls' := [.ref 99, .int w6]) (st' := [.int (nI 3), .ref 99]) (E' := E) (I' := (u_I I 99 (upd (upd (I 99) 20 ((I 99) 16)) 16 (((I 99) 16) + (nI 1))))) (J' := J) (S' := S) am_e190 rfl rfl rfl rfl ?_
                  first | exact hm | (simp only [if_pos m17] at hm; exact hm)
                · have m17 : ¬ (w6 = (nI 59)) := (of_decide_eq_false c)
                  refine w_st (i' := 104) (ls' := [.ref 99, .int w6]) (st' := [.int w6, .ref 99]) (E' := E) (I' := (u_I I 99 (upd (upd (I 99) 20 ((I 99) 16)) 16 (((I 99) 16) + (nI 1))))) (J' := J) (S' := S) am_e190 rfl rfl rfl rfl ?_
                  refine w_st (i' := 105) (ls' := [.ref 99, .int w6]) (st' := [.int (nI 44), .int w6, .ref 99]) (E' := E) (I' := (u_I I 99 (upd (upd (I 99) 20 ((I 99) 16)) 16 (((I 99) 16) + (nI 1))))) (J' := J) (S' := S) am_e190 rfl rfl rfl rfl ?_
                  refine w_if2 am_e190 rfl rfl (fun c => ?_) (fun c => ?_)
                  · have m18 : w6 = (nI 44) := (of_decide_eq_true c)
                    refine w_st (i' := 113) (ls' := [.ref 99, .int w6]) (st' := [.int (nI 3), .ref 99]) (E' := E) (I' := (u_I I 99 (upd (upd (I 99) 20 ((I 99) 16)) 16 (((I 99) 16) + (nI 1))))) (J' := J) (S' := S) am_e190 rfl rfl rfl rfl ?_
                    refine w_st (i' := 115) (ls' := [.ref 99, .int w6]) (st' := [.int (nI 3), .ref 99]) (E' := E) (I' := (u_I I 99 (upd (upd (I 99) 20 ((I 99) 16)) 16 (((I 99) 16) + (nI 1))))) (J' := J) (S' := S) am_e190 rfl rfl rfl rfl ?_
                    first | exact hm | (simp only [if_neg m17, if_pos m18] at hm; exact hm)
                  · have m18 : ¬ (w6 = (nI 44)) := (of_decide_eq_false c)
                    refine w_st (i' := 107) (ls' := [.ref 99, .int w6]) (st' := [.int w6, .ref 99]) (E' := E) (I' := (u_I I 99 (upd (upd (I 99) 20 ((I 99) 16)) 16 (((I 99) 16) + (nI 1))))) (J' := J) (S' := S) am_e190 rfl rfl rfl rfl ?_
                    refine w_st (i' := 108) (ls' := [.ref 99, .int w6]) (st' := [.int (nI 58), .int w6, .ref 99]) (E' := E) (I' := (u_I I 99 (upd (upd (I 99) 20 ((I 99) 16)) 16 (((I 99) 16) + (nI 1))))) (J' := J) (S' := S) am_e190 rfl rfl rfl rfl ?_
                    refine w_if2 am_e190 rfl rfl (fun c => ?_) (fun c => ?_)
                    · have m19 : w6 = (nI 58) := (of_decide_eq_true c)
                      refine w_st (i' := 113) (ls' := [.ref 99, .int w6]) (st' := [.int (nI 3), .ref 99]) (E' := E) (I' := (u_I I 99 (upd (upd (I 99) 20 ((I 99) 16)) 16 (((I 99) 16) + (nI 1))))) (J' := J) (S' := S) am_e190 rfl rfl rfl rfl ?_
                      refine w_st (i' := 115) (ls' := [.ref 99, .int w6]) (st' := [.int (nI 3), .ref 99]) (E' := E) (I' := (u_I I 99 (upd (upd (I 99) 20 ((I 99) 16)) 16 (((I 99) 16) + (nI 1))))) (J' := J) (S' := S) am_e190 rfl rfl rfl rfl ?_
                      first | exact hm | (simp only [if_neg m17, if_neg m18, if_pos m19] at hm; exact hm)
                    · have m19 : ¬ (w6 = (nI 58)) := (of_decide_eq_false c)
                      refine w_st (i' := 110) (ls' := [.ref 99, .int w6]) (st' := [.int w6, .ref 99]) (E' := E) (I' := (u_I I 99 (upd (upd (I 99) 20 ((I 99) 16)) 16 (((I 99) 16) + (nI 1))))) (J' := J) (S' := S) am_e190 rfl rfl rfl rfl ?_
                      refine w_st (i' := 111) (ls' := [.ref 99, .int w6]) (st' := [.int (nI 45), .int w6, .ref 99]) (E' := E) (I' := (u_I I 99 (upd (upd (I 99) 20 ((I 99) 16)) 16 (((I 99) 16) + (nI 1))))) (J' := J) (S' := S) am_e190 rfl rfl rfl rfl ?_
                      refine w_if2 am_e190 rfl rfl (fun c => ?_) (fun c => ?_)
                      · have m20 : ¬ (w6 = (nI 45)) := (of_decide_eq_true c)
                        refine w_st (i' := 115) (ls' := [.ref 99, .int w6]) (st' := [.int (nI 4), .ref 99]) (E' := E) (I' := (u_I I 99 (upd (upd (I 99) 20 ((I 99) 16)) 16 (((I 99) 16) + (nI 1))))) (J' := J) (S' := S) am_e190 rfl rfl rfl rfl ?_
                        first | exact hm | (simp only [if_neg m17, if_neg m18, if_neg m19, if_neg m20] at hm; exact hm)
                      · have m20 : w6 = (nI 45) := (Decidable.not_not.mp (of_decide_eq_false c))
                        refine w_st (i' := 113) (ls' := [.ref 99, .int w6]) (st' := [.int (nI 3), .ref 99]) (E' := E) (I' := (u_I I 99 (upd (upd (I 99) 20 ((I 99) 16)) 16 (((I 99) 16) + (nI 1))))) (J' := J) (S' := S) am_e190 rfl rfl rfl rfl ?_
                        refine w_st (i' := 115) (ls' := [.ref 99, .int w6]) (st' := [.int (nI 3), .ref 99]) (E' := E) (I' := (u_I I 99 (upd (upd (I 99) 20 ((I 99) 16)) 16 (((I 99) 16) + (nI 1))))) (J' := J) (S' := S) am_e190 rfl rfl rfl rfl ?_
                        first | exact hm | (simp only [if_neg m17, if_neg m18, if_neg m19, if_pos m20] at hm; exact hm)
              refine w_var (fun w21 => am_ww 190 115 [.ref 99, .int w6] [.int w21, .ref 99] E (u_I I 99 (upd (upd (I 99) 20 ((I 99) 16)) 16 (((I 99) 16) + (nI 1)))) J S _) (if w6 = (nI 59) then nI 3 else (if w6 = (nI 44) then nI 3 else (if w6 = (nI 58) then nI 3 else (if w6 = (nI 45) then nI 3 else nI 4)))) (fun w21 hw21 => ?_)
              replace h := h w21 hw21
              refine w_st (i' := 116) (ls' := [.ref 99, .int w6]) (st' := []) (E' := E) (I' := (u_I (u_I I 99 (upd (upd (I 99) 20 ((I 99) 16)) 16 (((I 99) 16) + (nI 1)))) 99 (upd (upd (upd (I 99) 20 ((I 99) 16)) 16 (((I 99) 16) + (nI 1))) 18 w21))) (J' := J) (S' := S) am_e190 rfl rfl rfl rfl ?_
              refine w_eI (uI_0 ..) ?_
              show am_ww 190 116 [.ref 99, .int w6] [] E (u_I I 99 (upd (upd (upd (I 99) 20 ((I 99) 16)) 16 (((I 99) 16) + (nI 1))) 18 w21)) J S _
              refine w_st (i' := 117) (ls' := [.ref 99, .int w6]) (st' := [.ref 99]) (E' := E) (I' := (u_I I 99 (upd (upd (upd (I 99) 20 ((I 99) 16)) 16 (((I 99) 16) + (nI 1))) 18 w21))) (J' := J) (S' := S) am_e190 rfl rfl rfl rfl ?_
              refine w_st (i' := 118) (ls' := [.ref 99, .int w6]) (st' := [.ref 99, .ref 99]) (E' := E) (I' := (u_I I 99 (upd (upd (upd (I 99) 20 ((I 99) 16)) 16 (((I 99) 16) + (nI 1))) 18 w21))) (J' := J) (S' := S) am_e190 rfl rfl rfl rfl ?_
              refine w_st (i' := 119) (ls' := [.ref 99, .int w6]) (st' := [.int (((I 99) 16) + (nI 1)), .ref 99]) (E' := E) (I' := (u_I I 99 (upd (upd (upd (I 99) 20 ((I 99) 16)) 16 (((I 99) 16) + (nI 1))) 18 w21))) (J' := J) (S' := S) am_e190 rfl rfl rfl rfl ?_
              refine w_st (i' := 120) (ls' := [.ref 99, .int w6]) (st' := []) (E' := E) (I' := (u_I (u_I I 99 (upd (upd (upd (I 99) 20 ((I 99) 16)) 16 (((I 99) 16) + (nI 1))) 18 w21)) 99 (upd (upd (upd (upd (I 99) 20 ((I 99) 16)) 16 (((I 99) 16) + (nI 1))) 18 w21) 21 (((I 99) 16) + (nI 1))))) (J' := J) (S' := S) am_e190 rfl rfl rfl rfl ?_
              refine w_eI (uI_0 ..) ?_
              show am_ww 190 120 [.ref 99, .int w6] [] E (u_I I 99 (upd (upd (upd (upd (I 99) 20 ((I 99) 16)) 16 (((I 99) 16) + (nI 1))) 18 w21) 21 (((I 99) 16) + (nI 1)))) J S _
              exact w_end am_e190 rfl rfl rfl h
            · replace h := h.2 (of_decide_eq_false c)
              refine w_st (i' := 4) (ls' := [.int w6]) (st' := [.int w6]) (E' := E) (I' := (u_I I 99 (upd (I 99) 20 ((I 99) 16)))) (J' := J) (S' := S) am_e193 rfl rfl rfl rfl ?_
              refine w_st (i' := 5) (ls' := [.int w6]) (st' := [.int (nI 57), .int w6]) (E' := E) (I' := (u_I I 99 (upd (I 99) 20 ((I 99) 16)))) (J' := J) (S' := S) am_e193 rfl rfl rfl rfl ?_
              refine w_if2 am_e193 rfl rfl (fun c => ?_) (fun c => ?_)
              · replace h := h.1 (of_decide_eq_true c)
                refine w_st (i' := 9) (ls' := [.int w6]) (st' := [.int (nI 0)]) (E' := E) (I' := (u_I I 99 (upd (I 99) 20 ((I 99) 16)))) (J' := J) (S' := S) am_e193 rfl rfl rfl rfl ?_
                refine w_end (E' := E) (I' := (u_I I 99 (upd (I 99) 20 ((I 99) 16)))) (J' := J) (S' := S) am_e193 rfl rfl rfl (q_mkI ?_)
                show am_ww 190 57 [.ref 99, .int w6] [.int (nI 0)] E (u_I I 99 (upd (I 99) 20 ((I 99) 16))) J S _
                refine w_st (i' := 93) (ls' := [.ref 99, .int w6]) (st' := []) (E' := E) (I' := (u_I I 99 (upd (I 99) 20 ((I 99) 16)))) (J' := J) (S' := S) am_e190 rfl rfl rfl rfl ?_
                refine w_st (i' := 94) (ls' := [.ref 99, .int w6]) (st' := [.ref 99]) (E' := E) (I' := (u_I I 99 (upd (I 99) 20 ((I 99) 16)))) (J' := J) (S' := S) am_e190 rfl rfl rfl rfl ?_
                refine w_st (i' := 95) (ls' := [.ref 99, .int w6]) (st' := [.ref 99, .ref 99]) (E' := E) (I' := (u_I I 99 (upd (I 99) 20 ((I 99) 16)))) (J' := J) (S' := S) am_e190 rfl rfl rfl rfl ?_
                refine w_st (i' := 96) (ls' := [.ref 99, .int w6]) (st' := [.int ((I 99) 16), .ref 99]) (E' := E) (I' := (u_I I 99 (upd (I 99) 20 ((I 99) 16)))) (J' := J) (S' := S) am_e190 rfl rfl rfl rfl ?_
                refine w_st (i' := 97) (ls' := [.ref 99, .int w6]) (st' := [.int (nI 1), .int ((I 99) 16), .ref 99]) (E' := E) (I' := (u_I I 99 (upd (I 99) 20 ((I 99) 16)))) (J' := J) (S' := S) am_e190 rfl rfl rfl rfl ?_
                refine w_st (i' := 98) (ls' := [.ref 99, .int w6]) (st' := [.int (((I 99) 16) + (nI 1)), .ref 99]) (E' := E) (I' := (u_I I 99 (upd (I 99) 20 ((I 99) 16)))) (J' := J) (S' := S) am_e190 rfl rfl rfl rfl ?_
                refine w_st (i' := 99) (ls' := [.ref 99, .int w6]) (st' := []) (E' := E) (I' := (u_I (u_I I 99 (upd (I 99) 20 ((I 99) 16))) 99 (upd (upd (I 99) 20 ((I 99) 16)) 16 (((I 99) 16) + (nI 1))))) (J' := J) (S' := S) am_e190 rfl rfl rfl rfl ?_
                refine w_eI (uI_0 ..) ?_
                show am_ww 190 99 [.ref 99, .int w6] [] E (u_I I 99 (upd (upd (I 99) 20 ((I 99) 16)) 16 (((I 99) 16) + (nI 1)))) J S _
                refine w_st (i' := 100) (ls' := [.ref 99, .int w6]) (st' := [.ref 99]) (E' := E) (I' := (u_I I 99 (upd (upd (I 99) 20 ((I 99) 16)) 16 (((I 99) 16) + (nI 1))))) (J' := J) (S' := S) am_e190 rfl rfl rfl rfl ?_
                refine w_st (i' := 101) (ls' := [.ref 99, .int w6]) (st' := [.int w6, .ref 99]) (E' := E) (I' := (u_I I 99 (upd (upd (I 99) 20 ((I 99) 16)) 16 (((I 99) 16) + (nI 1))))) (J' := J) (S' := S) am_e190 rfl rfl rfl rfl ?_
                refine w_st (i' := 102) (ls' := [.ref 99, .int w6]) (st' := [.int (nI 59), .int w6, .ref 99]) (E' := E) (I' := (u_I I 99 (upd (upd (I 99) 20 ((I 99) 16)) 16 (((I 99) 16) + (nI 1))))) (J' := J) (S' := S) am_e190 rfl rfl rfl rfl ?_
                refine w_mg (i := 115) (ls' := [.ref 99, .int w6]) (st' := [.int (if w6 = (nI 59) then nI 3 else (if w6 = (nI 44) then nI 3 else (if w6 = (nI 58) then nI 3 else (if w6 = (nI 45) then nI 3 else nI 4)))), .ref 99]) (fun hm => ?_) ?_
                · clear h
                  refine w_if2 am_e190 rfl rfl (fun c => ?_) (fun c => ?_)
                  · have m22 : w6 = (nI 59) := (of_decide_eq_true c)
                    refine w_st (i' := 113) (ls' := [.ref 99, .int w6]) (st' := [.int (nI 3), .ref 99]) (E' := E) (I' := (u_I I 99 (upd (upd (I 99) 20 ((I 99) 16)) 16 (((I 99) 16) + (nI 1))))) (J' := J) (S' := S) am_e190 rfl rfl rfl rfl ?_
                    refine w_st (i' := 115) (ls' := [.ref 99, .int w6]) (st' := [.int (nI 3), .ref 99]) (E' := E) (I' := (u_I I 99 (upd (upd (I 99) 20 ((I 99) 16)) 16 (((I 99) 16) + (nI 1))))) (J' := J) (S' := S) am_e190 rfl rfl rfl rfl ?_
                    first | exact hm | (simp only [if_pos m22] at hm; exact hm)
                  · have m22 : ¬ (w6 = (nI 59)) := (of_decide_eq_false c)
                    refine w_st (i' := 104) (ls' := [.ref 99, .int w6]) (st' := [.int w6, .ref 99]) (E' := E) (I' := (u_I I 99 (upd (upd (I 99) 20 ((I 99) 16)) 16 (((I 99) 16) + (nI 1))))) (J' := J) (S' := S) am_e190 rfl rfl rfl rfl ?_
                    refine w_st (i' := 105) (ls' := [.ref 99, .int w6]) (st' := [.int (nI 44), .int w6, .ref 99]) (E' := E) (I' := (u_I I 99 (upd (upd (I 99) 20 ((I 99) 16)) 16 (((I 99) 16) + (nI 1))))) (J' := J) (S' := S) am_e190 rfl rfl rfl rfl ?_
                    refine w_if2 am_e190 rfl rfl (fun c => ?_) (fun c => ?_)
                    · have m23 : w6 = (nI 44) := (of_decide_eq_true c)
                      refine w_st (i' := 113) (ls' := [.ref 99, .int w6]) (st' := [.int (nI 3), .ref 99]) (E' := E) (I' := (u_I I 99 (upd (upd (I 99) 20 ((I 99) 16)) 16 (((I 99) 16) + (nI 1))))) (J' := J) (S' := S) am_e190 rfl rfl rfl rfl ?_
                      refine w_st (i' := 115) (ls' := [.ref 99, .int w6]) (st' := [.int (nI 3), .ref 99]) (E' := E) (I' := (u_I I 99 (upd (upd (I 99) 20 ((I 99) 16)) 16 (((I 99) 16) + (nI 1))))) (J' := J) (S' := S) am_e190 rfl rfl rfl rfl ?_
                      first | exact hm | (simp only [if_neg m22, if_pos m23] at hm; exact hm)
                    · have m23 : ¬ (w6 = (nI 44)) := (of_decide_eq_false c)
                      refine w_st (i' := 107) (ls' := [.ref 99, .int w6]) (st' := [.int w6, .ref 99]) (E' := E) (I' := (u_I I 99 (upd (upd (I 99) 20 ((I 99) 16)) 16 (((I 99) 16) + (nI 1))))) (J' := J) (S' := S) am_e190 rfl rfl rfl rfl ?_
                      refine w_st (i' := 108) (ls' := [.ref 99, .int w6]) (st' := [.int (nI 58), .int w6, .ref 99]) (E' := E) (I' := (u_I I 99 (upd (upd (I 99) 20 ((I 99) 16)) 16 (((I 99) 16) + (nI 1))))) (J' := J) (S' := S) am_e190 rfl rfl rfl rfl ?_
                      refine w_if2 am_e190 rfl rfl (fun c => ?_) (fun c => ?_)
                      · have m24 : w6 = (nI 58) := (of_decide_eq_true c)
                        refine w_st (i' := 113) (ls' := [.ref 99, .int w6]) (st' := [.int (nI 3), .ref 99]) (E' := E) (I' := (u_I I 99 (upd (upd (I 99) 20 ((I 99) 16)) 16 (((I 99) 16) + (nI 1))))) (J' := J) (S' := S) am_e190 rfl rfl rfl rfl ?_
                        refine w_st (i' := 115) (ls' := [.ref 99, .int w6]) (st' := [.int (nI 3), .ref 99]) (E' := E) (I' := (u_I I 99 (upd (upd (I 99) 20 ((I 99) 16)) 16 (((I 99) 16) + (nI 1))))) (J' := J) (S' := S) am_e190 rfl rfl rfl rfl ?_
                        first | exact hm | (simp only [if_neg m22, if_neg m23, if_pos m24] at hm; exact hm)
                      · have m24 : ¬ (w6 = (nI 58)) := (of_decide_eq_false c)
                        refine w_st (i' := 110) (ls' := [.ref 99, .int w6]) (st' := [.int w6, .ref 99]) (E' := E) (I' := (u_I I 99 (upd (upd (I 99) 20 ((I 99) 16)) 16 (((I 99) 16) + (nI 1))))) (J' := J) (S' := S) am_e190 rfl rfl rfl rfl ?_
                        refine w_st (i' := 111) (ls' := [.ref 99, .int w6]) (st' := [.int (nI 45), .int w6, .ref 99]) (E' := E) (I' := (u_I I 99 (upd (upd (I 99) 20 ((I 99) 16)) 16 (((I 99) 16) + (nI 1))))) (J' := J) (S' := S) am_e190 rfl rfl rfl rfl ?_
                        refine w_if2 am_e190 rfl rfl (fun c => ?_) (fun c => ?_)
                        · have m25 : ¬ (w6 = (nI 45)) := (of_decide_eq_true c)
                          refine w_st (i' := 115) (ls' := [.ref 99, .int w6]) (st' := [.int (nI 4), .ref 99]) (E' := E) (I' := (u_I I 99 (upd (upd (I 99) 20 ((I 99) 16)) 16 (((I 99) 16) + (nI 1))))) (J' := J) (S' := S) am_e190 rfl rfl rfl rfl ?_
                          first | exact hm | (simp only [if_neg m22, if_neg m23, if_neg m24, if_neg m25] at hm; exact hm)
                        · have m25 : w6 = (nI 45) := (Decidable.not_not.mp (of_decide_eq_false c))
                          refine w_st (i' := 113) (ls' := [.ref 99, .int w6]) (st' := [.int (nI 3), .ref 99]) (E' := E) (I' := (u_I I 99 (upd (upd (I 99) 20 ((I 99) 16)) 16 (((I 99) 16) + (nI 1))))) (J' := J) (S' := S) am_e190 rfl rfl rfl rfl ?_
                          refine w_st (i' := 115) (ls' := [.ref 99, .int w6]) (st' := [.int (nI 3), .ref 99]) (E' := E) (I' := (u_I I 99 (upd (upd (I 99) 20 ((I 99) 16)) 16 (((I 99) 16) + (nI 1))))) (J' := J) (S' := S) am_e190 rfl rfl rfl rfl ?_
                          first | exact hm | (simp only [if_neg m22, if_neg m23, if_neg m24, if_pos m25] at hm; exact hm)
                refine w_var (fun w26 => am_ww 190 115 [.ref 99, .int w6] [.int w26, .ref 99] E (u_I I 99 (upd (upd (I 99) 20 ((I 99) 16)) 16 (((I 99) 16) + (nI 1)))) J S _) (if w6 = (nI 59) then nI 3 else (if w6 = (nI 44) then nI 3 else (if w6 = (nI 58) then nI 3 else (if w6 = (nI 45) then nI 3 else nI 4)))) (fun w26 hw26 => ?_)
                replace h := h w26 hw26
                refine w_st (i' := 116) (ls' := [.ref 99, .int w6]) (st' := []) (E' := E) (I' := (u_I (u_I I 99 (upd (upd (I 99) 20 ((I 99) 16)) 16 (((I 99) 16) + (nI 1)))) 99 (upd (upd (upd (I 99) 20 ((I 99) 16)) 16 (((I 99) 16) + (nI 1))) 18 w26))) (J' := J) (S' := S) am_e190 rfl rfl rfl rfl ?_
                refine w_eI (uI_0 ..) ?_
                show am_ww 190 116 [.ref 99, .int w6] [] E (u_I I 99 (upd (upd (upd (I 99) 20 ((I 99) 16)) 16 (((I 99) 16) + (nI 1))) 18 w26)) J S _
                refine w_st (i' := 117) (ls' := [.ref 99, .int w6]) (st' := [.ref 99]) (E' := E) (I' := (u_I I 99 (upd (upd (upd (I 99) 20 ((I 99) 16)) 16 (((I 99) 16) + (nI 1))) 18 w26))) (J' := J) (S' := S) am_e190 rfl rfl rfl rfl ?_
                refine w_st (i' := 118) (ls' := [.ref 99, .int w6]) (st' := [.ref 99, .ref 99]) (E' := E) (I' := (u_I I 99 (upd (upd (upd (I 99) 20 ((I 99) 16)) 16 (((I 99) 16) + (nI 1))) 18 w26))) (J' := J) (S' := S) am_e190 rfl rfl rfl rfl ?_
                refine w_st (i' := 119) (ls' := [.ref 99, .int w6]) (st' := [.int (((I 99) 16) + (nI 1)), .ref 99]) (E' := E) (I' := (u_I I 99 (upd (upd (upd (I 99) 20 ((I 99) 16)) 16 (((I 99) 16) + (nI 1))) 18 w26))) (J' := J) (S' := S) am_e190 rfl rfl rfl rfl ?_
                refine w_st (i' := 120) (ls' := [.ref 99, .int w6]) (st' := []) (E' := E) (I' := (u_I (u_I I 99 (upd (upd (upd (I 99) 20 ((I 99) 16)) 16 (((I 99) 16) + (nI 1))) 18 w26)) 99 (upd (upd (upd (upd (I 99) 20 ((I 99) 16)) 16 (((I 99) 16) + (nI 1))) 18 w26) 21 (((I 99) 16) + (nI 1))))) (J' := J) (S' := S) am_e190 rfl rfl rfl rfl ?_
                refine w_eI (uI_0 ..) ?_
                show am_ww 190 120 [.ref 99, .int w6] [] E (u_I I 99 (upd (upd (upd (upd (I 99) 20 ((I 99) 16)) 16 (((I 99) 16) + (nI 1))) 18 w26) 21 (((I 99) 16) + (nI 1)))) J S _
                exact w_end am_e190 rfl rfl rfl h
              · replace h := h.2 (of_decide_eq_false c)
                refine w_st (i' := 7) (ls' := [.int w6]) (st' := [.int (nI 1)]) (E' := E) (I' := (u_I I 99 (upd (I 99) 20 ((I 99) 16)))) (J' := J) (S' := S) am_e193 rfl rfl rfl rfl ?_
                refine w_st (i' := 9) (ls' := [.int w6]) (st' := [.int (nI 1)]) (E' := E) (I' := (u_I I 99 (upd (I 99) 20 ((I 99) 16)))) (J' := J) (S' := S) am_e193 rfl rfl rfl rfl ?_
                refine w_end (E' := E) (I' := (u_I I 99 (upd (I 99) 20 ((I 99) 16)))) (J' := J) (S' := S) am_e193 rfl rfl rfl (q_mkI ?_)
                show am_ww 190 57 [.ref 99, .int w6] [.int (nI 1)] E (u_I I 99 (upd (I 99) 20 ((I 99) 16))) J S _
                refine w_st (i' := 58) (ls' := [.ref 99, .int w6]) (st' := []) (E' := E) (I' := (u_I I 99 (upd (I 99) 20 ((I 99) 16)))) (J' := J) (S' := S) am_e190 rfl rfl rfl rfl ?_
                refine w_st (i' := 59) (ls' := [.ref 99, .int w6]) (st' := [.ref 99]) (E' := E) (I' := (u_I I 99 (upd (I 99) 20 ((I 99) 16)))) (J' := J) (S' := S) am_e190 rfl rfl rfl rfl ?_
                refine w_st (i' := 60) (ls' := [.ref 99, .int w6]) (st' := [.int (nI 0), .ref 99]) (E' := E) (I' := (u_I I 99 (upd (I 99) 20 ((I 99) 16)))) (J' := J) (S' := S) am_e190 rfl rfl rfl rfl ?_
                refine w_st (i' := 61) (ls' := [.ref 99, .int w6]) (st' := []) (E' := E) (I' := (u_I (u_I I 99 (upd (I 99) 20 ((I 99) 16))) 99 (upd (upd (I 99) 20 ((I 99) 16)) 19 (nI 0)))) (J' := J) (S' := S) am_e190 rfl rfl rfl rfl ?_
                refine w_eI (uI_0 ..) ?_
                show am_ww 190 61 [.ref 99, .int w6] [] E (u_I I 99 (upd (upd (I 99) 20 ((I 99) 16)) 19 (nI 0))) J S _
                exact h
          · replace h := h.2 (of_decide_eq_false c)
            refine w_st (i' := 7) (ls' := [.int w6]) (st' := [.int (nI 1)]) (E' := E) (I' := (u_I I 99 (upd (I 99) 20 ((I 99) 16)))) (J' := J) (S' := S) am_e192 rfl rfl rfl rfl ?_
            refine w_st (i' := 9) (ls' := [.int w6]) (st' := [.int (nI 1)]) (E' := E) (I' := (u_I I 99 (upd (I 99) 20 ((I 99) 16)))) (J' := J) (S' := S) am_e192 rfl rfl rfl rfl ?_
            refine w_end (E' := E) (I' := (u_I I 99 (upd (I 99) 20 ((I 99) 16)))) (J' := J) (S' := S) am_e192 rfl rfl rfl (q_mkI ?_)
            show am_ww 190 37 [.ref 99, .int w6] [.int (nI 1)] E (u_I I 99 (upd (I 99) 20 ((I 99) 16))) J S _
            refine w_st (i' := 38) (ls' := [.ref 99, .int w6]) (st' := []) (E' := E) (I' := (u_I I 99 (upd (I 99) 20 ((I 99) 16)))) (J' := J) (S' := S) am_e190 rfl rfl rfl rfl ?_
            exact h
      · replace h := h.1 (Decidable.not_not.mp (of_decide_eq_false c))
        refine w_st (i' := 32) (ls' := [.ref 99, .int w6]) (st' := [.ref 99]) (E' := E) (I' := (u_I I 99 (upd (I 99) 20 ((I 99) 16)))) (J' := J) (S' := S) am_e190 rfl rfl rfl rfl ?_
        refine w_st (i' := 33) (ls' := [.ref 99, .int w6]) (st' := [.int (nI 0), .ref 99]) (E' := E) (I' := (u_I I 99 (upd (I 99) 20 ((I 99) 16)))) (J' := J) (S' := S) am_e190 rfl rfl rfl rfl ?_
        refine w_st (i' := 34) (ls' := [.ref 99, .int w6]) (st' := []) (E' := E) (I' := (u_I (u_I I 99 (upd (I 99) 20 ((I 99) 16))) 99 (upd (upd (I 99) 20 ((I 99) 16)) 18 (nI 0)))) (J' := J) (S' := S) am_e190 rfl rfl rfl rfl ?_
        refine w_eI (uI_0 ..) ?_
        show am_ww 190 34 [.ref 99, .int w6] [] E (u_I I 99 (upd (upd (I 99) 20 ((I 99) 16)) 18 (nI 0))) J S _
        refine w_st (i' := 116) (ls' := [.ref 99, .int w6]) (st' := []) (E' := E) (I' := (u_I I 99 (upd (upd (I 99) 20 ((I 99) 16)) 18 (nI 0)))) (J' := J) (S' := S) am_e190 rfl rfl rfl rfl ?_
        refine w_st (i' := 117) (ls' := [.ref 99, .int w6]) (st' := [.ref 99]) (E' := E) (I' := (u_I I 99 (upd (upd (I 99) 20 ((I 99) 16)) 18 (nI 0)))) (J' := J) (S' := S) am_e190 rfl rfl rfl rfl ?_
        refine w_st (i' := 118) (ls' := [.ref 99, .int w6]) (st' := [.ref 99, .ref 99]) (E' := E) (I' := (u_I I 99 (upd (upd (I 99) 20 ((I 99) 16)) 18 (nI 0)))) (J' := J) (S' := S) am_e190 rfl rfl rfl rfl ?_
        refine w_st (i' := 119) (ls' := [.ref 99, .int w6]) (st' := [.int ((I 99) 16), .ref 99]) (E' := E) (I' := (u_I I 99 (upd (upd (I 99) 20 ((I 99) 16)) 18 (nI 0)))) (J' := J) (S' := S) am_e190 rfl rfl rfl rfl ?_
        refine w_st (i' := 120) (ls' := [.ref 99, .int w6]) (st' := []) (E' := E) (I' := (u_I (u_I I 99 (upd (upd (I 99) 20 ((I 99) 16)) 18 (nI 0))) 99 (upd (upd (upd (I 99) 20 ((I 99) 16)) 18 (nI 0)) 21 ((I 99) 16)))) (J' := J) (S' := S) am_e190 rfl rfl rfl rfl ?_
        refine w_eI (uI_0 ..) ?_
        show am_ww 190 120 [.ref 99, .int w6] [] E (u_I I 99 (upd (upd (upd (I 99) 20 ((I 99) 16)) 18 (nI 0)) 21 ((I 99) 16))) J S _
        exact w_end am_e190 rfl rfl rfl h
    · replace h := h.1 (Decidable.not_not.mp (of_decide_eq_false c))
      refine w_st (i' := 13) (ls' := [.ref 99, am_U]) (st' := [.ref 99]) (E' := E) (I' := I) (J' := J) (S' := S) am_e190 rfl rfl rfl rfl ?_
      refine w_st (i' := 14) (ls' := [.ref 99, am_U]) (st' := [.ref 99, .ref 99]) (E' := E) (I' := I) (J' := J) (S' := S) am_e190 rfl rfl rfl rfl ?_
      refine w_st (i' := 15) (ls' := [.ref 99, am_U]) (st' := [.int ((I 99) 16), .ref 99]) (E' := E) (I' := I) (J' := J) (S' := S) am_e190 rfl rfl rfl rfl ?_
      refine w_st (i' := 16) (ls' := [.ref 99, am_U]) (st' := [.int (nI 1), .int ((I 99) 16), .ref 99]) (E' := E) (I' := I) (J' := J) (S' := S) am_e190 rfl rfl rfl rfl ?_
      refine w_st (i' := 17) (ls' := [.ref 99, am_U]) (st' := [.int (((I 99) 16) + (nI 1)), .ref 99]) (E' := E) (I' := I) (J' := J) (S' := S) am_e190 rfl rfl rfl rfl ?_
      refine w_st (i' := 18) (ls' := [.ref 99, am_U]) (st' := []) (E' := E) (I' := (u_I I 99 (upd (I 99) 16 (((I 99) 16) + (nI 1))))) (J' := J) (S' := S) am_e190 rfl rfl rfl rfl ?_
      refine w_st (i' := 0) (ls' := [.ref 99, am_U]) (st' := []) (E' := E) (I' := (u_I I 99 (upd (I 99) 16 (((I 99) 16) + (nI 1))))) (J' := J) (S' := S) am_e190 rfl rfl rfl rfl ?_
      exact h
theorem g190_61 {d1 : Value} {E : am_Ev} {I : Nat → Nat → Int32} {J : Nat → Nat → Int64} {S : Nat → Nat → Option Nat} {Q : am_Qt} (hd1 : am_isL d1 = false) (h : ((((I 99) 17) ≤ ((I 99) 16) → (True)) ∧ (¬ ((I 99) 17) ≤ ((I 99) 16) → (vp_in ((I 99) 16) 700 ∧ True))) ∧ (∀ w2 : Int32, w2 = (if ((I 99) 17) ≤ ((I 99) 16) then (-1) else ((I 111) (((I 99) 16).toNatClampNeg))) → ((w2 < (nI 48) → (Q (.inl none) E (u_I I 99 (upd (upd (I 99) 18 (nI 2)) 21 ((I 99) 16))) J S)) ∧ (¬ w2 < (nI 48) → (((nI 57) < w2 → (Q (.inl none) E (u_I I 99 (upd (upd (I 99) 18 (nI 2)) 21 ((I 99) 16))) J S)) ∧ (¬ (nI 57) < w2 → (((((I 99) 17) ≤ ((I 99) 16) → (True)) ∧ (¬ ((I 99) 17) ≤ ((I 99) 16) → (vp_in ((I 99) 16) 700 ∧ True))) ∧ (∀ w4 : Int32, w4 = (if ((I 99) 17) ≤ ((I 99) 16) then (-1) else ((I 111) (((I 99) 16).toNatClampNeg))) → (am_ww 190 61 [.ref 99, d1] [] E (u_I I 99 (upd (upd (I 99) 19 (if ((((nI 10) * ((I 99) 19)) + w4) - (nI 48)) < (nI 100000) then ((((nI 10) * ((I 99) 19)) + w4) - (nI 48)) else (nI 100000))) 16 (((I 99) 16) + (nI 1)))) J S Q))))))))) : am_ww 190 61 [.ref 99, d1] [] E I J S Q := by
  refine w_st (i' := 62) (ls' := [.ref 99, d1]) (st' := [.ref 99]) (E' := E) (I' := I) (J' := J) (S' := S) am_e190 rfl rfl rfl rfl ?_
  refine w_st (i' := 63) (ls' := [.ref 99, d1]) (st' := [.ref 99, .ref 99]) (E' := E) (I' := I) (J' := J) (S' := S) am_e190 rfl rfl rfl rfl ?_
  refine w_st (i' := 64) (ls' := [.ref 99, d1]) (st' := [.int ((I 99) 16), .ref 99]) (E' := E) (I' := I) (J' := J) (S' := S) am_e190 rfl rfl rfl rfl ?_
  refine w_cI am_e190 rfl rfl (as := [.ref 99, .int ((I 99) 16)]) (rest := []) rfl rfl ?_
  show am_ww 191 0 [.ref 99, .int ((I 99) 16)] [] E I J S _
  refine w_st (i' := 1) (ls' := [.ref 99, .int ((I 99) 16)]) (st' := [.int ((I 99) 16)]) (E' := E) (I' := I) (J' := J) (S' := S) am_e191 rfl rfl rfl rfl ?_
  refine w_st (i' := 2) (ls' := [.ref 99, .int ((I 99) 16)]) (st' := [.ref 99, .int ((I 99) 16)]) (E' := E) (I' := I) (J' := J) (S' := S) am_e191 rfl rfl rfl rfl ?_
  refine w_st (i' := 3) (ls' := [.ref 99, .int ((I 99) 16)]) (st' := [.int ((I 99) 17), .int ((I 99) 16)]) (E' := E) (I' := I) (J' := J) (S' := S) am_e191 rfl rfl rfl rfl ?_
  refine w_mg (i := 10) (ls' := [.ref 99, .int ((I 99) 16)]) (st' := [.int (if ((I 99) 17) ≤ ((I 99) 16) then (-1) else ((I 111) (((I 99) 16).toNatClampNeg)))]) (fun hm => ?_) ?_
  · replace h := h.1
    refine w_if2 am_e191 rfl rfl (fun c => ?_) (fun c => ?_)
    · have m1 : ((I 99) 17) ≤ ((I 99) 16) := (of_decide_eq_true c)
      replace h := h.1 m1
      refine w_st (i' := 10) (ls' := [.ref 99, .int ((I 99) 16)]) (st' := [.int (-1)]) (E' := E) (I' := I) (J' := J) (S' := S) am_e191 rfl rfl rfl rfl ?_
      first | exact hm | (simp only [if_pos m1] at hm; exact hm)
    · have m1 : ¬ (((I 99) 17) ≤ ((I 99) 16)) := (of_decide_eq_false c)
      replace h := h.2 m1
      refine w_st (i' := 5) (ls' := [.ref 99, .int ((I 99) 16)]) (st' := [.ref 99]) (E' := E) (I' := I) (J' := J) (S' := S) am_e191 rfl rfl rfl rfl ?_
      refine w_st (i' := 6) (ls' := [.ref 99, .int ((I 99) 16)]) (st' := [.ref 111]) (E' := E) (I' := I) (J' := J) (S' := S) am_e191 rfl rfl rfl rfl ?_
      refine w_st (i' := 7) (ls' := [.ref 99, .int ((I 99) 16)]) (st' := [.int ((I 99) 16), .ref 111]) (E' := E) (I' := I) (J' := J) (S' := S) am_e191 rfl rfl rfl rfl ?_
      refine w_ia (k := 111) (n := 700) (jn := ((I 99) 16).toNatClampNeg) am_e191 rfl rfl (by decide) h.1 rfl ?_
      replace h := h.2
      show am_ww 191 8 [.ref 99, .int ((I 99) 16)] [.int ((I 111) (((I 99) 16).toNatClampNeg))] E I J S _
      refine w_st (i' := 10) (ls' := [.ref 99, .int ((I 99) 16)]) (st' := [.int ((I 111) (((I 99) 16).toNatClampNeg))]) (E' := E) (I' := I) (J' := J) (S' := S) am_e191 rfl rfl rfl rfl ?_
      first | exact hm | (simp only [if_neg m1] at hm; exact hm)
  replace h := h.2
  refine w_var (fun w2 => am_ww 191 10 [.ref 99, .int ((I 99) 16)] [.int w2] E I J S _) (if ((I 99) 17) ≤ ((I 99) 16) then (-1) else ((I 111) (((I 99) 16).toNatClampNeg))) (fun w2 hw2 => ?_)
  replace h := h w2 hw2
  refine w_ri am_e191 rfl rfl (q_mkI ?_)
  show am_ww 190 65 [.ref 99, d1] [.int w2] E I J S _
  refine w_cI am_e190 rfl rfl (as := [.int w2]) (rest := []) rfl rfl ?_
  show am_ww 193 0 [.int w2] [] E I J S _
  refine w_st (i' := 1) (ls' := [.int w2]) (st' := [.int w2]) (E' := E) (I' := I) (J' := J) (S' := S) am_e193 rfl rfl rfl rfl ?_
  refine w_st (i' := 2) (ls' := [.int w2]) (st' := [.int (nI 48), .int w2]) (E' := E) (I' := I) (J' := J) (S' := S) am_e193 rfl rfl rfl rfl ?_
  refine w_if2 am_e193 rfl rfl (fun c => ?_) (fun c => ?_)
  · replace h := h.1 (of_decide_eq_true c)
    refine w_st (i' := 9) (ls' := [.int w2]) (st' := [.int (nI 0)]) (E' := E) (I' := I) (J' := J) (S' := S) am_e193 rfl rfl rfl rfl ?_
    refine w_end (E' := E) (I' := I) (J' := J) (S' := S) am_e193 rfl rfl rfl (q_mkI ?_)
    show am_ww 190 66 [.ref 99, d1] [.int (nI 0)] E I J S _
    refine w_st (i' := 89) (ls' := [.ref 99, d1]) (st' := []) (E' := E) (I' := I) (J' := J) (S' := S) am_e190 rfl rfl rfl rfl ?_
    refine w_st (i' := 90) (ls' := [.ref 99, d1]) (st' := [.ref 99]) (E' := E) (I' := I) (J' := J) (S' := S) am_e190 rfl rfl rfl rfl ?_
    refine w_st (i' := 91) (ls' := [.ref 99, d1]) (st' := [.int (nI 2), .ref 99]) (E' := E) (I' := I) (J' := J) (S' := S) am_e190 rfl rfl rfl rfl ?_
    refine w_st (i' := 92) (ls' := [.ref 99, d1]) (st' := []) (E' := E) (I' := (u_I I 99 (upd (I 99) 18 (nI 2)))) (J' := J) (S' := S) am_e190 rfl rfl rfl rfl ?_
    refine w_st (i' := 116) (ls' := [.ref 99, d1]) (st' := []) (E' := E) (I' := (u_I I 99 (upd (I 99) 18 (nI 2)))) (J' := J) (S' := S) am_e190 rfl rfl rfl rfl ?_
    refine w_st (i' := 117) (ls' := [.ref 99, d1]) (st' := [.ref 99]) (E' := E) (I' := (u_I I 99 (upd (I 99) 18 (nI 2)))) (J' := J) (S' := S) am_e190 rfl rfl rfl rfl ?_
    refine w_st (i' := 118) (ls' := [.ref 99, d1]) (st' := [.ref 99, .ref 99]) (E' := E) (I' := (u_I I 99 (upd (I 99) 18 (nI 2)))) (J' := J) (S' := S) am_e190 rfl rfl rfl rfl ?_
    refine w_st (i' := 119) (ls' := [.ref 99, d1]) (st' := [.int ((I 99) 16), .ref 99]) (E' := E) (I' := (u_I I 99 (upd (I 99) 18 (nI 2)))) (J' := J) (S' := S) am_e190 rfl rfl rfl rfl ?_
    refine w_st (i' := 120) (ls' := [.ref 99, d1]) (st' := []) (E' := E) (I' := (u_I (u_I I 99 (upd (I 99) 18 (nI 2))) 99 (upd (upd (I 99) 18 (nI 2)) 21 ((I 99) 16)))) (J' := J) (S' := S) am_e190 rfl rfl rfl rfl ?_
    refine w_eI (uI_0 ..) ?_
    show am_ww 190 120 [.ref 99, d1] [] E (u_I I 99 (upd (upd (I 99) 18 (nI 2)) 21 ((I 99) 16))) J S _
    exact w_end am_e190 rfl rfl rfl h
  · replace h := h.2 (of_decide_eq_false c)
    refine w_st (i' := 4) (ls' := [.int w2]) (st' := [.int w2]) (E' := E) (I' := I) (J' := J) (S' := S) am_e193 rfl rfl rfl rfl ?_
    refine w_st (i' := 5) (ls' := [.int w2]) (st' := [.int (nI 57), .int w2]) (E' := E) (I' := I) (J' := J) (S' := S) am_e193 rfl rfl rfl rfl ?_
    refine w_if2 am_e193 rfl rfl (fun c => ?_) (fun c => ?_)
    · replace h := h.1 (of_decide_eq_true c)
      refine w_st (i' := 9) (ls' := [.int w2]) (st' := [.int (nI 0)]) (E' := E) (I' := I) (J' := J) (S' := S) am_e193 rfl rfl rfl rfl ?_
      refine w_end (E' := E) (I' := I) (J' := J) (S' := S) am_e193 rfl rfl rfl (q_mkI ?_)
      show am_ww 190 66 [.ref 99, d1] [.int (nI 0)] E I J S _
      refine w_st (i' := 89) (ls' := [.ref 99, d1]) (st' := []) (E' := E) (I' := I) (J' := J) (S' := S) am_e190 rfl rfl rfl rfl ?_
      refine w_st (i' := 90) (ls' := [.ref 99, d1]) (st' := [.ref 99]) (E' := E) (I' := I) (J' := J) (S' := S) am_e190 rfl rfl rfl rfl ?_
      refine w_st (i' := 91) (ls' := [.ref 99, d1]) (st' := [.int (nI 2), .ref 99]) (E' := E) (I' := I) (J' := J) (S' := S) am_e190 rfl rfl rfl rfl ?_
      refine w_st (i' := 92) (ls' := [.ref 99, d1]) (st' := []) (E' := E) (I' := (u_I I 99 (upd (I 99) 18 (nI 2)))) (J' := J) (S' := S) am_e190 rfl rfl rfl rfl ?_
      refine w_st (i' := 116) (ls' := [.ref 99, d1]) (st' := []) (E' := E) (I' := (u_I I 99 (upd (I 99) 18 (nI 2)))) (J' := J) (S' := S) am_e190 rfl rfl rfl rfl ?_
      refine w_st (i' := 117) (ls' := [.ref 99, d1]) (st' := [.ref 99]) (E' := E) (I' := (u_I I 99 (upd (I 99) 18 (nI 2)))) (J' := J) (S' := S) am_e190 rfl rfl rfl rfl ?_
      refine w_st (i' := 118) (ls' := [.ref 99, d1]) (st' := [.ref 99, .ref 99]) (E' := E) (I' := (u_I I 99 (upd (I 99) 18 (nI 2)))) (J' := J) (S' := S) am_e190 rfl rfl rfl rfl ?_
      refine w_st (i' := 119) (ls' := [.ref 99, d1]) (st' := [.int ((I 99) 16), .ref 99]) (E' := E) (I' := (u_I I 99 (upd (I 99) 18 (nI 2)))) (J' := J) (S' := S) am_e190 rfl rfl rfl rfl ?_
      refine w_st (i' := 120) (ls' := [.ref 99, d1]) (st' := []) (E' := E) (I' := (u_I (u_I I 99 (upd (I 99) 18 (nI 2))) 99 (upd (upd (I 99) 18 (nI 2)) 21 ((I 99) 16)))) (J' := J) (S' := S) am_e190 rfl rfl rfl rfl ?_
      refine w_eI (uI_0 ..) ?_
      show am_ww 190 120 [.ref 99, d1] [] E (u_I I 99 (upd (upd (I 99) 18 (nI 2)) 21 ((I 99) 16))) J S _
      exact w_end am_e190 rfl rfl rfl h
    · replace h := h.2 (of_decide_eq_false c)
      refine w_st (i' := 7) (ls' := [.int w2]) (st' := [.int (nI 1)]) (E' := E) (I' := I) (J' := J) (S' := S) am_e193 rfl rfl rfl rfl ?_
      refine w_st (i' := 9) (ls' := [.int w2]) (st' := [.int (nI 1)]) (E' := E) (I' := I) (J' := J) (S' := S) am_e193 rfl rfl rfl rfl ?_
      refine w_end (E' := E) (I' := I) (J' := J) (S' := S) am_e193 rfl rfl rfl (q_mkI ?_)
      show am_ww 190 66 [.ref 99, d1] [.int (nI 1)] E I J S _
      refine w_st (i' := 67) (ls' := [.ref 99, d1]) (st' := []) (E' := E) (I' := I) (J' := J) (S' := S) am_e190 rfl rfl rfl rfl ?_
      refine w_st (i' := 68) (ls' := [.ref 99, d1]) (st' := [.ref 99]) (E' := E) (I' := I) (J' := J) (S' := S) am_e190 rfl rfl rfl rfl ?_
      refine w_st (i' := 69) (ls' := [.ref 99, d1]) (st' := [.int (nI 100000), .ref 99]) (E' := E) (I' := I) (J' := J) (S' := S) am_e190 rfl rfl rfl rfl ?_
      refine w_st (i' := 70) (ls' := [.ref 99, d1]) (st' := [.int (nI 10), .int (nI 100000), .ref 99]) (E' := E) (I' := I) (J' := J) (S' := S) am_e190 rfl rfl rfl rfl ?_
      refine w_st (i' := 71) (ls' := [.ref 99, d1]) (st' := [.ref 99, .int (nI 10), .int (nI 100000), .ref 99]) (E' := E) (I' := I) (J' := J) (S' := S) am_e190 rfl rfl rfl rfl ?_
      refine w_st (i' := 72) (ls' := [.ref 99, d1]) (st' := [.int ((I 99) 19), .int (nI 10), .int (nI 100000), .ref 99]) (E' := E) (I' := I) (J' := J) (S' := S) am_e190 rfl rfl rfl rfl ?_
      refine w_st (i' := 73) (ls' := [.ref 99, d1]) (st' := [.int ((nI 10) * ((I 99) 19)), .int (nI 100000), .ref 99]) (E' := E) (I' := I) (J' := J) (S' := S) am_e190 rfl rfl rfl rfl ?_
      refine w_st (i' := 74) (ls' := [.ref 99, d1]) (st' := [.ref 99, .int ((nI 10) * ((I 99) 19)), .int (nI 100000), .ref 99]) (E' := E) (I' := I) (J' := J) (S' := S) am_e190 rfl rfl rfl rfl ?_
      refine w_st (i' := 75) (ls' := [.ref 99, d1]) (st' := [.ref 99, .ref 99, .int ((nI 10) * ((I 99) 19)), .int (nI 100000), .ref 99]) (E' := E) (I' := I) (J' := J) (S' := S) am_e190 rfl rfl rfl rfl ?_
      refine w_st (i' := 76) (ls' := [.ref 99, d1]) (st' := [.int ((I 99) 16), .ref 99, .int ((nI 10) * ((I 99) 19)), .int (nI 100000), .ref 99]) (E' := E) (I' := I) (J' := J) (S' := S) am_e190 rfl rfl rfl rfl ?_
      refine w_cI am_e190 rfl rfl (as := [.ref 99, .int ((I 99) 16)]) (rest := [.int ((nI 10) * ((I 99) 19)), .int (nI 100000), .ref 99]) rfl rfl ?_
      show am_ww 191 0 [.ref 99, .int ((I 99) 16)] [] E I J S _
      refine w_st (i' := 1) (ls' := [.ref 99, .int ((I 99) 16)]) (st' := [.int ((I 99) 16)]) (E' := E) (I' := I) (J' := J) (S' := S) am_e191 rfl rfl rfl rfl ?_
      refine w_st (i' := 2) (ls' := [.ref 99, .int ((I 99) 16)]) (st' := [.ref 99, .int ((I 99) 16)]) (E' := E) (I' := I) (J' := J) (S' := S) am_e191 rfl rfl rfl rfl ?_
      refine w_st (i' := 3) (ls' := [.ref 99, .int ((I 99) 16)]) (st' := [.int ((I 99) 17), .int ((I 99) 16)]) (E' := E) (I' := I) (J' := J) (S' := S) am_e191 rfl rfl rfl rfl ?_
      refine w_mg (i := 10) (ls' := [.ref 99, .int ((I 99) 16)]) (st' := [.int (if ((I 99) 17) ≤ ((I 99) 16) then (-1) else ((I 111) (((I 99) 16).toNatClampNeg)))]) (fun hm => ?_) ?_
      · replace h := h.1
        refine w_if2 am_e191 rfl rfl (fun c => ?_) (fun c => ?_)
        · have m3 : ((I 99) 17) ≤ ((I 99) 16) := (of_decide_eq_true c)
          replace h := h.1 m3
          refine w_st (i' := 10) (ls' := [.ref 99, .int ((I 99) 16)]) (st' := [.int (-1)]) (E' := E) (I' := I) (J' := J) (S' := S) am_e191 rfl rfl rfl rfl ?_
          first | exact hm | (simp only [if_pos m3] at hm; exact hm)
        · have m3 : ¬ (((I 99) 17) ≤ ((I 99) 16)) := (of_decide_eq_false c)
          replace h := h.2 m3
          refine w_st (i' := 5) (ls' := [.ref 99, .int ((I 99) 16)]) (st' := [.ref 99]) (E' := E) (I' := I) (J' := J) (S' := S) am_e191 rfl rfl rfl rfl ?_
          refine w_st (i' := 6) (ls' := [.ref 99, .int ((I 99) 16)]) (st' := [.ref 111]) (E' := E) (I' := I) (J' := J) (S' := S) am_e191 rfl rfl rfl rfl ?_
          refine w_st (i' := 7) (ls' := [.ref 99, .int ((I 99) 16)]) (st' := [.int ((I 99) 16), .ref 111]) (E' := E) (I' := I) (J' := J) (S' := S) am_e191 rfl rfl rfl rfl ?_
          refine w_ia (k := 111) (n := 700) (jn := ((I 99) 16).toNatClampNeg) am_e191 rfl rfl (by decide) h.1 rfl ?_
          replace h := h.2
          show am_ww 191 8 [.ref 99, .int ((I 99) 16)] [.int ((I 111) (((I 99) 16).toNatClampNeg))] E I J S _
          refine w_st (i' := 10) (ls' := [.ref 99, .int ((I 99) 16)]) (st' := [.int ((I 111) (((I 99) 16).toNatClampNeg))]) (E' := E) (I' := I) (J' := J) (S' := S) am_e191 rfl rfl rfl rfl ?_
          first | exact hm | (simp only [if_neg m3] at hm; exact hm)
      replace h := h.2
      refine w_var (fun w4 => am_ww 191 10 [.ref 99, .int ((I 99) 16)] [.int w4] E I J S _) (if ((I 99) 17) ≤ ((I 99) 16) then (-1) else ((I 111) (((I 99) 16).toNatClampNeg))) (fun w4 hw4 => ?_)
      replace h := h w4 hw4
      refine w_ri am_e191 rfl rfl (q_mkI ?_)
      show am_ww 190 77 [.ref 99, d1] [.int w4, .int ((nI 10) * ((I 99) 19)), .int (nI 100000), .ref 99] E I J S _
      refine w_st (i' := 78) (ls' := [.ref 99, d1]) (st' := [.int (((nI 10) * ((I 99) 19)) + w4), .int (nI 100000), .ref 99]) (E' := E) (I' := I) (J' := J) (S' := S) am_e190 rfl rfl rfl rfl ?_
      refine w_st (i' := 79) (ls' := [.ref 99, d1]) (st' := [.int (nI 48), .int (((nI 10) * ((I 99) 19)) + w4), .int (nI 100000), .ref 99]) (E' := E) (I' := I) (J' := J) (S' := S) am_e190 rfl rfl rfl rfl ?_
      refine w_st (i' := 80) (ls' := [.ref 99, d1]) (st' := [.int ((((nI 10) * ((I 99) 19)) + w4) - (nI 48)), .int (nI 100000), .ref 99]) (E' := E) (I' := I) (J' := J) (S' := S) am_e190 rfl rfl rfl rfl ?_
      refine w_st (i' := 81) (ls' := [.ref 99, d1]) (st' := [.int (if ((((nI 10) * ((I 99) 19)) + w4) - (nI 48)) < (nI 100000) then ((((nI 10) * ((I 99) 19)) + w4) - (nI 48)) else (nI 100000)), .ref 99]) (E' := E) (I' := I) (J' := J) (S' := S) am_e190 rfl rfl rfl rfl ?_
      refine w_st (i' := 82) (ls' := [.ref 99, d1]) (st' := []) (E' := E) (I' := (u_I I 99 (upd (I 99) 19 (if ((((nI 10) * ((I 99) 19)) + w4) - (nI 48)) < (nI 100000) then ((((nI 10) * ((I 99) 19)) + w4) - (nI 48)) else (nI 100000))))) (J' := J) (S' := S) am_e190 rfl rfl rfl rfl ?_
      refine w_st (i' := 83) (ls' := [.ref 99, d1]) (st' := [.ref 99]) (E' := E) (I' := (u_I I 99 (upd (I 99) 19 (if ((((nI 10) * ((I 99) 19)) + w4) - (nI 48)) < (nI 100000) then ((((nI 10) * ((I 99) 19)) + w4) - (nI 48)) else (nI 100000))))) (J' := J) (S' := S) am_e190 rfl rfl rfl rfl ?_
      refine w_st (i' := 84) (ls' := [.ref 99, d1]) (st' := [.ref 99, .ref 99]) (E' := E) (I' := (u_I I 99 (upd (I 99) 19 (if ((((nI 10) * ((I 99) 19)) + w4) - (nI 48)) < (nI 100000) then ((((nI 10) * ((I 99) 19)) + w4) - (nI 48)) else (nI 100000))))) (J' := J) (S' := S) am_e190 rfl rfl rfl rfl ?_
      refine w_st (i' := 85) (ls' := [.ref 99, d1]) (st' := [.int ((I 99) 16), .ref 99]) (E' := E) (I' := (u_I I 99 (upd (I 99) 19 (if ((((nI 10) * ((I 99) 19)) + w4) - (nI 48)) < (nI 100000) then ((((nI 10) * ((I 99) 19)) + w4) - (nI 48)) else (nI 100000))))) (J' := J) (S' := S) am_e190 rfl rfl rfl rfl ?_
      refine w_st (i' := 86) (ls' := [.ref 99, d1]) (st' := [.int (nI 1), .int ((I 99) 16), .ref 99]) (E' := E) (I' := (u_I I 99 (upd (I 99) 19 (if ((((nI 10) * ((I 99) 19)) + w4) - (nI 48)) < (nI 100000) then ((((nI 10) * ((I 99) 19)) + w4) - (nI 48)) else (nI 100000))))) (J' := J) (S' := S) am_e190 rfl rfl rfl rfl ?_
      refine w_st (i' := 87) (ls' := [.ref 99, d1]) (st' := [.int (((I 99) 16) + (nI 1)), .ref 99]) (E' := E) (I' := (u_I I 99 (upd (I 99) 19 (if ((((nI 10) * ((I 99) 19)) + w4) - (nI 48)) < (nI 100000) then ((((nI 10) * ((I 99) 19)) + w4) - (nI 48)) else (nI 100000))))) (J' := J) (S' := S) am_e190 rfl rfl rfl rfl ?_
      refine w_st (i' := 88) (ls' := [.ref 99, d1]) (st' := []) (E' := E) (I' := (u_I (u_I I 99 (upd (I 99) 19 (if ((((nI 10) * ((I 99) 19)) + w4) - (nI 48)) < (nI 100000) then ((((nI 10) * ((I 99) 19)) + w4) - (nI 48)) else (nI 100000)))) 99 (upd (upd (I 99) 19 (if ((((nI 10) * ((I 99) 19)) + w4) - (nI 48)) < (nI 100000) then ((((nI 10) * ((I 99) 19)) + w4) - (nI 48)) else (nI 100000))) 16 (((I 99) 16) + (nI 1))))) (J' := J) (S' := S) am_e190 rfl rfl rfl rfl ?_
      refine w_eI (uI_0 ..) ?_
      show am_ww 190 88 [.ref 99, d1] [] E (u_I I 99 (upd (upd (I 99) 19 (if ((((nI 10) * ((I 99) 19)) + w4) - (nI 48)) < (nI 100000) then ((((nI 10) * ((I 99) 19)) + w4) - (nI 48)) else (nI 100000))) 16 (((I 99) 16) + (nI 1)))) J S _
      refine w_st (i' := 61) (ls' := [.ref 99, d1]) (st' := []) (E' := E) (I' := (u_I I 99 (upd (upd (I 99) 19 (if ((((nI 10) * ((I 99) 19)) + w4) - (nI 48)) < (nI 100000) then ((((nI 10) * ((I 99) 19)) + w4) - (nI 48)) else (nI 100000))) 16 (((I 99) 16) + (nI 1))))) (J' := J) (S' := S) am_e190 rfl rfl rfl rfl ?_
      exact h
theorem g190_38 {d1 : Value} {E : am_Ev} {I : Nat → Nat → Int32} {J : Nat → Nat → Int64} {S : Nat → Nat → Option Nat} {Q : am_Qt} (hd1 : am_isL d1 = false) (h : ((((I 99) 17) ≤ ((I 99) 16) → (True)) ∧ (¬ ((I 99) 17) ≤ ((I 99) 16) → (vp_in ((I 99) 16) 700 ∧ True))) ∧ (∀ w2 : Int32, w2 = (if ((I 99) 17) ≤ ((I 99) 16) then (-1) else ((I 111) (((I 99) 16).toNatClampNeg))) → ((w2 < (nI 97) → (Q (.inl none) E (u_I I 99 (upd (upd (I 99) 18 (nI 1)) 21 ((I 99) 16))) J S)) ∧ (¬ w2 < (nI 97) → (((nI 122) < w2 → (Q (.inl none) E (u_I I 99 (upd (upd (I 99) 18 (nI 1)) 21 ((I 99) 16))) J S)) ∧ (¬ (nI 122) < w2 → (am_ww 190 38 [.ref 99, d1] [] E (u_I I 99 (upd (I 99) 16 (((I 99) 16) + (nI 1)))) J S Q))))))) : am_ww 190 38 [.ref 99, d1] [] E I J S Q := by
  refine w_st (i' := 39) (ls' := [.ref 99, d1]) (st' := [.ref 99]) (E' := E) (I' := I) (J' := J) (S' := S) am_e190 rfl rfl rfl rfl ?_
  refine w_st (i' := 40) (ls' := [.ref 99, d1]) (st' := [.ref 99, .ref 99]) (E' := E) (I' := I) (J' := J) (S' := S) am_e190 rfl rfl rfl rfl ?_
  refine w_st (i' := 41) (ls' := [.ref 99, d1]) (st' := [.int ((I 99) 16), .ref 99]) (E' := E) (I' := I) (J' := J) (S' := S) am_e190 rfl rfl rfl rfl ?_
  refine w_cI am_e190 rfl rfl (as := [.ref 99, .int ((I 99) 16)]) (rest := []) rfl rfl ?_
  show am_ww 191 0 [.ref 99, .int ((I 99) 16)] [] E I J S _
  refine w_st (i' := 1) (ls' := [.ref 99, .int ((I 99) 16)]) (st' := [.int ((I 99) 16)]) (E' := E) (I' := I) (J' := J) (S' := S) am_e191 rfl rfl rfl rfl ?_
  refine w_st (i' := 2) (ls' := [.ref 99, .int ((I 99) 16)]) (st' := [.ref 99, .int ((I 99) 16)]) (E' := E) (I' := I) (J' := J) (S' := S) am_e191 rfl rfl rfl rfl ?_
  refine w_st (i' := 3) (ls' := [.ref 99, .int ((I 99) 16)]) (st' := [.int ((I 99) 17), .int ((I 99) 16)]) (E' := E) (I' := I) (J' := J) (S' := S) am_e191 rfl rfl rfl rfl ?_
  refine w_mg (i := 10) (ls' := [.ref 99, .int ((I 99) 16)]) (st' := [.int (if ((I 99) 17) ≤ ((I 99) 16) then (-1) else ((I 111) (((I 99) 16).toNatClampNeg)))]) (fun hm => ?_) ?_
  · replace h := h.1
    refine w_if2 am_e191 rfl rfl (fun c => ?_) (fun c => ?_)
    · have m1 : ((I 99) 17) ≤ ((I 99) 16) := (of_decide_eq_true c)
      replace h := h.1 m1
      refine w_st (i' := 10) (ls' := [.ref 99, .int ((I 99) 16)]) (st' := [.int (-1)]) (E' := E) (I' := I) (J' := J) (S' := S) am_e191 rfl rfl rfl rfl ?_
      first | exact hm | (simp only [if_pos m1] at hm; exact hm)
    · have m1 : ¬ (((I 99) 17) ≤ ((I 99) 16)) := (of_decide_eq_false c)
      replace h := h.2 m1
      refine w_st (i' := 5) (ls' := [.ref 99, .int ((I 99) 16)]) (st' := [.ref 99]) (E' := E) (I' := I) (J' := J) (S' := S) am_e191 rfl rfl rfl rfl ?_
      refine w_st (i' := 6) (ls' := [.ref 99, .int ((I 99) 16)]) (st' := [.ref 111]) (E' := E) (I' := I) (J' := J) (S' := S) am_e191 rfl rfl rfl rfl ?_
      refine w_st (i' := 7) (ls' := [.ref 99, .int ((I 99) 16)]) (st' := [.int ((I 99) 16), .ref 111]) (E' := E) (I' := I) (J' := J) (S' := S) am_e191 rfl rfl rfl rfl ?_
      refine w_ia (k := 111) (n := 700) (jn := ((I 99) 16).toNatClampNeg) am_e191 rfl rfl (by decide) h.1 rfl ?_
      replace h := h.2
      show am_ww 191 8 [.ref 99, .int ((I 99) 16)] [.int ((I 111) (((I 99) 16).toNatClampNeg))] E I J S _
      refine w_st (i' := 10) (ls' := [.ref 99, .int ((I 99) 16)]) (st' := [.int ((I 111) (((I 99) 16).toNatClampNeg))]) (E' := E) (I' := I) (J' := J) (S' := S) am_e191 rfl rfl rfl rfl ?_
      first | exact hm | (simp only [if_neg m1] at hm; exact hm)
  replace h := h.2
  refine w_var (fun w2 => am_ww 191 10 [.ref 99, .int ((I 99) 16)] [.int w2] E I J S _) (if ((I 99) 17) ≤ ((I 99) 16) then (-1) else ((I 111) (((I 99) 16).toNatClampNeg))) (fun w2 hw2 => ?_)
  replace h := h w2 hw2
  refine w_ri am_e191 rfl rfl (q_mkI ?_)
  show am_ww 190 42 [.ref 99, d1] [.int w2] E I J S _
  refine w_cI am_e190 rfl rfl (as := [.int w2]) (rest := []) rfl rfl ?_
  show am_ww 192 0 [.int w2] [] E I J S _
  refine w_st (i' := 1) (ls' := [.int w2]) (st' := [.int w2]) (E' := E) (I' := I) (J' := J) (S' := S) am_e192 rfl rfl rfl rfl ?_
  refine w_st (i' := 2) (ls' := [.int w2]) (st' := [.int (nI 97), .int w2]) (E' := E) (I' := I) (J' := J) (S' := S) am_e192 rfl rfl rfl rfl ?_
  refine w_if2 am_e192 rfl rfl (fun c => ?_) (fun c => ?_)
  · replace h := h.1 (of_decide_eq_true c)
    refine w_st (i' := 9) (ls' := [.int w2]) (st' := [.int (nI 0)]) (E' := E) (I' := I) (J' := J) (S' := S) am_e192 rfl rfl rfl rfl ?_
    refine w_end (E' := E) (I' := I) (J' := J) (S' := S) am_e192 rfl rfl rfl (q_mkI ?_)
    show am_ww 190 43 [.ref 99, d1] [.int (nI 0)] E I J S _
    refine w_st (i' := 51) (ls' := [.ref 99, d1]) (st' := []) (E' := E) (I' := I) (J' := J) (S' := S) am_e190 rfl rfl rfl rfl ?_
    refine w_st (i' := 52) (ls' := [.ref 99, d1]) (st' := [.ref 99]) (E' := E) (I' := I) (J' := J) (S' := S) am_e190 rfl rfl rfl rfl ?_
    refine w_st (i' := 53) (ls' := [.ref 99, d1]) (st' := [.int (nI 1), .ref 99]) (E' := E) (I' := I) (J' := J) (S' := S) am_e190 rfl rfl rfl rfl ?_
    refine w_st (i' := 54) (ls' := [.ref 99, d1]) (st' := []) (E' := E) (I' := (u_I I 99 (upd (I 99) 18 (nI 1)))) (J' := J) (S' := S) am_e190 rfl rfl rfl rfl ?_
    refine w_st (i' := 116) (ls' := [.ref 99, d1]) (st' := []) (E' := E) (I' := (u_I I 99 (upd (I 99) 18 (nI 1)))) (J' := J) (S' := S) am_e190 rfl rfl rfl rfl ?_
    refine w_st (i' := 117) (ls' := [.ref 99, d1]) (st' := [.ref 99]) (E' := E) (I' := (u_I I 99 (upd (I 99) 18 (nI 1)))) (J' := J) (S' := S) am_e190 rfl rfl rfl rfl ?_
    refine w_st (i' := 118) (ls' := [.ref 99, d1]) (st' := [.ref 99, .ref 99]) (E' := E) (I' := (u_I I 99 (upd (I 99) 18 (nI 1)))) (J' := J) (S' := S) am_e190 rfl rfl rfl rfl ?_
    refine w_st (i' := 119) (ls' := [.ref 99, d1]) (st' := [.int ((I 99) 16), .ref 99]) (E' := E) (I' := (u_I I 99 (upd (I 99) 18 (nI 1)))) (J' := J) (S' := S) am_e190 rfl rfl rfl rfl ?_
    refine w_st (i' := 120) (ls' := [.ref 99, d1]) (st' := []) (E' := E) (I' := (u_I (u_I I 99 (upd (I 99) 18 (nI 1))) 99 (upd (upd (I 99) 18 (nI 1)) 21 ((I 99) 16)))) (J' := J) (S' := S) am_e190 rfl rfl rfl rfl ?_
    refine w_eI (uI_0 ..) ?_
    show am_ww 190 120 [.ref 99, d1] [] E (u_I I 99 (upd (upd (I 99) 18 (nI 1)) 21 ((I 99) 16))) J S _
    exact w_end am_e190 rfl rfl rfl h
  · replace h := h.2 (of_decide_eq_false c)
    refine w_st (i' := 4) (ls' := [.int w2]) (st' := [.int w2]) (E' := E) (I' := I) (J' := J) (S' := S) am_e192 rfl rfl rfl rfl ?_
    refine w_st (i' := 5) (ls' := [.int w2]) (st' := [.int (nI 122), .int w2]) (E' := E) (I' := I) (J' := J) (S' := S) am_e192 rfl rfl rfl rfl ?_
    refine w_if2 am_e192 rfl rfl (fun c => ?_) (fun c => ?_)
    · replace h := h.1 (of_decide_eq_true c)
      refine w_st (i' := 9) (ls' := [.int w2]) (st' := [.int (nI 0)]) (E' := E) (I' := I) (J' := J) (S' := S) am_e192 rfl rfl rfl rfl ?_
      refine w_end (E' := E) (I' := I) (J' := J) (S' := S) am_e192 rfl rfl rfl (q_mkI ?_)
      show am_ww 190 43 [.ref 99, d1] [.int (nI 0)] E I J S _
      refine w_st (i' := 51) (ls' := [.ref 99, d1]) (st' := []) (E' := E) (I' := I) (J' := J) (S' := S) am_e190 rfl rfl rfl rfl ?_
      refine w_st (i' := 52) (ls' := [.ref 99, d1]) (st' := [.ref 99]) (E' := E) (I' := I) (J' := J) (S' := S) am_e190 rfl rfl rfl rfl ?_
      refine w_st (i' := 53) (ls' := [.ref 99, d1]) (st' := [.int (nI 1), .ref 99]) (E' := E) (I' := I) (J' := J) (S' := S) am_e190 rfl rfl rfl rfl ?_
      refine w_st (i' := 54) (ls' := [.ref 99, d1]) (st' := []) (E' := E) (I' := (u_I I 99 (upd (I 99) 18 (nI 1)))) (J' := J) (S' := S) am_e190 rfl rfl rfl rfl ?_
      refine w_st (i' := 116) (ls' := [.ref 99, d1]) (st' := []) (E' := E) (I' := (u_I I 99 (upd (I 99) 18 (nI 1)))) (J' := J) (S' := S) am_e190 rfl rfl rfl rfl ?_
      refine w_st (i' := 117) (ls' := [.ref 99, d1]) (st' := [.ref 99]) (E' := E) (I' := (u_I I 99 (upd (I 99) 18 (nI 1)))) (J' := J) (S' := S) am_e190 rfl rfl rfl rfl ?_
      refine w_st (i' := 118) (ls' := [.ref 99, d1]) (st' := [.ref 99, .ref 99]) (E' := E) (I' := (u_I I 99 (upd (I 99) 18 (nI 1)))) (J' := J) (S' := S) am_e190 rfl rfl rfl rfl ?_
      refine w_st (i' := 119) (ls' := [.ref 99, d1]) (st' := [.int ((I 99) 16), .ref 99]) (E' := E) (I' := (u_I I 99 (upd (I 99) 18 (nI 1)))) (J' := J) (S' := S) am_e190 rfl rfl rfl rfl ?_
      refine w_st (i' := 120) (ls' := [.ref 99, d1]) (st' := []) (E' := E) (I' := (u_I (u_I I 99 (upd (I 99) 18 (nI 1))) 99 (upd (upd (I 99) 18 (nI 1)) 21 ((I 99) 16)))) (J' := J) (S' := S) am_e190 rfl rfl rfl rfl ?_
      refine w_eI (uI_0 ..) ?_
      show am_ww 190 120 [.ref 99, d1] [] E (u_I I 99 (upd (upd (I 99) 18 (nI 1)) 21 ((I 99) 16))) J S _
      exact w_end am_e190 rfl rfl rfl h
    · replace h := h.2 (of_decide_eq_false c)
      refine w_st (i' := 7) (ls' := [.int w2]) (st' := [.int (nI 1)]) (E' := E) (I' := I) (J' := J) (S' := S) am_e192 rfl rfl rfl rfl ?_
      refine w_st (i' := 9) (ls' := [.int w2]) (st' := [.int (nI 1)]) (E' := E) (I' := I) (J' := J) (S' := S) am_e192 rfl rfl rfl rfl ?_
      refine w_end (E' := E) (I' := I) (J' := J) (S' := S) am_e192 rfl rfl rfl (q_mkI ?_)
      show am_ww 190 43 [.ref 99, d1] [.int (nI 1)] E I J S _
      refine w_st (i' := 44) (ls' := [.ref 99, d1]) (st' := []) (E' := E) (I' := I) (J' := J) (S' := S) am_e190 rfl rfl rfl rfl ?_
      refine w_st (i' := 45) (ls' := [.ref 99, d1]) (st' := [.ref 99]) (E' := E) (I' := I) (J' := J) (S' := S) am_e190 rfl rfl rfl rfl ?_
      refine w_st (i' := 46) (ls' := [.ref 99, d1]) (st' := [.ref 99, .ref 99]) (E' := E) (I' := I) (J' := J) (S' := S) am_e190 rfl rfl rfl rfl ?_
      refine w_st (i' := 47) (ls' := [.ref 99, d1]) (st' := [.int ((I 99) 16), .ref 99]) (E' := E) (I' := I) (J' := J) (S' := S) am_e190 rfl rfl rfl rfl ?_
      refine w_st (i' := 48) (ls' := [.ref 99, d1]) (st' := [.int (nI 1), .int ((I 99) 16), .ref 99]) (E' := E) (I' := I) (J' := J) (S' := S) am_e190 rfl rfl rfl rfl ?_
      refine w_st (i' := 49) (ls' := [.ref 99, d1]) (st' := [.int (((I 99) 16) + (nI 1)), .ref 99]) (E' := E) (I' := I) (J' := J) (S' := S) am_e190 rfl rfl rfl rfl ?_
      refine w_st (i' := 50) (ls' := [.ref 99, d1]) (st' := []) (E' := E) (I' := (u_I I 99 (upd (I 99) 16 (((I 99) 16) + (nI 1))))) (J' := J) (S' := S) am_e190 rfl rfl rfl rfl ?_
      refine w_st (i' := 38) (ls' := [.ref 99, d1]) (st' := []) (E' := E) (I' := (u_I I 99 (upd (I 99) 16 (((I 99) 16) + (nI 1))))) (J' := J) (S' := S) am_e190 rfl rfl rfl rfl ?_
      exact h
-- 196 is
theorem g196_0 {p1 : Nat} {E : am_Ev} {I : Nat → Nat → Int32} {J : Nat → Nat → Int64} {S : Nat → Nat → Option Nat} {Q : am_Qt} (hsp1 : p1 < 55) (h : (((I 99) 22) = 0 → ((((I 99) 18) = (nI 1) → (am_cl 67 [.ref (2000000 + p1)] E I J S (q_I fun v1 E1 I1 J1 S1 => ∀ w3 : Int32, w3 = (if v1 = (((I1 99) 21) - ((I1 99) 20)) then nI 1 else nI 0) → (am_ww 196 21 [.ref 99, .ref (2000000 + p1), .int w3, .int (nI 0)] [] E1 I1 J1 S1 Q)))) ∧ (¬ ((I 99) 18) = (nI 1) → (am_ww 196 21 [.ref 99, .ref (2000000 + p1), .int (nI 0), .int (nI 0)] [] E I J S Q)))) ∧ (¬ ((I 99) 22) = 0 → (am_ww 196 21 [.ref 99, .ref (2000000 + p1), .int (nI 0), .int (nI 0)] [] E I J S Q))) : am_ww 196 0 [.ref 99, .ref (2000000 + p1), am_U, am_U] [] E I J S Q := by
  refine w_st (i' := 1) (ls' := [.ref 99, .ref (2000000 + p1), am_U, am_U]) (st' := [.ref 99]) (E' := E) (I' := I) (J' := J) (S' := S) am_e196 rfl rfl rfl rfl ?_
  refine w_st (i' := 2) (ls' := [.ref 99, .ref (2000000 + p1), am_U, am_U]) (st' := [.int ((I 99) 22)]) (E' := E) (I' := I) (J' := J) (S' := S) am_e196 rfl rfl rfl rfl ?_
  refine w_if1 am_e196 rfl rfl (fun c => ?_) (fun c => ?_)
  · replace h := h.2 (of_decide_eq_true c)
    refine w_st (i' := 18) (ls' := [.ref 99, .ref (2000000 + p1), am_U, am_U]) (st' := [.int (nI 0)]) (E' := E) (I' := I) (J' := J) (S' := S) am_e196 rfl rfl rfl rfl ?_
    refine w_st (i' := 19) (ls' := [.ref 99, .ref (2000000 + p1), .int (nI 0), am_U]) (st' := []) (E' := E) (I' := I) (J' := J) (S' := S) am_e196 rfl rfl rfl rfl ?_
    refine w_st (i' := 20) (ls' := [.ref 99, .ref (2000000 + p1), .int (nI 0), am_U]) (st' := [.int (nI 0)]) (E' := E) (I' := I) (J' := J) (S' := S) am_e196 rfl rfl rfl rfl ?_
    refine w_st (i' := 21) (ls' := [.ref 99, .ref (2000000 + p1), .int (nI 0), .int (nI 0)]) (st' := []) (E' := E) (I' := I) (J' := J) (S' := S) am_e196 rfl rfl rfl rfl ?_
    exact h
  · replace h := h.1 (Decidable.not_not.mp (of_decide_eq_false c))
    refine w_st (i' := 4) (ls' := [.ref 99, .ref (2000000 + p1), am_U, am_U]) (st' := [.ref 99]) (E' := E) (I' := I) (J' := J) (S' := S) am_e196 rfl rfl rfl rfl ?_
    refine w_st (i' := 5) (ls' := [.ref 99, .ref (2000000 + p1), am_U, am_U]) (st' := [.int ((I 99) 18)]) (E' := E) (I' := I) (J' := J) (S' := S) am_e196 rfl rfl rfl rfl ?_
    refine w_st (i' := 6) (ls' := [.ref 99, .ref (2000000 + p1), am_U, am_U]) (st' := [.int (nI 1), .int ((I 99) 18)]) (E' := E) (I' := I) (J' := J) (S' := S) am_e196 rfl rfl rfl rfl ?_
    refine w_if2 am_e196 rfl rfl (fun c => ?_) (fun c => ?_)
    · replace h := h.2 (of_decide_eq_true c)
      refine w_st (i' := 18) (ls' := [.ref 99, .ref (2000000 + p1), am_U, am_U]) (st' := [.int (nI 0)]) (E' := E) (I' := I) (J' := J) (S' := S) am_e196 rfl rfl rfl rfl ?_
      refine w_st (i' := 19) (ls' := [.ref 99, .ref (2000000 + p1), .int (nI 0), am_U]) (st' := []) (E' := E) (I' := I) (J' := J) (S' := S) am_e196 rfl rfl rfl rfl ?_
      refine w_st (i' := 20) (ls' := [.ref 99, .ref (2000000 + p1), .int (nI 0), am_U]) (st' := [.int (nI 0)]) (E' := E) (I' := I) (J' := J) (S' := S) am_e196 rfl rfl rfl rfl ?_
      refine w_st (i' := 21) (ls' := [.ref 99, .ref (2000000 + p1), .int (nI 0), .int (nI 0)]) (st' := []) (E' := E) (I' := I) (J' := J) (S' := S) am_e196 rfl rfl rfl rfl ?_
      exact h
    · replace h := h.1 (Decidable.not_not.mp (of_decide_eq_false c))
      refine w_al am_e196 rfl rfl (by omega) ?_
      refine w_cI am_e196 rfl rfl (as := [.ref (2000000 + p1)]) (rest := []) rfl (am_ckS hsp1 rfl) (am_ww.mono h ?_)
      rintro _ E1 I1 J1 S1 ⟨v1, rfl, h⟩
      refine q_mkI ?_
      refine w_st (i' := 10) (ls' := [.ref 99, .ref (2000000 + p1), am_U, am_U]) (st' := [.ref 99, .int v1]) (E' := E1) (I' := I1) (J' := J1) (S' := S1) am_e196 rfl rfl rfl rfl ?_
      refine w_st (i' := 11) (ls' := [.ref 99, .ref (2000000 + p1), am_U, am_U]) (st' := [.int ((I1 99) 21), .int v1]) (E' := E1) (I' := I1) (J' := J1) (S' := S1) am_e196 rfl rfl rfl rfl ?_
      refine w_st (i' := 12) (ls' := [.ref 99, .ref (2000000 + p1), am_U, am_U]) (st' := [.ref 99, .int ((I1 99) 21), .int v1]) (E' := E1) (I' := I1) (J' := J1) (S' := S1) am_e196 rfl rfl rfl rfl ?_
      refine w_st (i' := 13) (ls' := [.ref 99, .ref (2000000 + p1), am_U, am_U]) (st' := [.int ((I1 99) 20), .int ((I1 99) 21), .int v1]) (E' := E1) (I' := I1) (J' := J1) (S' := S1) am_e196 rfl rfl rfl rfl ?_
      refine w_st (i' := 14) (ls' := [.ref 99, .ref (2000000 + p1), am_U, am_U]) (st' := [.int (((I1 99) 21) - ((I1 99) 20)), .int v1]) (E' := E1) (I' := I1) (J' := J1) (S' := S1) am_e196 rfl rfl rfl rfl ?_
      refine w_mg (i := 18) (ls' := [.ref 99, .ref (2000000 + p1), am_U, am_U]) (st' := [.int (if v1 = (((I1 99) 21) - ((I1 99) 20)) then nI 1 else nI 0)]) (fun hm => ?_) ?_
      · clear h
        refine w_if2 am_e196 rfl rfl (fun c => ?_) (fun c => ?_)
        · have m2 : ¬ (v1 = (((I1 99) 21) - ((I1 99) 20))) := (of_decide_eq_true c)
          refine w_st (i' := 18) (ls' := [.ref 99, .ref (2000000 + p1), am_U, am_U]) (st' := [.int (nI 0)]) (E' := E1) (I' := I1) (J' := J1) (S' := S1) am_e196 rfl rfl rfl rfl ?_
          first | exact hm | (simp only [if_neg m2] at hm; exact hm)
        · have m2 : v1 = (((I1 99) 21) - ((I1 99) 20)) := (Decidable.not_not.mp (of_decide_eq_false c))
          refine w_st (i' := 16) (ls' := [.ref 99, .ref (2000000 + p1), am_U, am_U]) (st' := [.int (nI 1)]) (E' := E1) (I' := I1) (J' := J1) (S' := S1) am_e196 rfl rfl rfl rfl ?_
          refine w_st (i' := 18) (ls' := [.ref 99, .ref (2000000 + p1), am_U, am_U]) (st' := [.int (nI 1)]) (E' := E1) (I' := I1) (J' := J1) (S' := S1) am_e196 rfl rfl rfl rfl ?_
          first | exact hm | (simp only [if_pos m2] at hm; exact hm)
      refine w_var (fun w3 => am_ww 196 18 [.ref 99, .ref (2000000 + p1), am_U, am_U] [.int w3] E1 I1 J1 S1 _) (if v1 = (((I1 99) 21) - ((I1 99) 20)) then nI 1 else nI 0) (fun w3 hw3 => ?_)
      replace h := h w3 hw3
      refine w_st (i' := 19) (ls' := [.ref 99, .ref (2000000 + p1), .int w3, am_U]) (st' := []) (E' := E1) (I' := I1) (J' := J1) (S' := S1) am_e196 rfl rfl rfl rfl ?_
      refine w_st (i' := 20) (ls' := [.ref 99, .ref (2000000 + p1), .int w3, am_U]) (st' := [.int (nI 0)]) (E' := E1) (I' := I1) (J' := J1) (S' := S1) am_e196 rfl rfl rfl rfl ?_
      refine w_st (i' := 21) (ls' := [.ref 99, .ref (2000000 + p1), .int w3, .int (nI 0)]) (st' := []) (E' := E1) (I' := I1) (J' := J1) (S' := S1) am_e196 rfl rfl rfl rfl ?_
      exact h
theorem g196_21 {x1 : Nat} {x2 : Int32} {x3 : Int32} {E : am_Ev} {I : Nat → Nat → Int32} {J : Nat → Nat → Int64} {S : Nat → Nat → Option Nat} {Q : am_Qt} (hsx1 : x1 < 55) (h : (x2 = 0 → ((x2 = 0 ∨ x2 = 1) ∧ Q (.inl (some (.int x2))) E I J S)) ∧ (¬ x2 = 0 → (am_cl 67 [.ref (2000000 + x1)] E I J S (q_I fun v1 E1 I1 J1 S1 => (v1 ≤ x3 → ((x2 = 0 ∨ x2 = 1) ∧ Q (.inl (some (.int x2))) E1 I1 J1 S1)) ∧ (¬ v1 ≤ x3 → (am_cl 69 [.ref (2000000 + x1), .int x3] E1 I1 J1 S1 (q_I fun v2 E2 I2 J2 S2 => vp_in (((I2 99) 20) + x3) 700 ∧ (∀ w5 : Int32, w5 = (if v2 = ((I2 111) ((((I2 99) 20) + x3).toNatClampNeg)) then nI 1 else nI 0) → (am_ww 196 21 [.ref 99, .ref (2000000 + x1), .int w5, .int (x3 + nI 1)] [] E2 I2 J2 S2 Q))))))))) : am_ww 196 21 [.ref 99, .ref (2000000 + x1), .int x2, .int x3] [] E I J S Q := by
  refine w_st (i' := 22) (ls' := [.ref 99, .ref (2000000 + x1), .int x2, .int x3]) (st' := [.int x2]) (E' := E) (I' := I) (J' := J) (S' := S) am_e196 rfl rfl rfl rfl ?_
  refine w_if1 am_e196 rfl rfl (fun c => ?_) (fun c => ?_)
  · replace h := h.1 (of_decide_eq_true c)
    refine w_st (i' := 45) (ls' := [.ref 99, .ref (2000000 + x1), .int x2, .int x3]) (st' := [.int x2]) (E' := E) (I' := I) (J' := J) (S' := S) am_e196 rfl rfl rfl rfl ?_
    exact w_rz am_e196 rfl rfl h.1 h.2
  · replace h := h.2 (of_decide_eq_false c)
    refine w_st (i' := 24) (ls' := [.ref 99, .ref (2000000 + x1), .int x2, .int x3]) (st' := [.int x3]) (E' := E) (I' := I) (J' := J) (S' := S) am_e196 rfl rfl rfl rfl ?_
    refine w_al am_e196 rfl rfl (by omega) ?_
    refine w_cI am_e196 rfl rfl (as := [.ref (2000000 + x1)]) (rest := [.int x3]) rfl (am_ckS hsx1 rfl) (am_ww.mono h ?_)
    rintro _ E1 I1 J1 S1 ⟨v1, rfl, h⟩
    refine q_mkI ?_
    refine w_if2 am_e196 rfl rfl (fun c => ?_) (fun c => ?_)
    · replace h := h.1 (of_decide_eq_true c)
      refine w_st (i' := 45) (ls' := [.ref 99, .ref (2000000 + x1), .int x2, .int x3]) (st' := [.int x2]) (E' := E1) (I' := I1) (J' := J1) (S' := S1) am_e196 rfl rfl rfl rfl ?_
      exact w_rz am_e196 rfl rfl h.1 h.2
    · replace h := h.2 (of_decide_eq_false c)
      refine w_al am_e196 rfl rfl (by omega) ?_
      refine w_st (i' := 29) (ls' := [.ref 99, .ref (2000000 + x1), .int x2, .int x3]) (st' := [.int x3, .ref (2000000 + x1)]) (E' := E1) (I' := I1) (J' := J1) (S' := S1) am_e196 rfl rfl rfl rfl ?_
      refine w_cI am_e196 rfl rfl (as := [.ref (2000000 + x1), .int x3]) (rest := []) rfl (am_ckS hsx1 rfl) (am_ww.mono h ?_)
      rintro _ E2 I2 J2 S2 ⟨v2, rfl, h⟩
      refine q_mkI ?_
      refine w_st (i' := 31) (ls' := [.ref 99, .ref (2000000 + x1), .int x2, .int x3]) (st' := [.ref 99, .int v2]) (E' := E2) (I' := I2) (J' := J2) (S' := S2) am_e196 rfl rfl rfl rfl ?_
      refine w_st (i' := 32) (ls' := [.ref 99, .ref (2000000 + x1), .int x2, .int x3]) (st' := [.ref 111, .int v2]) (E' := E2) (I' := I2) (J' := J2) (S' := S2) am_e196 rfl rfl rfl rfl ?_
      refine w_st (i' := 33) (ls' := [.ref 99, .ref (2000000 + x1), .int x2, .int x3]) (st' := [.ref 99, .ref 111, .int v2]) (E' := E2) (I' := I2) (J' := J2) (S' := S2) am_e196 rfl rfl rfl rfl ?_
      refine w_st (i' := 34) (ls' := [.ref 99, .ref (2000000 + x1), .int x2, .int x3]) (st' := [.int ((I2 99) 20), .ref 111, .int v2]) (E' := E2) (I' := I2) (J' := J2) (S' := S2) am_e196 rfl rfl rfl rfl ?_
      refine w_st (i' := 35) (ls' := [.ref 99, .ref (2000000 + x1), .int x2, .int x3]) (st' := [.int x3, .int ((I2 99) 20), .ref 111, .int v2]) (E' := E2) (I' := I2) (J' := J2) (S' := S2) am_e196 rfl rfl rfl rfl ?_
      refine w_st (i' := 36) (ls' := [.ref 99, .ref (2000000 + x1), .int x2, .int x3]) (st' := [.int (((I2 99) 20) + x3), .ref 111, .int v2]) (E' := E2) (I' := I2) (J' := J2) (S' := S2) am_e196 rfl rfl rfl rfl ?_
      have hf3 := h.1
      replace h := h.2
      refine w_ia (k := 111) (n := 700) (jn := (((I2 99) 20) + x3).toNatClampNeg) am_e196 rfl rfl (by decide) hf3 rfl ?_
      refine w_mg (i := 41) (ls' := [.ref 99, .ref (2000000 + x1), .int x2, .int x3]) (st' := [.int (if v2 = ((I2 111) ((((I2 99) 20) + x3).toNatClampNeg)) then nI 1 else nI 0)]) (fun hm => ?_) ?_
      · clear h
        refine w_if2 am_e196 rfl rfl (fun c => ?_) (fun c => ?_)
        · have m4 : ¬ (v2 = ((I2 111) ((((I2 99) 20) + x3).toNatClampNeg))) := (of_decide_eq_true c)
          refine w_st (i' := 41) (ls' := [.ref 99, .ref (2000000 + x1), .int x2, .int x3]) (st' := [.int (nI 0)]) (E' := E2) (I' := I2) (J' := J2) (S' := S2) am_e196 rfl rfl rfl rfl ?_
          first | exact hm | (simp only [if_neg m4] at hm; exact hm)
        · have m4 : v2 = ((I2 111) ((((I2 99) 20) + x3).toNatClampNeg)) := (Decidable.not_not.mp (of_decide_eq_false c))
          refine w_st (i' := 39) (ls' := [.ref 99, .ref (2000000 + x1), .int x2, .int x3]) (st' := [.int (nI 1)]) (E' := E2) (I' := I2) (J' := J2) (S' := S2) am_e196 rfl rfl rfl rfl ?_
          refine w_st (i' := 41) (ls' := [.ref 99, .ref (2000000 + x1), .int x2, .int x3]) (st' := [.int (nI 1)]) (E' := E2) (I' := I2) (J' := J2) (S' := S2) am_e196 rfl rfl rfl rfl ?_
          first | exact hm | (simp only [if_pos m4] at hm; exact hm)
      refine w_var (fun w5 => am_ww 196 41 [.ref 99, .ref (2000000 + x1), .int x2, .int x3] [.int w5] E2 I2 J2 S2 _) (if v2 = ((I2 111) ((((I2 99) 20) + x3).toNatClampNeg)) then nI 1 else nI 0) (fun w5 hw5 => ?_)
      replace h := h w5 hw5
      refine w_st (i' := 42) (ls' := [.ref 99, .ref (2000000 + x1), .int w5, .int x3]) (st' := []) (E' := E2) (I' := I2) (J' := J2) (S' := S2) am_e196 rfl rfl rfl rfl ?_
      refine w_st (i' := 43) (ls' := [.ref 99, .ref (2000000 + x1), .int w5, .int (x3 + nI 1)]) (st' := []) (E' := E2) (I' := I2) (J' := J2) (S' := S2) am_e196 rfl rfl rfl rfl ?_
      refine w_st (i' := 21) (ls' := [.ref 99, .ref (2000000 + x1), .int w5, .int (x3 + nI 1)]) (st' := []) (E' := E2) (I' := I2) (J' := J2) (S' := S2) am_e196 rfl rfl rfl rfl ?_
      exact h
-- 199 numberNow
theorem g199_0 {p1 : Int32} {p2 : Int32} {E : am_Ev} {I : Nat → Nat → Int32} {J : Nat → Nat → Int64} {S : Nat → Nat → Option Nat} {Q : am_Qt}  (h : (((I 99) 22) = 0 → ((((I 99) 18) = (nI 2) → (((nI 4) < (((I 99) 21) - ((I 99) 20)) → ((((I 99) 22) = 0 → (Q (.inl (some (.int p1))) E (u_I I 99 (upd (upd (I 99) 22 (nI 2)) 23 ((I 99) 20))) J S)) ∧ (¬ ((I 99) 22) = 0 → (∀ w2 : Int32, w2 = (if ((I 99) 22) = 0 then ((I 99) 19) else p1) → (Q (.inl (some (.int w2))) E I J S))))) ∧ (¬ (nI 4) < (((I 99) 21) - ((I 99) 20)) → ((((I 99) 19) < p1 → ((((I 99) 22) = 0 → (Q (.inl (some (.int p1))) E (u_I I 99 (upd (upd (I 99) 22 (nI 2)) 23 ((I 99) 20))) J S)) ∧ (¬ ((I 99) 22) = 0 → (∀ w4 : Int32, w4 = (if ((I 99) 22) = 0 then ((I 99) 19) else p1) → (Q (.inl (some (.int w4))) E I J S))))) ∧ (¬ ((I 99) 19) < p1 → ((((I 99) 19) ≤ p2 → (∀ w6 : Int32, w6 = (if ((I 99) 22) = 0 then ((I 99) 19) else p1) → (Q (.inl (some (.int w6))) E I J S))) ∧ (¬ ((I 99) 19) ≤ p2 → ((((I 99) 22) = 0 → (Q (.inl (some (.int p1))) E (u_I I 99 (upd (upd (I 99) 22 (nI 2)) 23 ((I 99) 20))) J S)) ∧ (¬ ((I 99) 22) = 0 → (∀ w8 : Int32, w8 = (if ((I 99) 22) = 0 then ((I 99) 19) else p1) → (Q (.inl (some (.int w8))) E I J S))))))))))) ∧ (¬ ((I 99) 18) = (nI 2) → ((((I 99) 22) = 0 → (Q (.inl (some (.int p1))) E (u_I I 99 (upd (upd (I 99) 22 (nI 1)) 23 ((I 99) 20))) J S)) ∧ (¬ ((I 99) 22) = 0 → (∀ w10 : Int32, w10 = (if ((I 99) 22) = 0 then ((I 99) 19) else p1) → (Q (.inl (some (.int w10))) E I J S))))))) ∧ (¬ ((I 99) 22) = 0 → (Q (.inl (some (.int p1))) E I J S))) : am_ww 199 0 [.ref 99, .int p1, .int p2] [] E I J S Q := by
  refine w_st (i' := 1) (ls' := [.ref 99, .int p1, .int p2]) (st' := [.ref 99]) (E' := E) (I' := I) (J' := J) (S' := S) am_e199 rfl rfl rfl rfl ?_
  refine w_st (i' := 2) (ls' := [.ref 99, .int p1, .int p2]) (st' := [.int ((I 99) 22)]) (E' := E) (I' := I) (J' := J) (S' := S) am_e199 rfl rfl rfl rfl ?_
  refine w_if1 am_e199 rfl rfl (fun c => ?_) (fun c => ?_)
  · replace h := h.1 (of_decide_eq_true c)
    refine w_st (i' := 6) (ls' := [.ref 99, .int p1, .int p2]) (st' := [.ref 99]) (E' := E) (I' := I) (J' := J) (S' := S) am_e199 rfl rfl rfl rfl ?_
    refine w_st (i' := 7) (ls' := [.ref 99, .int p1, .int p2]) (st' := [.int ((I 99) 18)]) (E' := E) (I' := I) (J' := J) (S' := S) am_e199 rfl rfl rfl rfl ?_
    refine w_st (i' := 8) (ls' := [.ref 99, .int p1, .int p2]) (st' := [.int (nI 2), .int ((I 99) 18)]) (E' := E) (I' := I) (J' := J) (S' := S) am_e199 rfl rfl rfl rfl ?_
    refine w_if2 am_e199 rfl rfl (fun c => ?_) (fun c => ?_)
    · replace h := h.1 (of_decide_eq_true c)
      refine w_st (i' := 14) (ls' := [.ref 99, .int p1, .int p2]) (st' := [.ref 99]) (E' := E) (I' := I) (J' := J) (S' := S) am_e199 rfl rfl rfl rfl ?_
      refine w_st (i' := 15) (ls' := [.ref 99, .int p1, .int p2]) (st' := [.int ((I 99) 21)]) (E' := E) (I' := I) (J' := J) (S' := S) am_e199 rfl rfl rfl rfl ?_
      refine w_st (i' := 16) (ls' := [.ref 99, .int p1, .int p2]) (st' := [.ref 99, .int ((I 99) 21)]) (E' := E) (I' := I) (J' := J) (S' := S) am_e199 rfl rfl rfl rfl ?_
      refine w_st (i' := 17) (ls' := [.ref 99, .int p1, .int p2]) (st' := [.int ((I 99) 20), .int ((I 99) 21)]) (E' := E) (I' := I) (J' := J) (S' := S) am_e199 rfl rfl rfl rfl ?_
      refine w_st (i' := 18) (ls' := [.ref 99, .int p1, .int p2]) (st' := [.int (((I 99) 21) - ((I 99) 20))]) (E' := E) (I' := I) (J' := J) (S' := S) am_e199 rfl rfl rfl rfl ?_
      refine w_st (i' := 19) (ls' := [.ref 99, .int p1, .int p2]) (st' := [.int (nI 4), .int (((I 99) 21) - ((I 99) 20))]) (E' := E) (I' := I) (J' := J) (S' := S) am_e199 rfl rfl rfl rfl ?_
      refine w_if2 am_e199 rfl rfl (fun c => ?_) (fun c => ?_)
      · replace h := h.1 (of_decide_eq_true c)
        refine w_st (i' := 29) (ls' := [.ref 99, .int p1, .int p2]) (st' := [.ref 99]) (E' := E) (I' := I) (J' := J) (S' := S) am_e199 rfl rfl rfl rfl ?_
        refine w_st (i' := 30) (ls' := [.ref 99, .int p1, .int p2]) (st' := [.int (nI 2), .ref 99]) (E' := E) (I' := I) (J' := J) (S' := S) am_e199 rfl rfl rfl rfl ?_
        refine w_cV am_e199 rfl rfl (as := [.ref 99, .int (nI 2)]) (rest := []) rfl rfl ?_
        show am_ww 197 0 [.ref 99, .int (nI 2)] [] E I J S _
        refine w_st (i' := 1) (ls' := [.ref 99, .int (nI 2)]) (st' := [.ref 99]) (E' := E) (I' := I) (J' := J) (S' := S) am_e197 rfl rfl rfl rfl ?_
        refine w_st (i' := 2) (ls' := [.ref 99, .int (nI 2)]) (st' := [.int ((I 99) 22)]) (E' := E) (I' := I) (J' := J) (S' := S) am_e197 rfl rfl rfl rfl ?_
        refine w_if1 am_e197 rfl rfl (fun c => ?_) (fun c => ?_)
        · replace h := h.1 (of_decide_eq_true c)
          refine w_st (i' := 5) (ls' := [.ref 99, .int (nI 2)]) (st' := [.ref 99]) (E' := E) (I' := I) (J' := J) (S' := S) am_e197 rfl rfl rfl rfl ?_
          refine w_st (i' := 6) (ls' := [.ref 99, .int (nI 2)]) (st' := [.int (nI 2), .ref 99]) (E' := E) (I' := I) (J' := J) (S' := S) am_e197 rfl rfl rfl rfl ?_
          refine w_st (i' := 7) (ls' := [.ref 99, .int (nI 2)]) (st' := []) (E' := E) (I' := (u_I I 99 (upd (I 99) 22 (nI 2)))) (J' := J) (S' := S) am_e197 rfl rfl rfl rfl ?_
          refine w_st (i' := 8) (ls' := [.ref 99, .int (nI 2)]) (st' := [.ref 99]) (E' := E) (I' := (u_I I 99 (upd (I 99) 22 (nI 2)))) (J' := J) (S' := S) am_e197 rfl rfl rfl rfl ?_
          refine w_st (i' := 9) (ls' := [.ref 99, .int (nI 2)]) (st' := [.ref 99, .ref 99]) (E' := E) (I' := (u_I I 99 (upd (I 99) 22 (nI 2)))) (J' := J) (S' := S) am_e197 rfl rfl rfl rfl ?_
          refine w_st (i' := 10) (ls' := [.ref 99, .int (nI 2)]) (st' := [.int ((I 99) 20), .ref 99]) (E' := E) (I' := (u_I I 99 (upd (I 99) 22 (nI 2)))) (J' := J) (S' := S) am_e197 rfl rfl rfl rfl ?_
          refine w_st (i' := 11) (ls' := [.ref 99, .int (nI 2)]) (st' := []) (E' := E) (I' := (u_I (u_I I 99 (upd (I 99) 22 (nI 2))) 99 (upd (upd (I 99) 22 (nI 2)) 23 ((I 99) 20)))) (J' := J) (S' := S) am_e197 rfl rfl rfl rfl ?_
          refine w_eI (uI_0 ..) ?_
          show am_ww 197 11 [.ref 99, .int (nI 2)] [] E (u_I I 99 (upd (upd (I 99) 22 (nI 2)) 23 ((I 99) 20))) J S _
          refine w_end (E' := E) (I' := (u_I I 99 (upd (upd (I 99) 22 (nI 2)) 23 ((I 99) 20)))) (J' := J) (S' := S) am_e197 rfl rfl rfl (q_mkV ?_)
          show am_ww 199 31 [.ref 99, .int p1, .int p2] [] E (u_I I 99 (upd (upd (I 99) 22 (nI 2)) 23 ((I 99) 20))) J S _
          refine w_st (i' := 32) (ls' := [.ref 99, .int p1, .int p2]) (st' := [.ref 99]) (E' := E) (I' := (u_I I 99 (upd (upd (I 99) 22 (nI 2)) 23 ((I 99) 20)))) (J' := J) (S' := S) am_e199 rfl rfl rfl rfl ?_
          refine w_st (i' := 33) (ls' := [.ref 99, .int p1, .int p2]) (st' := [.int (nI 2)]) (E' := E) (I' := (u_I I 99 (upd (upd (I 99) 22 (nI 2)) 23 ((I 99) 20)))) (J' := J) (S' := S) am_e199 rfl rfl rfl rfl ?_
          refine w_st (i' := 37) (ls' := [.ref 99, .int p1, .int p2]) (st' := []) (E' := E) (I' := (u_I I 99 (upd (upd (I 99) 22 (nI 2)) 23 ((I 99) 20)))) (J' := J) (S' := S) am_e199 rfl rfl rfl rfl ?_
          refine w_st (i' := 38) (ls' := [.ref 99, .int p1, .int p2]) (st' := [.int p1]) (E' := E) (I' := (u_I I 99 (upd (upd (I 99) 22 (nI 2)) 23 ((I 99) 20)))) (J' := J) (S' := S) am_e199 rfl rfl rfl rfl ?_
          exact w_ri am_e199 rfl rfl h
        · replace h := h.2 (of_decide_eq_false c)
          refine w_end (E' := E) (I' := I) (J' := J) (S' := S) am_e197 rfl rfl rfl (q_mkV ?_)
          show am_ww 199 31 [.ref 99, .int p1, .int p2] [] E I J S _
          refine w_st (i' := 32) (ls' := [.ref 99, .int p1, .int p2]) (st' := [.ref 99]) (E' := E) (I' := I) (J' := J) (S' := S) am_e199 rfl rfl rfl rfl ?_
          refine w_st (i' := 33) (ls' := [.ref 99, .int p1, .int p2]) (st' := [.int ((I 99) 22)]) (E' := E) (I' := I) (J' := J) (S' := S) am_e199 rfl rfl rfl rfl ?_
          refine w_mg (i := 38) (ls' := [.ref 99, .int p1, .int p2]) (st' := [.int (if ((I 99) 22) = 0 then ((I 99) 19) else p1)]) (fun hm => ?_) ?_
          · clear h
            refine w_if1 am_e199 rfl rfl (fun c => ?_) (fun c => ?_)
            · have m1 : ¬ (((I 99) 22) = 0) := (of_decide_eq_true c)
              refine w_st (i' := 38) (ls' := [.ref 99, .int p1, .int p2]) (st' := [.int p1]) (E' := E) (I' := I) (J' := J) (S' := S) am_e199 rfl rfl rfl rfl ?_
              first | exact hm | (simp only [if_neg m1] at hm; exact hm)
            · have m1 : ((I 99) 22) = 0 := (Decidable.not_not.mp (of_decide_eq_false c))
              refine w_st (i' := 35) (ls' := [.ref 99, .int p1, .int p2]) (st' := [.ref 99]) (E' := E) (I' := I) (J' := J) (S' := S) am_e199 rfl rfl rfl rfl ?_
              refine w_st (i' := 36) (ls' := [.ref 99, .int p1, .int p2]) (st' := [.int ((I 99) 19)]) (E' := E) (I' := I) (J' := J) (S' := S) am_e199 rfl rfl rfl rfl ?_
              refine w_st (i' := 38) (ls' := [.ref 99, .int p1, .int p2]) (st' := [.int ((I 99) 19)]) (E' := E) (I' := I) (J' := J) (S' := S) am_e199 rfl rfl rfl rfl ?_
              first | exact hm | (simp only [if_pos m1] at hm; exact hm)
          refine w_var (fun w2 => am_ww 199 38 [.ref 99, .int p1, .int p2] [.int w2] E I J S _) (if ((I 99) 22) = 0 then ((I 99) 19) else p1) (fun w2 hw2 => ?_)
          replace h := h w2 hw2
          exact w_ri am_e199 rfl rfl h
      · replace h := h.2 (of_decide_eq_false c)
        refine w_st (i' := 21) (ls' := [.ref 99, .int p1, .int p2]) (st' := [.ref 99]) (E' := E) (I' := I) (J' := J) (S' := S) am_e199 rfl rfl rfl rfl ?_
        refine w_st (i' := 22) (ls' := [.ref 99, .int p1, .int p2]) (st' := [.int ((I 99) 19)]) (E' := E) (I' := I) (J' := J) (S' := S) am_e199 rfl rfl rfl rfl ?_
        refine w_st (i' := 23) (ls' := [.ref 99, .int p1, .int p2]) (st' := [.int p1, .int ((I 99) 19)]) (E' := E) (I' := I) (J' := J) (S' := S) am_e199 rfl rfl rfl rfl ?_
        refine w_if2 am_e199 rfl rfl (fun c => ?_) (fun c => ?_)
        · replace h := h.1 (of_decide_eq_true c)
          refine w_st (i' := 29) (ls' := [.ref 99, .int p1, .int p2]) (st' := [.ref 99]) (E' := E) (I' := I) (J' := J) (S' := S) am_e199 rfl rfl rfl rfl ?_
          refine w_st (i' := 30) (ls' := [.ref 99, .int p1, .int p2]) (st' := [.int (nI 2), .ref 99]) (E' := E) (I' := I) (J' := J) (S' := S) am_e199 rfl rfl rfl rfl ?_
          refine w_cV am_e199 rfl rfl (as := [.ref 99, .int (nI 2)]) (rest := []) rfl rfl ?_
          show am_ww 197 0 [.ref 99, .int (nI 2)] [] E I J S _
          refine w_st (i' := 1) (ls' := [.ref 99, .int (nI 2)]) (st' := [.ref 99]) (E' := E) (I' := I) (J' := J) (S' := S) am_e197 rfl rfl rfl rfl ?_
          refine w_st (i' := 2) (ls' := [.ref 99, .int (nI 2)]) (st' := [.int ((I 99) 22)]) (E' := E) (I' := I) (J' := J) (S' := S) am_e197 rfl rfl rfl rfl ?_
          refine w_if1 am_e197 rfl rfl (fun c => ?_) (fun c => ?_)
          · replace h := h.1 (of_decide_eq_true c)
            refine w_st (i' := 5) (ls' := [.ref 99, .int (nI 2)]) (st' := [.ref 99]) (E' := E) (I' := I) (J' := J) (S' := S) am_e197 rfl rfl rfl rfl ?_
            refine w_st (i' := 6) (ls' := [.ref 99, .int (nI 2)]) (st' := [.int (nI 2), .ref 99]) (E' := E) (I' := I) (J' := J) (S' := S) am_e197 rfl rfl rfl rfl ?_
            refine w_st (i' := 7) (ls' := [.ref 99, .int (nI 2)]) (st' := []) (E' := E) (I' := (u_I I 99 (upd (I 99) 22 (nI 2)))) (J' := J) (S' := S) am_e197 rfl rfl rfl rfl ?_
            refine w_st (i' := 8) (ls' := [.ref 99, .int (nI 2)]) (st' := [.ref 99]) (E' := E) (I' := (u_I I 99 (upd (I 99) 22 (nI 2)))) (J' := J) (S' := S) am_e197 rfl rfl rfl rfl ?_
            refine w_st (i' := 9) (ls' := [.ref 99, .int (nI 2)]) (st' := [.ref 99, .ref 99]) (E' := E) (I' := (u_I I 99 (upd (I 99) 22 (nI 2)))) (J' := J) (S' := S) am_e197 rfl rfl rfl rfl ?_
            refine w_st (i' := 10) (ls' := [.ref 99, .int (nI 2)]) (st' := [.int ((I 99) 20), .ref 99]) (E' := E) (I' := (u_I I 99 (upd (I 99) 22 (nI 2)))) (J' := J) (S' := S) am_e197 rfl rfl rfl rfl ?_
            refine w_st (i' := 11) (ls' := [.ref 99, .int (nI 2)]) (st' := []) (E' := E) (I' := (u_I (u_I I 99 (upd (I 99) 22 (nI 2))) 99 (upd (upd (I 99) 22 (nI 2)) 23 ((I 99) 20)))) (J' := J) (S' := S) am_e197 rfl rfl rfl rfl ?_
            refine w_eI (uI_0 ..) ?_
            show am_ww 197 11 [.ref 99, .int (nI 2)] [] E (u_I I 99 (upd (upd (I 99) 22 (nI 2)) 23 ((I 99) 20))) J S _
            refine w_end (E' := E) (I' := (u_I I 99 (upd (upd (I 99) 22 (nI 2)) 23 ((I 99) 20)))) (J' := J) (S' := S) am_e197 rfl rfl rfl (q_mkV ?_)
            show am_ww 199 31 [.ref 99, .int p1, .int p2] [] E (u_I I 99 (upd (upd (I 99) 22 (nI 2)) 23 ((I 99) 20))) J S _
            refine w_st (i' := 32) (ls' := [.ref 99, .int p1, .int p2]) (st' := [.ref 99]) (E' := E) (I' := (u_I I 99 (upd (upd (I 99) 22 (nI 2)) 23 ((I 99) 20)))) (J' := J) (S' := S) am_e199 rfl rfl rfl rfl ?_
            refine w_st (i' := 33) (ls' := [.ref 99, .int p1, .int p2]) (st' := [.int (nI 2)]) (E' := E) (I' := (u_I I 99 (upd (upd (I 99) 22 (nI 2)) 23 ((I 99) 20)))) (J' := J) (S' := S) am_e199 rfl rfl rfl rfl ?_
            refine w_st (i' := 37) (ls' := [.ref 99, .int p1, .int p2]) (st' := []) (E' := E) (I' := (u_I I 99 (upd (upd (I 99) 22 (nI 2)) 23 ((I 99) 20)))) (J' := J) (S' := S) am_e199 rfl rfl rfl rfl ?_
            refine w_st (i' := 38) (ls' := [.ref 99, .int p1, .int p2]) (st' := [.int p1]) (E' := E) (I' := (u_I I 99 (upd (upd (I 99) 22 (nI 2)) 23 ((I 99) 20)))) (J' := J) (S' := S) am_e199 rfl rfl rfl rfl ?_
            exact w_ri am_e199 rfl rfl h
          · replace h := h.2 (of_decide_eq_false c)
            refine w_end (E' := E) (I' := I) (J' := J) (S' := S) am_e197 rfl rfl rfl (q_mkV ?_)
            show am_ww 199 31 [.ref 99, .int p1, .int p2] [] E I J S _
            refine w_st (i' := 32) (ls' := [.ref 99, .int p1, .int p2]) (st' := [.ref 99]) (E' := E) (I' := I) (J' := J) (S' := S) am_e199 rfl rfl rfl rfl ?_
            refine w_st (i' := 33) (ls' := [.ref 99, .int p1, .int p2]) (st' := [.int ((I 99) 22)]) (E' := E) (I' := I) (J' := J) (S' := S) am_e199 rfl rfl rfl rfl ?_
            refine w_mg (i := 38) (ls' := [.ref 99, .int p1, .int p2]) (st' := [.int (if ((I 99) 22) = 0 then ((I 99) 19) else p1)]) (fun hm => ?_) ?_
            · clear h
              refine w_if1 am_e199 rfl rfl (fun c => ?_) (fun c => ?_)
              · have m3 : ¬ (((I 99) 22) = 0) := (of_decide_eq_true c)
                refine w_st (i' := 38) (ls' := [.ref 99, .int p1, .int p2]) (st' := [.int p1]) (E' := E) (I' := I) (J' := J) (S' := S) am_e199 rfl rfl rfl rfl ?_
                first | exact hm | (simp only [if_neg m3] at hm; exact hm)
              · have m3 : ((I 99) 22) = 0 := (Decidable.not_not.mp (of_decide_eq_false c))
                refine w_st (i' := 35) (ls' := [.ref 99, .int p1, .int p2]) (st' := [.ref 99]) (E' := E) (I' := I) (J' := J) (S' := S) am_e199 rfl rfl rfl rfl ?_
                refine w_st (i' := 36) (ls' := [.ref 99, .int p1, .int p2]) (st' := [.int ((I 99) 19)]) (E' := E) (I' := I) (J' := J) (S' := S) am_e199 rfl rfl rfl rfl ?_
                refine w_st (i' := 38) (ls' := [.ref 99, .int p1, .int p2]) (st' := [.int ((I 99) 19)]) (E' := E) (I' := I) (J' := J) (S' := S) am_e199 rfl rfl rfl rfl ?_
                first | exact hm | (simp only [if_pos m3] at hm; exact hm)
            refine w_var (fun w4 => am_ww 199 38 [.ref 99, .int p1, .int p2] [.int w4] E I J S _) (if ((I 99) 22) = 0 then ((I 99) 19) else p1) (fun w4 hw4 => ?_)
            replace h := h w4 hw4
            exact w_ri am_e199 rfl rfl h
        · replace h := h.2 (of_decide_eq_false c)
          refine w_st (i' := 25) (ls' := [.ref 99, .int p1, .int p2]) (st' := [.ref 99]) (E' := E) (I' := I) (J' := J) (S' := S) am_e199 rfl rfl rfl rfl ?_
          refine w_st (i' := 26) (ls' := [.ref 99, .int p1, .int p2]) (st' := [.int ((I 99) 19)]) (E' := E) (I' := I) (J' := J) (S' := S) am_e199 rfl rfl rfl rfl ?_
          refine w_st (i' := 27) (ls' := [.ref 99, .int p1, .int p2]) (st' := [.int p2, .int ((I 99) 19)]) (E' := E) (I' := I) (J' := J) (S' := S) am_e199 rfl rfl rfl rfl ?_
          refine w_if2 am_e199 rfl rfl (fun c => ?_) (fun c => ?_)
          · replace h := h.1 (of_decide_eq_true c)
            refine w_st (i' := 32) (ls' := [.ref 99, .int p1, .int p2]) (st' := [.ref 99]) (E' := E) (I' := I) (J' := J) (S' := S) am_e199 rfl rfl rfl rfl ?_
            refine w_st (i' := 33) (ls' := [.ref 99, .int p1, .int p2]) (st' := [.int ((I 99) 22)]) (E' := E) (I' := I) (J' := J) (S' := S) am_e199 rfl rfl rfl rfl ?_
            refine w_mg (i := 38) (ls' := [.ref 99, .int p1, .int p2]) (st' := [.int (if ((I 99) 22) = 0 then ((I 99) 19) else p1)]) (fun hm => ?_) ?_
            · clear h
              refine w_if1 am_e199 rfl rfl (fun c => ?_) (fun c => ?_)
              · have m5 : ¬ (((I 99) 22) = 0) := (of_decide_eq_true c)
                refine w_st (i' := 38) (ls' := [.ref 99, .int p1, .int p2]) (st' := [.int p1]) (E' := E) (I' := I) (J' := J) (S' := S) am_e199 rfl rfl rfl rfl ?_
                first | exact hm | (simp only [if_neg m5] at hm; exact hm)
              · have m5 : ((I 99) 22) = 0 := (Decidable.not_not.mp (of_decide_eq_false c))
                refine w_st (i' := 35) (ls' := [.ref 99, .int p1, .int p2]) (st' := [.ref 99]) (E' := E) (I' := I) (J' := J) (S' := S) am_e199 rfl rfl rfl rfl ?_
                refine w_st (i' := 36) (ls' := [.ref 99, .int p1, .int p2]) (st' := [.int ((I 99) 19)]) (E' := E) (I' := I) (J' := J) (S' := S) am_e199 rfl rfl rfl rfl ?_
                refine w_st (i' := 38) (ls' := [.ref 99, .int p1, .int p2]) (st' := [.int ((I 99) 19)]) (E' := E) (I' := I) (J' := J) (S' := S) am_e199 rfl rfl rfl rfl ?_
                first | exact hm | (simp only [if_pos m5] at hm; exact hm)
            refine w_var (fun w6 => am_ww 199 38 [.ref 99, .int p1, .int p2] [.int w6] E I J S _) (if ((I 99) 22) = 0 then ((I 99) 19) else p1) (fun w6 hw6 => ?_)
            replace h := h w6 hw6
            exact w_ri am_e199 rfl rfl h
          · replace h := h.2 (of_decide_eq_false c)
            refine w_st (i' := 29) (ls' := [.ref 99, .int p1, .int p2]) (st' := [.ref 99]) (E' := E) (I' := I) (J' := J) (S' := S) am_e199 rfl rfl rfl rfl ?_
            refine w_st (i' := 30) (ls' := [.ref 99, .int p1, .int p2]) (st' := [.int (nI 2), .ref 99]) (E' := E) (I' := I) (J' := J) (S' := S) am_e199 rfl rfl rfl rfl ?_
            refine w_cV am_e199 rfl rfl (as := [.ref 99, .int (nI 2)]) (rest := []) rfl rfl ?_
            show am_ww 197 0 [.ref 99, .int (nI 2)] [] E I J S _
            refine w_st (i' := 1) (ls' := [.ref 99, .int (nI 2)]) (st' := [.ref 99]) (E' := E) (I' := I) (J' := J) (S' := S) am_e197 rfl rfl rfl rfl ?_
            refine w_st (i' := 2) (ls' := [.ref 99, .int (nI 2)]) (st' := [.int ((I 99) 22)]) (E' := E) (I' := I) (J' := J) (S' := S) am_e197 rfl rfl rfl rfl ?_
            refine w_if1 am_e197 rfl rfl (fun c => ?_) (fun c => ?_)
            · replace h := h.1 (of_decide_eq_true c)
              refine w_st (i' := 5) (ls' := [.ref 99, .int (nI 2)]) (st' := [.ref 99]) (E' := E) (I' := I) (J' := J) (S' := S) am_e197 rfl rfl rfl rfl ?_
              refine w_st (i' := 6) (ls' := [.ref 99, .int (nI 2)]) (st' := [.int (nI 2), .ref 99]) (E' := E) (I' := I) (J' := J) (S' := S) am_e197 rfl rfl rfl rfl ?_
              refine w_st (i' := 7) (ls' := [.ref 99, .int (nI 2)]) (st' := []) (E' := E) (I' := (u_I I 99 (upd (I 99) 22 (nI 2)))) (J' := J) (S' := S) am_e197 rfl rfl rfl rfl ?_
              refine w_st (i' := 8) (ls' := [.ref 99, .int (nI 2)]) (st' := [.ref 99]) (E' := E) (I' := (u_I I 99 (upd (I 99) 22 (nI 2)))) (J' := J) (S' := S) am_e197 rfl rfl rfl rfl ?_
              refine w_st (i' := 9) (ls' := [.ref 99, .int (nI 2)]) (st' := [.ref 99, .ref 99]) (E' := E) (I' := (u_I I 99 (upd (I 99) 22 (nI 2)))) (J' := J) (S' := S) am_e197 rfl rfl rfl rfl ?_
              refine w_st (i' := 10) (ls' := [.ref 99, .int (nI 2)]) (st' := [.int ((I 99) 20), .ref 99]) (E' := E) (I' := (u_I I 99 (upd (I 99) 22 (nI 2)))) (J' := J) (S' := S) am_e197 rfl rfl rfl rfl ?_
              refine w_st (i' := 11) (ls' := [.ref 99, .int (nI 2)]) (st' := []) (E' := E) (I' := (u_I (u_I I 99 (upd (I 99) 22 (nI 2))) 99 (upd (upd (I 99) 22 (nI 2)) 23 ((I 99) 20)))) (J' := J) (S' := S) am_e197 rfl rfl rfl rfl ?_
              refine w_eI (uI_0 ..) ?_
              show am_ww 197 11 [.ref 99, .int (nI 2)] [] E (u_I I 99 (upd (upd (I 99) 22 (nI 2)) 23 ((I 99) 20))) J S _
              refine w_end (E' := E) (I' := (u_I I 99 (upd (upd (I 99) 22 (nI 2)) 23 ((I 99) 20)))) (J' := J) (S' := S) am_e197 rfl rfl rfl (q_mkV ?_)
              show am_ww 199 31 [.ref 99, .int p1, .int p2] [] E (u_I I 99 (upd (upd (I 99) 22 (nI 2)) 23 ((I 99) 20))) J S _
              refine w_st (i' := 32) (ls' := [.ref 99, .int p1, .int p2]) (st' := [.ref 99]) (E' := E) (I' := (u_I I 99 (upd (upd (I 99) 22 (nI 2)) 23 ((I 99) 20)))) (J' := J) (S' := S) am_e199 rfl rfl rfl rfl ?_
              refine w_st (i' := 33) (ls' := [.ref 99, .int p1, .int p2]) (st' := [.int (nI 2)]) (E' := E) (I' := (u_I I 99 (upd (upd (I 99) 22 (nI 2)) 23 ((I 99) 20)))) (J' := J) (S' := S) am_e199 rfl rfl rfl rfl ?_
              refine w_st (i' := 37) (ls' := [.ref 99, .int p1, .int p2]) (st' := []) (E' := E) (I' := (u_I I 99 (upd (upd (I 99) 22 (nI 2)) 23 ((I 99) 20)))) (J' := J) (S' := S) am_e199 rfl rfl rfl rfl ?_
              refine w_st (i' := 38) (ls' := [.ref 99, .int p1, .int p2]) (st' := [.int p1]) (E' := E) (I' := (u_I I 99 (upd (upd (I 99) 22 (nI 2)) 23 ((I 99) 20)))) (J' := J) (S' := S) am_e199 rfl rfl rfl rfl ?_
              exact w_ri am_e199 rfl rfl h
            · replace h := h.2 (of_decide_eq_false c)
              refine w_end (E' := E) (I' := I) (J' := J) (S' := S) am_e197 rfl rfl rfl (q_mkV ?_)
              show am_ww 199 31 [.ref 99, .int p1, .int p2] [] E I J S _
              refine w_st (i' := 32) (ls' := [.ref 99, .int p1, .int p2]) (st' := [.ref 99]) (E' := E) (I' := I) (J' := J) (S' := S) am_e199 rfl rfl rfl rfl ?_
              refine w_st (i' := 33) (ls' := [.ref 99, .int p1, .int p2]) (st' := [.int ((I 99) 22)]) (E' := E) (I' := I) (J' := J) (S' := S) am_e199 rfl rfl rfl rfl ?_
              refine w_mg (i := 38) (ls' := [.ref 99, .int p1, .int p2]) (st' := [.int (if ((I 99) 22) = 0 then ((I 99) 19) else p1)]) (fun hm => ?_) ?_
              · clear h
                refine w_if1 am_e199 rfl rfl (fun c => ?_) (fun c => ?_)
                · have m7 : ¬ (((I 99) 22) = 0) := (of_decide_eq_true c)
                  refine w_st (i' := 38) (ls' := [.ref 99, .int p1, .int p2]) (st' := [.int p1]) (E' := E) (I' := I) (J' := J) (S' := S) am_e199 rfl rfl rfl rfl ?_
                  first | exact hm | (simp only [if_neg m7] at hm; exact hm)
                · have m7 : ((I 99) 22) = 0 := (Decidable.not_not.mp (of_decide_eq_false c))
                  refine w_st (i' := 35) (ls' := [.ref 99, .int p1, .int p2]) (st' := [.ref 99]) (E' := E) (I' := I) (J' := J) (S' := S) am_e199 rfl rfl rfl rfl ?_
                  refine w_st (i' := 36) (ls' := [.ref 99, .int p1, .int p2]) (st' := [.int ((I 99) 19)]) (E' := E) (I' := I) (J' := J) (S' := S) am_e199 rfl rfl rfl rfl ?_
                  refine w_st (i' := 38) (ls' := [.ref 99, .int p1, .int p2]) (st' := [.int ((I 99) 19)]) (E' := E) (I' := I) (J' := J) (S' := S) am_e199 rfl rfl rfl rfl ?_
                  first | exact hm | (simp only [if_pos m7] at hm; exact hm)
              refine w_var (fun w8 => am_ww 199 38 [.ref 99, .int p1, .int p2] [.int w8] E I J S _) (if ((I 99) 22) = 0 then ((I 99) 19) else p1) (fun w8 hw8 => ?_)
              replace h := h w8 hw8
              exact w_ri am_e199 rfl rfl h
    · replace h := h.2 (of_decide_eq_false c)
      refine w_st (i' := 10) (ls' := [.ref 99, .int p1, .int p2]) (st' := [.ref 99]) (E' := E) (I' := I) (J' := J) (S' := S) am_e199 rfl rfl rfl rfl ?_
      refine w_st (i' := 11) (ls' := [.ref 99, .int p1, .int p2]) (st' := [.int (nI 1), .ref 99]) (E' := E) (I' := I) (J' := J) (S' := S) am_e199 rfl rfl rfl rfl ?_
      refine w_cV am_e199 rfl rfl (as := [.ref 99, .int (nI 1)]) (rest := []) rfl rfl ?_
      show am_ww 197 0 [.ref 99, .int (nI 1)] [] E I J S _
      refine w_st (i' := 1) (ls' := [.ref 99, .int (nI 1)]) (st' := [.ref 99]) (E' := E) (I' := I) (J' := J) (S' := S) am_e197 rfl rfl rfl rfl ?_
      refine w_st (i' := 2) (ls' := [.ref 99, .int (nI 1)]) (st' := [.int ((I 99) 22)]) (E' := E) (I' := I) (J' := J) (S' := S) am_e197 rfl rfl rfl rfl ?_
      refine w_if1 am_e197 rfl rfl (fun c => ?_) (fun c => ?_)
      · replace h := h.1 (of_decide_eq_true c)
        refine w_st (i' := 5) (ls' := [.ref 99, .int (nI 1)]) (st' := [.ref 99]) (E' := E) (I' := I) (J' := J) (S' := S) am_e197 rfl rfl rfl rfl ?_
        refine w_st (i' := 6) (ls' := [.ref 99, .int (nI 1)]) (st' := [.int (nI 1), .ref 99]) (E' := E) (I' := I) (J' := J) (S' := S) am_e197 rfl rfl rfl rfl ?_
        refine w_st (i' := 7) (ls' := [.ref 99, .int (nI 1)]) (st' := []) (E' := E) (I' := (u_I I 99 (upd (I 99) 22 (nI 1)))) (J' := J) (S' := S) am_e197 rfl rfl rfl rfl ?_
        refine w_st (i' := 8) (ls' := [.ref 99, .int (nI 1)]) (st' := [.ref 99]) (E' := E) (I' := (u_I I 99 (upd (I 99) 22 (nI 1)))) (J' := J) (S' := S) am_e197 rfl rfl rfl rfl ?_
        refine w_st (i' := 9) (ls' := [.ref 99, .int (nI 1)]) (st' := [.ref 99, .ref 99]) (E' := E) (I' := (u_I I 99 (upd (I 99) 22 (nI 1)))) (J' := J) (S' := S) am_e197 rfl rfl rfl rfl ?_
        refine w_st (i' := 10) (ls' := [.ref 99, .int (nI 1)]) (st' := [.int ((I 99) 20), .ref 99]) (E' := E) (I' := (u_I I 99 (upd (I 99) 22 (nI 1)))) (J' := J) (S' := S) am_e197 rfl rfl rfl rfl ?_
        refine w_st (i' := 11) (ls' := [.ref 99, .int (nI 1)]) (st' := []) (E' := E) (I' := (u_I (u_I I 99 (upd (I 99) 22 (nI 1))) 99 (upd (upd (I 99) 22 (nI 1)) 23 ((I 99) 20)))) (J' := J) (S' := S) am_e197 rfl rfl rfl rfl ?_
        refine w_eI (uI_0 ..) ?_
        show am_ww 197 11 [.ref 99, .int (nI 1)] [] E (u_I I 99 (upd (upd (I 99) 22 (nI 1)) 23 ((I 99) 20))) J S _
        refine w_end (E' := E) (I' := (u_I I 99 (upd (upd (I 99) 22 (nI 1)) 23 ((I 99) 20)))) (J' := J) (S' := S) am_e197 rfl rfl rfl (q_mkV ?_)
        show am_ww 199 12 [.ref 99, .int p1, .int p2] [] E (u_I I 99 (upd (upd (I 99) 22 (nI 1)) 23 ((I 99) 20))) J S _
        refine w_st (i' := 31) (ls' := [.ref 99, .int p1, .int p2]) (st' := []) (E' := E) (I' := (u_I I 99 (upd (upd (I 99) 22 (nI 1)) 23 ((I 99) 20)))) (J' := J) (S' := S) am_e199 rfl rfl rfl rfl ?_
        refine w_st (i' := 32) (ls' := [.ref 99, .int p1, .int p2]) (st' := [.ref 99]) (E' := E) (I' := (u_I I 99 (upd (upd (I 99) 22 (nI 1)) 23 ((I 99) 20)))) (J' := J) (S' := S) am_e199 rfl rfl rfl rfl ?_
        refine w_st (i' := 33) (ls' := [.ref 99, .int p1, .int p2]) (st' := [.int (nI 1)]) (E' := E) (I' := (u_I I 99 (upd (upd (I 99) 22 (nI 1)) 23 ((I 99) 20)))) (J' := J) (S' := S) am_e199 rfl rfl rfl rfl ?_
        refine w_st (i' := 37) (ls' := [.ref 99, .int p1, .int p2]) (st' := []) (E' := E) (I' := (u_I I 99 (upd (upd (I 99) 22 (nI 1)) 23 ((I 99) 20)))) (J' := J) (S' := S) am_e199 rfl rfl rfl rfl ?_
        refine w_st (i' := 38) (ls' := [.ref 99, .int p1, .int p2]) (st' := [.int p1]) (E' := E) (I' := (u_I I 99 (upd (upd (I 99) 22 (nI 1)) 23 ((I 99) 20)))) (J' := J) (S' := S) am_e199 rfl rfl rfl rfl ?_
        exact w_ri am_e199 rfl rfl h
      · replace h := h.2 (of_decide_eq_false c)
        refine w_end (E' := E) (I' := I) (J' := J) (S' := S) am_e197 rfl rfl rfl (q_mkV ?_)
        show am_ww 199 12 [.ref 99, .int p1, .int p2] [] E I J S _
        refine w_st (i' := 31) (ls' := [.ref 99, .int p1, .int p2]) (st' := []) (E' := E) (I' := I) (J' := J) (S' := S) am_e199 rfl rfl rfl rfl ?_
        refine w_st (i' := 32) (ls' := [.ref 99, .int p1, .int p2]) (st' := [.ref 99]) (E' := E) (I' := I) (J' := J) (S' := S) am_e199 rfl rfl rfl rfl ?_
        refine w_st (i' := 33) (ls' := [.ref 99, .int p1, .int p2]) (st' := [.int ((I 99) 22)]) (E' := E) (I' := I) (J' := J) (S' := S) am_e199 rfl rfl rfl rfl ?_
        refine w_mg (i := 38) (ls' := [.ref 99, .int p1, .int p2]) (st' := [.int (if ((I 99) 22) = 0 then ((I 99) 19) else p1)]) (fun hm => ?_) ?_
        · clear h
          refine w_if1 am_e199 rfl rfl (fun c => ?_) (fun c => ?_)
          · have m9 : ¬ (((I 99) 22) = 0) := (of_decide_eq_true c)
            refine w_st (i' := 38) (ls' := [.ref 99, .int p1, .int p2]) (st' := [.int p1]) (E' := E) (I' := I) (J' := J) (S' := S) am_e199 rfl rfl rfl rfl ?_
            first | exact hm | (simp only [if_neg m9] at hm; exact hm)
          · have m9 : ((I 99) 22) = 0 := (Decidable.not_not.mp (of_decide_eq_false c))
            refine w_st (i' := 35) (ls' := [.ref 99, .int p1, .int p2]) (st' := [.ref 99]) (E' := E) (I' := I) (J' := J) (S' := S) am_e199 rfl rfl rfl rfl ?_
            refine w_st (i' := 36) (ls' := [.ref 99, .int p1, .int p2]) (st' := [.int ((I 99) 19)]) (E' := E) (I' := I) (J' := J) (S' := S) am_e199 rfl rfl rfl rfl ?_
            refine w_st (i' := 38) (ls' := [.ref 99, .int p1, .int p2]) (st' := [.int ((I 99) 19)]) (E' := E) (I' := I) (J' := J) (S' := S) am_e199 rfl rfl rfl rfl ?_
            first | exact hm | (simp only [if_pos m9] at hm; exact hm)
        refine w_var (fun w10 => am_ww 199 38 [.ref 99, .int p1, .int p2] [.int w10] E I J S _) (if ((I 99) 22) = 0 then ((I 99) 19) else p1) (fun w10 hw10 => ?_)
        replace h := h w10 hw10
        exact w_ri am_e199 rfl rfl h
  · replace h := h.2 (of_decide_eq_false c)
    refine w_st (i' := 4) (ls' := [.ref 99, .int p1, .int p2]) (st' := [.int p1]) (E' := E) (I' := I) (J' := J) (S' := S) am_e199 rfl rfl rfl rfl ?_
    exact w_ri am_e199 rfl rfl h
-- 198 readNumber
theorem g198_0 {p1 : Int32} {p2 : Int32} {E : am_Ev} {I : Nat → Nat → Int32} {J : Nat → Nat → Int64} {S : Nat → Nat → Option Nat} {Q : am_Qt}  (h : am_cl 199 [.ref 99, .int p1, .int p2] E I J S (q_I fun v1 E1 I1 J1 S1 => (((I1 99) 22) = 0 → (am_cl 190 [.ref 99] E1 I1 J1 S1 (q_V fun E2 I2 J2 S2 => Q (.inl (some (.int v1))) E2 I2 J2 S2))) ∧ (¬ ((I1 99) 22) = 0 → (Q (.inl (some (.int v1))) E1 I1 J1 S1)))) : am_ww 198 0 [.ref 99, .int p1, .int p2, am_U] [] E I J S Q := by
  refine w_st (i' := 1) (ls' := [.ref 99, .int p1, .int p2, am_U]) (st' := [.ref 99]) (E' := E) (I' := I) (J' := J) (S' := S) am_e198 rfl rfl rfl rfl ?_
  refine w_st (i' := 2) (ls' := [.ref 99, .int p1, .int p2, am_U]) (st' := [.int p1, .ref 99]) (E' := E) (I' := I) (J' := J) (S' := S) am_e198 rfl rfl rfl rfl ?_
  refine w_st (i' := 3) (ls' := [.ref 99, .int p1, .int p2, am_U]) (st' := [.int p2, .int p1, .ref 99]) (E' := E) (I' := I) (J' := J) (S' := S) am_e198 rfl rfl rfl rfl ?_
  refine w_cI am_e198 rfl rfl (as := [.ref 99, .int p1, .int p2]) (rest := []) rfl rfl (am_ww.mono h ?_)
  rintro _ E1 I1 J1 S1 ⟨v1, rfl, h⟩
  refine q_mkI ?_
  refine w_st (i' := 5) (ls' := [.ref 99, .int p1, .int p2, .int v1]) (st' := []) (E' := E1) (I' := I1) (J' := J1) (S' := S1) am_e198 rfl rfl rfl rfl ?_
  refine w_st (i' := 6) (ls' := [.ref 99, .int p1, .int p2, .int v1]) (st' := [.ref 99]) (E' := E1) (I' := I1) (J' := J1) (S' := S1) am_e198 rfl rfl rfl rfl ?_
  refine w_st (i' := 7) (ls' := [.ref 99, .int p1, .int p2, .int v1]) (st' := [.int ((I1 99) 22)]) (E' := E1) (I' := I1) (J' := J1) (S' := S1) am_e198 rfl rfl rfl rfl ?_
  refine w_if1 am_e198 rfl rfl (fun c => ?_) (fun c => ?_)
  · replace h := h.2 (of_decide_eq_true c)
    refine w_st (i' := 11) (ls' := [.ref 99, .int p1, .int p2, .int v1]) (st' := [.int v1]) (E' := E1) (I' := I1) (J' := J1) (S' := S1) am_e198 rfl rfl rfl rfl ?_
    exact w_ri am_e198 rfl rfl h
  · replace h := h.1 (Decidable.not_not.mp (of_decide_eq_false c))
    refine w_st (i' := 9) (ls' := [.ref 99, .int p1, .int p2, .int v1]) (st' := [.ref 99]) (E' := E1) (I' := I1) (J' := J1) (S' := S1) am_e198 rfl rfl rfl rfl ?_
    refine w_cV am_e198 rfl rfl (as := [.ref 99]) (rest := []) rfl rfl (am_ww.mono h ?_)
    rintro _ E2 I2 J2 S2 ⟨rfl, h⟩
    refine q_mkV ?_
    refine w_st (i' := 11) (ls' := [.ref 99, .int p1, .int p2, .int v1]) (st' := [.int v1]) (E' := E2) (I' := I2) (J' := J2) (S' := S2) am_e198 rfl rfl rfl rfl ?_
    exact w_ri am_e198 rfl rfl h
-- 211 passes
theorem g211_0 {p1 : Int32} {E : am_Ev} {I : Nat → Nat → Int32} {J : Nat → Nat → Int64} {S : Nat → Nat → Option Nat} {Q : am_Qt}  (h : (((I 99) 22) = 0 → ((((I 99) 18) = (nI 3) → (vp_in ((I 99) 20) 700 ∧ ((((I 111) (((I 99) 20).toNatClampNeg)) = p1 → (am_cl 190 [.ref 99] E I J S (q_V fun E2 I2 J2 S2 => Q (.inl (some (.int (nI 1)))) E2 I2 J2 S2))) ∧ (¬ ((I 111) (((I 99) 20).toNatClampNeg)) = p1 → (Q (.inl (some (.int (nI 0)))) E I J S))))) ∧ (¬ ((I 99) 18) = (nI 3) → (Q (.inl (some (.int (nI 0)))) E I J S)))) ∧ (¬ ((I 99) 22) = 0 → (Q (.inl (some (.int (nI 0)))) E I J S))) : am_ww 211 0 [.ref 99, .int p1, am_U] [] E I J S Q := by
  refine w_st (i' := 1) (ls' := [.ref 99, .int p1, am_U]) (st' := [.ref 99]) (E' := E) (I' := I) (J' := J) (S' := S) am_e211 rfl rfl rfl rfl ?_
  refine w_st (i' := 2) (ls' := [.ref 99, .int p1, am_U]) (st' := [.int p1, .ref 99]) (E' := E) (I' := I) (J' := J) (S' := S) am_e211 rfl rfl rfl rfl ?_
  refine w_cI am_e211 rfl rfl (as := [.ref 99, .int p1]) (rest := []) rfl rfl ?_
  show am_ww 207 0 [.ref 99, .int p1] [] E I J S _
  refine w_st (i' := 1) (ls' := [.ref 99, .int p1]) (st' := [.ref 99]) (E' := E) (I' := I) (J' := J) (S' := S) am_e207 rfl rfl rfl rfl ?_
  refine w_st (i' := 2) (ls' := [.ref 99, .int p1]) (st' := [.int ((I 99) 22)]) (E' := E) (I' := I) (J' := J) (S' := S) am_e207 rfl rfl rfl rfl ?_
  refine w_if1 am_e207 rfl rfl (fun c => ?_) (fun c => ?_)
  · replace h := h.2 (of_decide_eq_true c)
    refine w_st (i' := 17) (ls' := [.ref 99, .int p1]) (st' := [.int (nI 0)]) (E' := E) (I' := I) (J' := J) (S' := S) am_e207 rfl rfl rfl rfl ?_
    refine w_end (E' := E) (I' := I) (J' := J) (S' := S) am_e207 rfl rfl rfl (q_mkI ?_)
    show am_ww 211 3 [.ref 99, .int p1, am_U] [.int (nI 0)] E I J S _
    refine w_st (i' := 4) (ls' := [.ref 99, .int p1, .int (nI 0)]) (st' := []) (E' := E) (I' := I) (J' := J) (S' := S) am_e211 rfl rfl rfl rfl ?_
    refine w_st (i' := 5) (ls' := [.ref 99, .int p1, .int (nI 0)]) (st' := [.int (nI 0)]) (E' := E) (I' := I) (J' := J) (S' := S) am_e211 rfl rfl rfl rfl ?_
    refine w_st (i' := 8) (ls' := [.ref 99, .int p1, .int (nI 0)]) (st' := []) (E' := E) (I' := I) (J' := J) (S' := S) am_e211 rfl rfl rfl rfl ?_
    refine w_st (i' := 9) (ls' := [.ref 99, .int p1, .int (nI 0)]) (st' := [.int (nI 0)]) (E' := E) (I' := I) (J' := J) (S' := S) am_e211 rfl rfl rfl rfl ?_
    exact w_end am_e211 rfl rfl rfl h
  · replace h := h.1 (Decidable.not_not.mp (of_decide_eq_false c))
    refine w_st (i' := 4) (ls' := [.ref 99, .int p1]) (st' := [.ref 99]) (E' := E) (I' := I) (J' := J) (S' := S) am_e207 rfl rfl rfl rfl ?_
    refine w_st (i' := 5) (ls' := [.ref 99, .int p1]) (st' := [.int ((I 99) 18)]) (E' := E) (I' := I) (J' := J) (S' := S) am_e207 rfl rfl rfl rfl ?_
    refine w_st (i' := 6) (ls' := [.ref 99, .int p1]) (st' := [.int (nI 3), .int ((I 99) 18)]) (E' := E) (I' := I) (J' := J) (S' := S) am_e207 rfl rfl rfl rfl ?_
    refine w_if2 am_e207 rfl rfl (fun c => ?_) (fun c => ?_)
    · replace h := h.2 (of_decide_eq_true c)
      refine w_st (i' := 17) (ls' := [.ref 99, .int p1]) (st' := [.int (nI 0)]) (E' := E) (I' := I) (J' := J) (S' := S) am_e207 rfl rfl rfl rfl ?_
      refine w_end (E' := E) (I' := I) (J' := J) (S' := S) am_e207 rfl rfl rfl (q_mkI ?_)
      show am_ww 211 3 [.ref 99, .int p1, am_U] [.int (nI 0)] E I J S _
      refine w_st (i' := 4) (ls' := [.ref 99, .int p1, .int (nI 0)]) (st' := []) (E' := E) (I' := I) (J' := J) (S' := S) am_e211 rfl rfl rfl rfl ?_
      refine w_st (i' := 5) (ls' := [.ref 99, .int p1, .int (nI 0)]) (st' := [.int (nI 0)]) (E' := E) (I' := I) (J' := J) (S' := S) am_e211 rfl rfl rfl rfl ?_
      refine w_st (i' := 8) (ls' := [.ref 99, .int p1, .int (nI 0)]) (st' := []) (E' := E) (I' := I) (J' := J) (S' := S) am_e211 rfl rfl rfl rfl ?_
      refine w_st (i' := 9) (ls' := [.ref 99, .int p1, .int (nI 0)]) (st' := [.int (nI 0)]) (E' := E) (I' := I) (J' := J) (S' := S) am_e211 rfl rfl rfl rfl ?_
      exact w_end am_e211 rfl rfl rfl h
    · replace h := h.1 (Decidable.not_not.mp (of_decide_eq_false c))
      refine w_st (i' := 8) (ls' := [.ref 99, .int p1]) (st' := [.ref 99]) (E' := E) (I' := I) (J' := J) (S' := S) am_e207 rfl rfl rfl rfl ?_
      refine w_st (i' := 9) (ls' := [.ref 99, .int p1]) (st' := [.ref 111]) (E' := E) (I' := I) (J' := J) (S' := S) am_e207 rfl rfl rfl rfl ?_
      refine w_st (i' := 10) (ls' := [.ref 99, .int p1]) (st' := [.ref 99, .ref 111]) (E' := E) (I' := I) (J' := J) (S' := S) am_e207 rfl rfl rfl rfl ?_
      refine w_st (i' := 11) (ls' := [.ref 99, .int p1]) (st' := [.int ((I 99) 20), .ref 111]) (E' := E) (I' := I) (J' := J) (S' := S) am_e207 rfl rfl rfl rfl ?_
      have hf1 := h.1
      replace h := h.2
      refine w_ia (k := 111) (n := 700) (jn := ((I 99) 20).toNatClampNeg) am_e207 rfl rfl (by decide) hf1 rfl ?_
      refine w_st (i' := 13) (ls' := [.ref 99, .int p1]) (st' := [.int p1, .int ((I 111) (((I 99) 20).toNatClampNeg))]) (E' := E) (I' := I) (J' := J) (S' := S) am_e207 rfl rfl rfl rfl ?_
      refine w_if2 am_e207 rfl rfl (fun c => ?_) (fun c => ?_)
      · replace h := h.2 (of_decide_eq_true c)
        refine w_st (i' := 17) (ls' := [.ref 99, .int p1]) (st' := [.int (nI 0)]) (E' := E) (I' := I) (J' := J) (S' := S) am_e207 rfl rfl rfl rfl ?_
        refine w_end (E' := E) (I' := I) (J' := J) (S' := S) am_e207 rfl rfl rfl (q_mkI ?_)
        show am_ww 211 3 [.ref 99, .int p1, am_U] [.int (nI 0)] E I J S _
        refine w_st (i' := 4) (ls' := [.ref 99, .int p1, .int (nI 0)]) (st' := []) (E' := E) (I' := I) (J' := J) (S' := S) am_e211 rfl rfl rfl rfl ?_
        refine w_st (i' := 5) (ls' := [.ref 99, .int p1, .int (nI 0)]) (st' := [.int (nI 0)]) (E' := E) (I' := I) (J' := J) (S' := S) am_e211 rfl rfl rfl rfl ?_
        refine w_st (i' := 8) (ls' := [.ref 99, .int p1, .int (nI 0)]) (st' := []) (E' := E) (I' := I) (J' := J) (S' := S) am_e211 rfl rfl rfl rfl ?_
        refine w_st (i' := 9) (ls' := [.ref 99, .int p1, .int (nI 0)]) (st' := [.int (nI 0)]) (E' := E) (I' := I) (J' := J) (S' := S) am_e211 rfl rfl rfl rfl ?_
        exact w_end am_e211 rfl rfl rfl h
      · replace h := h.1 (Decidable.not_not.mp (of_decide_eq_false c))
        refine w_st (i' := 15) (ls' := [.ref 99, .int p1]) (st' := [.int (nI 1)]) (E' := E) (I' := I) (J' := J) (S' := S) am_e207 rfl rfl rfl rfl ?_
        refine w_st (i' := 17) (ls' := [.ref 99, .int p1]) (st' := [.int (nI 1)]) (E' := E) (I' := I) (J' := J) (S' := S) am_e207 rfl rfl rfl rfl ?_
        refine w_end (E' := E) (I' := I) (J' := J) (S' := S) am_e207 rfl rfl rfl (q_mkI ?_)
        show am_ww 211 3 [.ref 99, .int p1, am_U] [.int (nI 1)] E I J S _
        refine w_st (i' := 4) (ls' := [.ref 99, .int p1, .int (nI 1)]) (st' := []) (E' := E) (I' := I) (J' := J) (S' := S) am_e211 rfl rfl rfl rfl ?_
        refine w_st (i' := 5) (ls' := [.ref 99, .int p1, .int (nI 1)]) (st' := [.int (nI 1)]) (E' := E) (I' := I) (J' := J) (S' := S) am_e211 rfl rfl rfl rfl ?_
        refine w_st (i' := 6) (ls' := [.ref 99, .int p1, .int (nI 1)]) (st' := []) (E' := E) (I' := I) (J' := J) (S' := S) am_e211 rfl rfl rfl rfl ?_
        refine w_st (i' := 7) (ls' := [.ref 99, .int p1, .int (nI 1)]) (st' := [.ref 99]) (E' := E) (I' := I) (J' := J) (S' := S) am_e211 rfl rfl rfl rfl ?_
        refine w_cV am_e211 rfl rfl (as := [.ref 99]) (rest := []) rfl rfl (am_ww.mono h ?_)
        rintro _ E2 I2 J2 S2 ⟨rfl, h⟩
        refine q_mkV ?_
        refine w_st (i' := 9) (ls' := [.ref 99, .int p1, .int (nI 1)]) (st' := [.int (nI 1)]) (E' := E2) (I' := I2) (J' := J2) (S' := S2) am_e211 rfl rfl rfl rfl ?_
        exact w_end am_e211 rfl rfl rfl h
-- 206 mark
theorem g206_0 {p1 : Int32} {E : am_Ev} {I : Nat → Nat → Int32} {J : Nat → Nat → Int64} {S : Nat → Nat → Option Nat} {Q : am_Qt}  (h : (((I 99) 22) = 0 → ((((I 99) 22) = 0 → ((((I 99) 18) = (nI 3) → (vp_in ((I 99) 20) 700 ∧ ((((I 111) (((I 99) 20).toNatClampNeg)) = p1 → ((((I 99) 22) = 0 → (am_cl 190 [.ref 99] E I J S (q_V fun E6 I6 J6 S6 => Q (.inl none) E6 I6 J6 S6))) ∧ (¬ ((I 99) 22) = 0 → (Q (.inl none) E I J S)))) ∧ (¬ ((I 111) (((I 99) 20).toNatClampNeg)) = p1 → ((((I 99) 22) = 0 → (Q (.inl none) E (u_I I 99 (upd (upd (I 99) 22 (nI 1)) 23 ((I 99) 20))) J S)) ∧ (¬ ((I 99) 22) = 0 → ((((I 99) 22) = 0 → (am_cl 190 [.ref 99] E I J S (q_V fun E5 I5 J5 S5 => Q (.inl none) E5 I5 J5 S5))) ∧ (¬ ((I 99) 22) = 0 → (Q (.inl none) E I J S))))))))) ∧ (¬ ((I 99) 18) = (nI 3) → ((((I 99) 22) = 0 → (Q (.inl none) E (u_I I 99 (upd (upd (I 99) 22 (nI 1)) 23 ((I 99) 20))) J S)) ∧ (¬ ((I 99) 22) = 0 → ((((I 99) 22) = 0 → (am_cl 190 [.ref 99] E I J S (q_V fun E3 I3 J3 S3 => Q (.inl none) E3 I3 J3 S3))) ∧ (¬ ((I 99) 22) = 0 → (Q (.inl none) E I J S)))))))) ∧ (¬ ((I 99) 22) = 0 → ((((I 99) 22) = 0 → (Q (.inl none) E (u_I I 99 (upd (upd (I 99) 22 (nI 1)) 23 ((I 99) 20))) J S)) ∧ (¬ ((I 99) 22) = 0 → ((((I 99) 22) = 0 → (am_cl 190 [.ref 99] E I J S (q_V fun E2 I2 J2 S2 => Q (.inl none) E2 I2 J2 S2))) ∧ (¬ ((I 99) 22) = 0 → (Q (.inl none) E I J S)))))))) ∧ (¬ ((I 99) 22) = 0 → ((((I 99) 22) = 0 → (am_cl 190 [.ref 99] E I J S (q_V fun E1 I1 J1 S1 => Q (.inl none) E1 I1 J1 S1))) ∧ (¬ ((I 99) 22) = 0 → (Q (.inl none) E I J S))))) : am_ww 206 0 [.ref 99, .int p1] [] E I J S Q := by
  refine w_st (i' := 1) (ls' := [.ref 99, .int p1]) (st' := [.ref 99]) (E' := E) (I' := I) (J' := J) (S' := S) am_e206 rfl rfl rfl rfl ?_
  refine w_st (i' := 2) (ls' := [.ref 99, .int p1]) (st' := [.int ((I 99) 22)]) (E' := E) (I' := I) (J' := J) (S' := S) am_e206 rfl rfl rfl rfl ?_
  refine w_if1 am_e206 rfl rfl (fun c => ?_) (fun c => ?_)
  · replace h := h.2 (of_decide_eq_true c)
    refine w_st (i' := 11) (ls' := [.ref 99, .int p1]) (st' := [.ref 99]) (E' := E) (I' := I) (J' := J) (S' := S) am_e206 rfl rfl rfl rfl ?_
    refine w_st (i' := 12) (ls' := [.ref 99, .int p1]) (st' := [.int ((I 99) 22)]) (E' := E) (I' := I) (J' := J) (S' := S) am_e206 rfl rfl rfl rfl ?_
    refine w_if1 am_e206 rfl rfl (fun c => ?_) (fun c => ?_)
    · replace h := h.2 (of_decide_eq_true c)
      exact w_end am_e206 rfl rfl rfl h
    · replace h := h.1 (Decidable.not_not.mp (of_decide_eq_false c))
      refine w_st (i' := 14) (ls' := [.ref 99, .int p1]) (st' := [.ref 99]) (E' := E) (I' := I) (J' := J) (S' := S) am_e206 rfl rfl rfl rfl ?_
      refine w_cV am_e206 rfl rfl (as := [.ref 99]) (rest := []) rfl rfl (am_ww.mono h ?_)
      rintro _ E1 I1 J1 S1 ⟨rfl, h⟩
      refine q_mkV ?_
      exact w_end am_e206 rfl rfl rfl h
  · replace h := h.1 (Decidable.not_not.mp (of_decide_eq_false c))
    refine w_st (i' := 4) (ls' := [.ref 99, .int p1]) (st' := [.ref 99]) (E' := E) (I' := I) (J' := J) (S' := S) am_e206 rfl rfl rfl rfl ?_
    refine w_st (i' := 5) (ls' := [.ref 99, .int p1]) (st' := [.int p1, .ref 99]) (E' := E) (I' := I) (J' := J) (S' := S) am_e206 rfl rfl rfl rfl ?_
    refine w_cI am_e206 rfl rfl (as := [.ref 99, .int p1]) (rest := []) rfl rfl ?_
    show am_ww 207 0 [.ref 99, .int p1] [] E I J S _
    refine w_st (i' := 1) (ls' := [.ref 99, .int p1]) (st' := [.ref 99]) (E' := E) (I' := I) (J' := J) (S' := S) am_e207 rfl rfl rfl rfl ?_
    refine w_st (i' := 2) (ls' := [.ref 99, .int p1]) (st' := [.int ((I 99) 22)]) (E' := E) (I' := I) (J' := J) (S' := S) am_e207 rfl rfl rfl rfl ?_
    refine w_if1 am_e207 rfl rfl (fun c => ?_) (fun c => ?_)
    · replace h := h.2 (of_decide_eq_true c)
      refine w_st (i' := 17) (ls' := [.ref 99, .int p1]) (st' := [.int (nI 0)]) (E' := E) (I' := I) (J' := J) (S' := S) am_e207 rfl rfl rfl rfl ?_
      refine w_end (E' := E) (I' := I) (J' := J) (S' := S) am_e207 rfl rfl rfl (q_mkI ?_)
      show am_ww 206 6 [.ref 99, .int p1] [.int (nI 0)] E I J S _
      refine w_st (i' := 7) (ls' := [.ref 99, .int p1]) (st' := []) (E' := E) (I' := I) (J' := J) (S' := S) am_e206 rfl rfl rfl rfl ?_
      refine w_st (i' := 8) (ls' := [.ref 99, .int p1]) (st' := [.ref 99]) (E' := E) (I' := I) (J' := J) (S' := S) am_e206 rfl rfl rfl rfl ?_
      refine w_st (i' := 9) (ls' := [.ref 99, .int p1]) (st' := [.int (nI 1), .ref 99]) (E' := E) (I' := I) (J' := J) (S' := S) am_e206 rfl rfl rfl rfl ?_
      refine w_cV am_e206 rfl rfl (as := [.ref 99, .int (nI 1)]) (rest := []) rfl rfl ?_
      show am_ww 197 0 [.ref 99, .int (nI 1)] [] E I J S _
      refine w_st (i' := 1) (ls' := [.ref 99, .int (nI 1)]) (st' := [.ref 99]) (E' := E) (I' := I) (J' := J) (S' := S) am_e197 rfl rfl rfl rfl ?_
      refine w_st (i' := 2) (ls' := [.ref 99, .int (nI 1)]) (st' := [.int ((I 99) 22)]) (E' := E) (I' := I) (J' := J) (S' := S) am_e197 rfl rfl rfl rfl ?_
      refine w_if1 am_e197 rfl rfl (fun c => ?_) (fun c => ?_)
      · replace h := h.1 (of_decide_eq_true c)
        refine w_st (i' := 5) (ls' := [.ref 99, .int (nI 1)]) (st' := [.ref 99]) (E' := E) (I' := I) (J' := J) (S' := S) am_e197 rfl rfl rfl rfl ?_
        refine w_st (i' := 6) (ls' := [.ref 99, .int (nI 1)]) (st' := [.int (nI 1), .ref 99]) (E' := E) (I' := I) (J' := J) (S' := S) am_e197 rfl rfl rfl rfl ?_
        refine w_st (i' := 7) (ls' := [.ref 99, .int (nI 1)]) (st' := []) (E' := E) (I' := (u_I I 99 (upd (I 99) 22 (nI 1)))) (J' := J) (S' := S) am_e197 rfl rfl rfl rfl ?_
        refine w_st (i' := 8) (ls' := [.ref 99, .int (nI 1)]) (st' := [.ref 99]) (E' := E) (I' := (u_I I 99 (upd (I 99) 22 (nI 1)))) (J' := J) (S' := S) am_e197 rfl rfl rfl rfl ?_
        refine w_st (i' := 9) (ls' := [.ref 99, .int (nI 1)]) (st' := [.ref 99, .ref 99]) (E' := E) (I' := (u_I I 99 (upd (I 99) 22 (nI 1)))) (J' := J) (S' := S) am_e197 rfl rfl rfl rfl ?_
        refine w_st (i' := 10) (ls' := [.ref 99, .int (nI 1)]) (st' := [.int ((I 99) 20), .ref 99]) (E' := E) (I' := (u_I I 99 (upd (I 99) 22 (nI 1)))) (J' := J) (S' := S) am_e197 rfl rfl rfl rfl ?_
        refine w_st (i' := 11) (ls' := [.ref 99, .int (nI 1)]) (st' := []) (E' := E) (I' := (u_I (u_I I 99 (upd (I 99) 22 (nI 1))) 99 (upd (upd (I 99) 22 (nI 1)) 23 ((I 99) 20)))) (J' := J) (S' := S) am_e197 rfl rfl rfl rfl ?_
        refine w_eI (uI_0 ..) ?_
        show am_ww 197 11 [.ref 99, .int (nI 1)] [] E (u_I I 99 (upd (upd (I 99) 22 (nI 1)) 23 ((I 99) 20))) J S _
        refine w_end (E' := E) (I' := (u_I I 99 (upd (upd (I 99) 22 (nI 1)) 23 ((I 99) 20)))) (J' := J) (S' := S) am_e197 rfl rfl rfl (q_mkV ?_)
        show am_ww 206 10 [.ref 99, .int p1] [] E (u_I I 99 (upd (upd (I 99) 22 (nI 1)) 23 ((I 99) 20))) J S _
        refine w_st (i' := 11) (ls' := [.ref 99, .int p1]) (st' := [.ref 99]) (E' := E) (I' := (u_I I 99 (upd (upd (I 99) 22 (nI 1)) 23 ((I 99) 20)))) (J' := J) (S' := S) am_e206 rfl rfl rfl rfl ?_
        refine w_st (i' := 12) (ls' := [.ref 99, .int p1]) (st' := [.int (nI 1)]) (E' := E) (I' := (u_I I 99 (upd (upd (I 99) 22 (nI 1)) 23 ((I 99) 20)))) (J' := J) (S' := S) am_e206 rfl rfl rfl rfl ?_
        refine w_st (i' := 15) (ls' := [.ref 99, .int p1]) (st' := []) (E' := E) (I' := (u_I I 99 (upd (upd (I 99) 22 (nI 1)) 23 ((I 99) 20)))) (J' := J) (S' := S) am_e206 rfl rfl rfl rfl ?_
        exact w_end am_e206 rfl rfl rfl h
      · replace h := h.2 (of_decide_eq_false c)
        refine w_end (E' := E) (I' := I) (J' := J) (S' := S) am_e197 rfl rfl rfl (q_mkV ?_)
        show am_ww 206 10 [.ref 99, .int p1] [] E I J S _
        refine w_st (i' := 11) (ls' := [.ref 99, .int p1]) (st' := [.ref 99]) (E' := E) (I' := I) (J' := J) (S' := S) am_e206 rfl rfl rfl rfl ?_
        refine w_st (i' := 12) (ls' := [.ref 99, .int p1]) (st' := [.int ((I 99) 22)]) (E' := E) (I' := I) (J' := J) (S' := S) am_e206 rfl rfl rfl rfl ?_
        refine w_if1 am_e206 rfl rfl (fun c => ?_) (fun c => ?_)
        · replace h := h.2 (of_decide_eq_true c)
          exact w_end am_e206 rfl rfl rfl h
        · replace h := h.1 (Decidable.not_not.mp (of_decide_eq_false c))
          refine w_st (i' := 14) (ls' := [.ref 99, .int p1]) (st' := [.ref 99]) (E' := E) (I' := I) (J' := J) (S' := S) am_e206 rfl rfl rfl rfl ?_
          refine w_cV am_e206 rfl rfl (as := [.ref 99]) (rest := []) rfl rfl (am_ww.mono h ?_)
          rintro _ E2 I2 J2 S2 ⟨rfl, h⟩
          refine q_mkV ?_
          exact w_end am_e206 rfl rfl rfl h
    · replace h := h.1 (Decidable.not_not.mp (of_decide_eq_false c))
      refine w_st (i' := 4) (ls' := [.ref 99, .int p1]) (st' := [.ref 99]) (E' := E) (I' := I) (J' := J) (S' := S) am_e207 rfl rfl rfl rfl ?_
      refine w_st (i' := 5) (ls' := [.ref 99, .int p1]) (st' := [.int ((I 99) 18)]) (E' := E) (I' := I) (J' := J) (S' := S) am_e207 rfl rfl rfl rfl ?_
      refine w_st (i' := 6) (ls' := [.ref 99, .int p1]) (st' := [.int (nI 3), .int ((I 99) 18)]) (E' := E) (I' := I) (J' := J) (S' := S) am_e207 rfl rfl rfl rfl ?_
      refine w_if2 am_e207 rfl rfl (fun c => ?_) (fun c => ?_)
      · replace h := h.2 (of_decide_eq_true c)
        refine w_st (i' := 17) (ls' := [.ref 99, .int p1]) (st' := [.int (nI 0)]) (E' := E) (I' := I) (J' := J) (S' := S) am_e207 rfl rfl rfl rfl ?_
        refine w_end (E' := E) (I' := I) (J' := J) (S' := S) am_e207 rfl rfl rfl (q_mkI ?_)
        show am_ww 206 6 [.ref 99, .int p1] [.int (nI 0)] E I J S _
        refine w_st (i' := 7) (ls' := [.ref 99, .int p1]) (st' := []) (E' := E) (I' := I) (J' := J) (S' := S) am_e206 rfl rfl rfl rfl ?_
        refine w_st (i' := 8) (ls' := [.ref 99, .int p1]) (st' := [.ref 99]) (E' := E) (I' := I) (J' := J) (S' := S) am_e206 rfl rfl rfl rfl ?_
        refine w_st (i' := 9) (ls' := [.ref 99, .int p1]) (st' := [.int (nI 1), .ref 99]) (E' := E) (I' := I) (J' := J) (S' := S) am_e206 rfl rfl rfl rfl ?_
        refine w_cV am_e206 rfl rfl (as := [.ref 99, .int (nI 1)]) (rest := []) rfl rfl ?_
        show am_ww 197 0 [.ref 99, .int (nI 1)] [] E I J S _
        refine w_st (i' := 1) (ls' := [.ref 99, .int (nI 1)]) (st' := [.ref 99]) (E' := E) (I' := I) (J' := J) (S' := S) am_e197 rfl rfl rfl rfl ?_
        refine w_st (i' := 2) (ls' := [.ref 99, .int (nI 1)]) (st' := [.int ((I 99) 22)]) (E' := E) (I' := I) (J' := J) (S' := S) am_e197 rfl rfl rfl rfl ?_
        refine w_if1 am_e197 rfl rfl (fun c => ?_) (fun c => ?_)
        · replace h := h.1 (of_decide_eq_true c)
          refine w_st (i' := 5) (ls' := [.ref 99, .int (nI 1)]) (st' := [.ref 99]) (E' := E) (I' := I) (J' := J) (S' := S) am_e197 rfl rfl rfl rfl ?_
          refine w_st (i' := 6) (ls' := [.ref 99, .int (nI 1)]) (st' := [.int (nI 1), .ref 99]) (E' := E) (I' := I) (J' := J) (S' := S) am_e197 rfl rfl rfl rfl ?_
          refine w_st (i' := 7) (ls' := [.ref 99, .int (nI 1)]) (st' := []) (E' := E) (I' := (u_I I 99 (upd (I 99) 22 (nI 1)))) (J' := J) (S' := S) am_e197 rfl rfl rfl rfl ?_
          refine w_st (i' := 8) (ls' := [.ref 99, .int (nI 1)]) (st' := [.ref 99]) (E' := E) (I' := (u_I I 99 (upd (I 99) 22 (nI 1)))) (J' := J) (S' := S) am_e197 rfl rfl rfl rfl ?_
          refine w_st (i' := 9) (ls' := [.ref 99, .int (nI 1)]) (st' := [.ref 99, .ref 99]) (E' := E) (I' := (u_I I 99 (upd (I 99) 22 (nI 1)))) (J' := J) (S' := S) am_e197 rfl rfl rfl rfl ?_
          refine w_st (i' := 10) (ls' := [.ref 99, .int (nI 1)]) (st' := [.int ((I 99) 20), .ref 99]) (E' := E) (I' := (u_I I 99 (upd (I 99) 22 (nI 1)))) (J' := J) (S' := S) am_e197 rfl rfl rfl rfl ?_
          refine w_st (i' := 11) (ls' := [.ref 99, .int (nI 1)]) (st' := []) (E' := E) (I' := (u_I (u_I I 99 (upd (I 99) 22 (nI 1))) 99 (upd (upd (I 99) 22 (nI 1)) 23 ((I 99) 20)))) (J' := J) (S' := S) am_e197 rfl rfl rfl rfl ?_
          refine w_eI (uI_0 ..) ?_
          show am_ww 197 11 [.ref 99, .int (nI 1)] [] E (u_I I 99 (upd (upd (I 99) 22 (nI 1)) 23 ((I 99) 20))) J S _
          refine w_end (E' := E) (I' := (u_I I 99 (upd (upd (I 99) 22 (nI 1)) 23 ((I 99) 20)))) (J' := J) (S' := S) am_e197 rfl rfl rfl (q_mkV ?_)
          show am_ww 206 10 [.ref 99, .int p1] [] E (u_I I 99 (upd (upd (I 99) 22 (nI 1)) 23 ((I 99) 20))) J S _
          refine w_st (i' := 11) (ls' := [.ref 99, .int p1]) (st' := [.ref 99]) (E' := E) (I' := (u_I I 99 (upd (upd (I 99) 22 (nI 1)) 23 ((I 99) 20)))) (J' := J) (S' := S) am_e206 rfl rfl rfl rfl ?_
          refine w_st (i' := 12) (ls' := [.ref 99, .int p1]) (st' := [.int (nI 1)]) (E' := E) (I' := (u_I I 99 (upd (upd (I 99) 22 (nI 1)) 23 ((I 99) 20)))) (J' := J) (S' := S) am_e206 rfl rfl rfl rfl ?_
          refine w_st (i' := 15) (ls' := [.ref 99, .int p1]) (st' := []) (E' := E) (I' := (u_I I 99 (upd (upd (I 99) 22 (nI 1)) 23 ((I 99) 20)))) (J' := J) (S' := S) am_e206 rfl rfl rfl rfl ?_
          exact w_end am_e206 rfl rfl rfl h
        · replace h := h.2 (of_decide_eq_false c)
          refine w_end (E' := E) (I' := I) (J' := J) (S' := S) am_e197 rfl rfl rfl (q_mkV ?_)
          show am_ww 206 10 [.ref 99, .int p1] [] E I J S _
          refine w_st (i' := 11) (ls' := [.ref 99, .int p1]) (st' := [.ref 99]) (E' := E) (I' := I) (J' := J) (S' := S) am_e206 rfl rfl rfl rfl ?_
          refine w_st (i' := 12) (ls' := [.ref 99, .int p1]) (st' := [.int ((I 99) 22)]) (E' := E) (I' := I) (J' := J) (S' := S) am_e206 rfl rfl rfl rfl ?_
          refine w_if1 am_e206 rfl rfl (fun c => ?_) (fun c => ?_)
          · replace h := h.2 (of_decide_eq_true c)
            exact w_end am_e206 rfl rfl rfl h
          · replace h := h.1 (Decidable.not_not.mp (of_decide_eq_false c))
            refine w_st (i' := 14) (ls' := [.ref 99, .int p1]) (st' := [.ref 99]) (E' := E) (I' := I) (J' := J) (S' := S) am_e206 rfl rfl rfl rfl ?_
            refine w_cV am_e206 rfl rfl (as := [.ref 99]) (rest := []) rfl rfl (am_ww.mono h ?_)
            rintro _ E3 I3 J3 S3 ⟨rfl, h⟩
            refine q_mkV ?_
            exact w_end am_e206 rfl rfl rfl h
      · replace h := h.1 (Decidable.not_not.mp (of_decide_eq_false c))
        refine w_st (i' := 8) (ls' := [.ref 99, .int p1]) (st' := [.ref 99]) (E' := E) (I' := I) (J' := J) (S' := S) am_e207 rfl rfl rfl rfl ?_
        refine w_st (i' := 9) (ls' := [.ref 99, .int p1]) (st' := [.ref 111]) (E' := E) (I' := I) (J' := J) (S' := S) am_e207 rfl rfl rfl rfl ?_
        refine w_st (i' := 10) (ls' := [.ref 99, .int p1]) (st' := [.ref 99, .ref 111]) (E' := E) (I' := I) (J' := J) (S' := S) am_e207 rfl rfl rfl rfl ?_
        refine w_st (i' := 11) (ls' := [.ref 99, .int p1]) (st' := [.int ((I 99) 20), .ref 111]) (E' := E) (I' := I) (J' := J) (S' := S) am_e207 rfl rfl rfl rfl ?_
        have hf4 := h.1
        replace h := h.2
        refine w_ia (k := 111) (n := 700) (jn := ((I 99) 20).toNatClampNeg) am_e207 rfl rfl (by decide) hf4 rfl ?_
        refine w_st (i' := 13) (ls' := [.ref 99, .int p1]) (st' := [.int p1, .int ((I 111) (((I 99) 20).toNatClampNeg))]) (E' := E) (I' := I) (J' := J) (S' := S) am_e207 rfl rfl rfl rfl ?_
        refine w_if2 am_e207 rfl rfl (fun c => ?_) (fun c => ?_)
        · replace h := h.2 (of_decide_eq_true c)
          refine w_st (i' := 17) (ls' := [.ref 99, .int p1]) (st' := [.int (nI 0)]) (E' := E) (I' := I) (J' := J) (S' := S) am_e207 rfl rfl rfl rfl ?_
          refine w_end (E' := E) (I' := I) (J' := J) (S' := S) am_e207 rfl rfl rfl (q_mkI ?_)
          show am_ww 206 6 [.ref 99, .int p1] [.int (nI 0)] E I J S _
          refine w_st (i' := 7) (ls' := [.ref 99, .int p1]) (st' := []) (E' := E) (I' := I) (J' := J) (S' := S) am_e206 rfl rfl rfl rfl ?_
          refine w_st (i' := 8) (ls' := [.ref 99, .int p1]) (st' := [.ref 99]) (E' := E) (I' := I) (J' := J) (S' := S) am_e206 rfl rfl rfl rfl ?_
          refine w_st (i' := 9) (ls' := [.ref 99, .int p1]) (st' := [.int (nI 1), .ref 99]) (E' := E) (I' := I) (J' := J) (S' := S) am_e206 rfl rfl rfl rfl ?_
          refine w_cV am_e206 rfl rfl (as := [.ref 99, .int (nI 1)]) (rest := []) rfl rfl ?_
          show am_ww 197 0 [.ref 99, .int (nI 1)] [] E I J S _
          refine w_st (i' := 1) (ls' := [.ref 99, .int (nI 1)]) (st' := [.ref 99]) (E' := E) (I' := I) (J' := J) (S' := S) am_e197 rfl rfl rfl rfl ?_
          refine w_st (i' := 2) (ls' := [.ref 99, .int (nI 1)]) (st' := [.int ((I 99) 22)]) (E' := E) (I' := I) (J' := J) (S' := S) am_e197 rfl rfl rfl rfl ?_
          refine w_if1 am_e197 rfl rfl (fun c => ?_) (fun c => ?_)
          · replace h := h.1 (of_decide_eq_true c)
            refine w_st (i' := 5) (ls' := [.ref 99, .int (nI 1)]) (st' := [.ref 99]) (E' := E) (I' := I) (J' := J) (S' := S) am_e197 rfl rfl rfl rfl ?_
            refine w_st (i' := 6) (ls' := [.ref 99, .int (nI 1)]) (st' := [.int (nI 1), .ref 99]) (E' := E) (I' := I) (J' := J) (S' := S) am_e197 rfl rfl rfl rfl ?_
            refine w_st (i' := 7) (ls' := [.ref 99, .int (nI 1)]) (st' := []) (E' := E) (I' := (u_I I 99 (upd (I 99) 22 (nI 1)))) (J' := J) (S' := S) am_e197 rfl rfl rfl rfl ?_
            refine w_st (i' := 8) (ls' := [.ref 99, .int (nI 1)]) (st' := [.ref 99]) (E' := E) (I' := (u_I I 99 (upd (I 99) 22 (nI 1)))) (J' := J) (S' := S) am_e197 rfl rfl rfl rfl ?_
            refine w_st (i' := 9) (ls' := [.ref 99, .int (nI 1)]) (st' := [.ref 99, .ref 99]) (E' := E) (I' := (u_I I 99 (upd (I 99) 22 (nI 1)))) (J' := J) (S' := S) am_e197 rfl rfl rfl rfl ?_
            refine w_st (i' := 10) (ls' := [.ref 99, .int (nI 1)]) (st' := [.int ((I 99) 20), .ref 99]) (E' := E) (I' := (u_I I 99 (upd (I 99) 22 (nI 1)))) (J' := J) (S' := S) am_e197 rfl rfl rfl rfl ?_
            refine w_st (i' := 11) (ls' := [.ref 99, .int (nI 1)]) (st' := []) (E' := E) (I' := (u_I (u_I I 99 (upd (I 99) 22 (nI 1))) 99 (upd (upd (I 99) 22 (nI 1)) 23 ((I 99) 20)))) (J' := J) (S' := S) am_e197 rfl rfl rfl rfl ?_
            refine w_eI (uI_0 ..) ?_
            show am_ww 197 11 [.ref 99, .int (nI 1)] [] E (u_I I 99 (upd (upd (I 99) 22 (nI 1)) 23 ((I 99) 20))) J S _
            refine w_end (E' := E) (I' := (u_I I 99 (upd (upd (I 99) 22 (nI 1)) 23 ((I 99) 20)))) (J' := J) (S' := S) am_e197 rfl rfl rfl (q_mkV ?_)
            show am_ww 206 10 [.ref 99, .int p1] [] E (u_I I 99 (upd (upd (I 99) 22 (nI 1)) 23 ((I 99) 20))) J S _
            refine w_st (i' := 11) (ls' := [.ref 99, .int p1]) (st' := [.ref 99]) (E' := E) (I' := (u_I I 99 (upd (upd (I 99) 22 (nI 1)) 23 ((I 99) 20)))) (J' := J) (S' := S) am_e206 rfl rfl rfl rfl ?_
            refine w_st (i' := 12) (ls' := [.ref 99, .int p1]) (st' := [.int (nI 1)]) (E' := E) (I' := (u_I I 99 (upd (upd (I 99) 22 (nI 1)) 23 ((I 99) 20)))) (J' := J) (S' := S) am_e206 rfl rfl rfl rfl ?_
            refine w_st (i' := 15) (ls' := [.ref 99, .int p1]) (st' := []) (E' := E) (I' := (u_I I 99 (upd (upd (I 99) 22 (nI 1)) 23 ((I 99) 20)))) (J' := J) (S' := S) am_e206 rfl rfl rfl rfl ?_
            exact w_end am_e206 rfl rfl rfl h
          · replace h := h.2 (of_decide_eq_false c)
            refine w_end (E' := E) (I' := I) (J' := J) (S' := S) am_e197 rfl rfl rfl (q_mkV ?_)
            show am_ww 206 10 [.ref 99, .int p1] [] E I J S _
            refine w_st (i' := 11) (ls' := [.ref 99, .int p1]) (st' := [.ref 99]) (E' := E) (I' := I) (J' := J) (S' := S) am_e206 rfl rfl rfl rfl ?_
            refine w_st (i' := 12) (ls' := [.ref 99, .int p1]) (st' := [.int ((I 99) 22)]) (E' := E) (I' := I) (J' := J) (S' := S) am_e206 rfl rfl rfl rfl ?_
            refine w_if1 am_e206 rfl rfl (fun c => ?_) (fun c => ?_)
            · replace h := h.2 (of_decide_eq_true c)
              exact w_end am_e206 rfl rfl rfl h
            · replace h := h.1 (Decidable.not_not.mp (of_decide_eq_false c))
              refine w_st (i' := 14) (ls' := [.ref 99, .int p1]) (st' := [.ref 99]) (E' := E) (I' := I) (J' := J) (S' := S) am_e206 rfl rfl rfl rfl ?_
              refine w_cV am_e206 rfl rfl (as := [.ref 99]) (rest := []) rfl rfl (am_ww.mono h ?_)
              rintro _ E5 I5 J5 S5 ⟨rfl, h⟩
              refine q_mkV ?_
              exact w_end am_e206 rfl rfl rfl h
        · replace h := h.1 (Decidable.not_not.mp (of_decide_eq_false c))
          refine w_st (i' := 15) (ls' := [.ref 99, .int p1]) (st' := [.int (nI 1)]) (E' := E) (I' := I) (J' := J) (S' := S) am_e207 rfl rfl rfl rfl ?_
          refine w_st (i' := 17) (ls' := [.ref 99, .int p1]) (st' := [.int (nI 1)]) (E' := E) (I' := I) (J' := J) (S' := S) am_e207 rfl rfl rfl rfl ?_
          refine w_end (E' := E) (I' := I) (J' := J) (S' := S) am_e207 rfl rfl rfl (q_mkI ?_)
          show am_ww 206 6 [.ref 99, .int p1] [.int (nI 1)] E I J S _
          refine w_st (i' := 10) (ls' := [.ref 99, .int p1]) (st' := []) (E' := E) (I' := I) (J' := J) (S' := S) am_e206 rfl rfl rfl rfl ?_
          refine w_st (i' := 11) (ls' := [.ref 99, .int p1]) (st' := [.ref 99]) (E' := E) (I' := I) (J' := J) (S' := S) am_e206 rfl rfl rfl rfl ?_
          refine w_st (i' := 12) (ls' := [.ref 99, .int p1]) (st' := [.int ((I 99) 22)]) (E' := E) (I' := I) (J' := J) (S' := S) am_e206 rfl rfl rfl rfl ?_
          refine w_if1 am_e206 rfl rfl (fun c => ?_) (fun c => ?_)
          · replace h := h.2 (of_decide_eq_true c)
            exact w_end am_e206 rfl rfl rfl h
          · replace h := h.1 (Decidable.not_not.mp (of_decide_eq_false c))
            refine w_st (i' := 14) (ls' := [.ref 99, .int p1]) (st' := [.ref 99]) (E' := E) (I' := I) (J' := J) (S' := S) am_e206 rfl rfl rfl rfl ?_
            refine w_cV am_e206 rfl rfl (as := [.ref 99]) (rest := []) rfl rfl (am_ww.mono h ?_)
            rintro _ E6 I6 J6 S6 ⟨rfl, h⟩
            refine q_mkV ?_
            exact w_end am_e206 rfl rfl rfl h
-- 210 readSigned
theorem g210_0  {E : am_Ev} {I : Nat → Nat → Int32} {J : Nat → Nat → Int64} {S : Nat → Nat → Option Nat} {Q : am_Qt}  (h : am_cl 211 [.ref 99, .int (nI 45)] E I J S (q_I fun v1 E1 I1 J1 S1 => am_cl 198 [.ref 99, .int (nI 0), .int (nI 9999)] E1 I1 J1 S1 (q_I fun v2 E2 I2 J2 S2 => Q (.inl (some (.int (if v1 = 0 then v2 else (-v2))))) E2 I2 J2 S2))) : am_ww 210 0 [.ref 99, am_U, am_U] [] E I J S Q := by
  refine w_st (i' := 1) (ls' := [.ref 99, am_U, am_U]) (st' := [.ref 99]) (E' := E) (I' := I) (J' := J) (S' := S) am_e210 rfl rfl rfl rfl ?_
  refine w_st (i' := 2) (ls' := [.ref 99, am_U, am_U]) (st' := [.int (nI 45), .ref 99]) (E' := E) (I' := I) (J' := J) (S' := S) am_e210 rfl rfl rfl rfl ?_
  refine w_cI am_e210 rfl rfl (as := [.ref 99, .int (nI 45)]) (rest := []) rfl rfl (am_ww.mono h ?_)
  rintro _ E1 I1 J1 S1 ⟨v1, rfl, h⟩
  refine q_mkI ?_
  refine w_st (i' := 4) (ls' := [.ref 99, .int v1, am_U]) (st' := []) (E' := E1) (I' := I1) (J' := J1) (S' := S1) am_e210 rfl rfl rfl rfl ?_
  refine w_st (i' := 5) (ls' := [.ref 99, .int v1, am_U]) (st' := [.ref 99]) (E' := E1) (I' := I1) (J' := J1) (S' := S1) am_e210 rfl rfl rfl rfl ?_
  refine w_st (i' := 6) (ls' := [.ref 99, .int v1, am_U]) (st' := [.int (nI 0), .ref 99]) (E' := E1) (I' := I1) (J' := J1) (S' := S1) am_e210 rfl rfl rfl rfl ?_
  refine w_st (i' := 7) (ls' := [.ref 99, .int v1, am_U]) (st' := [.int (nI 9999), .int (nI 0), .ref 99]) (E' := E1) (I' := I1) (J' := J1) (S' := S1) am_e210 rfl rfl rfl rfl ?_
  refine w_cI am_e210 rfl rfl (as := [.ref 99, .int (nI 0), .int (nI 9999)]) (rest := []) rfl rfl (am_ww.mono h ?_)
  rintro _ E2 I2 J2 S2 ⟨v2, rfl, h⟩
  refine q_mkI ?_
  refine w_st (i' := 9) (ls' := [.ref 99, .int v1, .int v2]) (st' := []) (E' := E2) (I' := I2) (J' := J2) (S' := S2) am_e210 rfl rfl rfl rfl ?_
  refine w_st (i' := 10) (ls' := [.ref 99, .int v1, .int v2]) (st' := [.int v1]) (E' := E2) (I' := I2) (J' := J2) (S' := S2) am_e210 rfl rfl rfl rfl ?_
  refine w_mg (i := 15) (ls' := [.ref 99, .int v1, .int v2]) (st' := [.int (if v1 = 0 then v2 else (-v2))]) (fun hm => ?_) ?_
  · clear h
    refine w_if1 am_e210 rfl rfl (fun c => ?_) (fun c => ?_)
    · have m3 : v1 = 0 := (of_decide_eq_true c)
      refine w_st (i' := 15) (ls' := [.ref 99, .int v1, .int v2]) (st' := [.int v2]) (E' := E2) (I' := I2) (J' := J2) (S' := S2) am_e210 rfl rfl rfl rfl ?_
      first | exact hm | (simp only [if_pos m3] at hm; exact hm)
    · have m3 : ¬ (v1 = 0) := (of_decide_eq_false c)
      refine w_st (i' := 12) (ls' := [.ref 99, .int v1, .int v2]) (st' := [.int v2]) (E' := E2) (I' := I2) (J' := J2) (S' := S2) am_e210 rfl rfl rfl rfl ?_
      refine w_st (i' := 13) (ls' := [.ref 99, .int v1, .int v2]) (st' := [.int (-v2)]) (E' := E2) (I' := I2) (J' := J2) (S' := S2) am_e210 rfl rfl rfl rfl ?_
      refine w_st (i' := 15) (ls' := [.ref 99, .int v1, .int v2]) (st' := [.int (-v2)]) (E' := E2) (I' := I2) (J' := J2) (S' := S2) am_e210 rfl rfl rfl rfl ?_
      first | exact hm | (simp only [if_neg m3] at hm; exact hm)
  exact w_ri am_e210 rfl rfl h
-- 205 named
theorem g205_0 {p1 : Int32} {p2 : Int32} {p3 : Int32} {E : am_Ev} {I : Nat → Nat → Int32} {J : Nat → Nat → Int64} {S : Nat → Nat → Option Nat} {Q : am_Qt}  (h : am_ww 205 2 [.ref 99, .int p1, .int p2, .int p3, .int (nI 0), am_U, am_U] [] E I J S Q) : am_ww 205 0 [.ref 99, .int p1, .int p2, .int p3, am_U, am_U, am_U] [] E I J S Q := by
  refine w_st (i' := 1) (ls' := [.ref 99, .int p1, .int p2, .int p3, am_U, am_U, am_U]) (st' := [.int (nI 0)]) (E' := E) (I' := I) (J' := J) (S' := S) am_e205 rfl rfl rfl rfl ?_
  refine w_st (i' := 2) (ls' := [.ref 99, .int p1, .int p2, .int p3, .int (nI 0), am_U, am_U]) (st' := []) (E' := E) (I' := I) (J' := J) (S' := S) am_e205 rfl rfl rfl rfl ?_
  exact h
theorem g205_2 {x1 : Int32} {x2 : Int32} {x3 : Int32} {x4 : Int32} {d5 : Value} {d6 : Value} {E : am_Ev} {I : Nat → Nat → Int32} {J : Nat → Nat → Int64} {S : Nat → Nat → Option Nat} {Q : am_Qt} (hd5 : am_isL d5 = false) (hd6 : am_isL d6 = false) (h : (x3 ≤ x4 → (Q (.inl (some (.int (-1)))) E I J S)) ∧ (¬ x3 ≤ x4 → (vp_in x4 16 ∧ (∀ w3 : Int32, w3 = (if ((I 113) x4.toNatClampNeg) = x2 then nI 1 else nI 0) → (am_ww 205 17 [.ref 99, .int x1, .int x2, .int x3, .int x4, .int w3, .int (nI 0)] [] E I J S Q))))) : am_ww 205 2 [.ref 99, .int x1, .int x2, .int x3, .int x4, d5, d6] [] E I J S Q := by
  refine w_st (i' := 3) (ls' := [.ref 99, .int x1, .int x2, .int x3, .int x4, d5, d6]) (st' := [.int x4]) (E' := E) (I' := I) (J' := J) (S' := S) am_e205 rfl rfl rfl rfl ?_
  refine w_st (i' := 4) (ls' := [.ref 99, .int x1, .int x2, .int x3, .int x4, d5, d6]) (st' := [.int x3, .int x4]) (E' := E) (I' := I) (J' := J) (S' := S) am_e205 rfl rfl rfl rfl ?_
  refine w_if2 am_e205 rfl rfl (fun c => ?_) (fun c => ?_)
  · replace h := h.1 (of_decide_eq_true c)
    refine w_st (i' := 51) (ls' := [.ref 99, .int x1, .int x2, .int x3, .int x4, d5, d6]) (st' := [.int (-1)]) (E' := E) (I' := I) (J' := J) (S' := S) am_e205 rfl rfl rfl rfl ?_
    exact w_end am_e205 rfl rfl rfl h
  · replace h := h.2 (of_decide_eq_false c)
    refine w_st (i' := 6) (ls' := [.ref 99, .int x1, .int x2, .int x3, .int x4, d5, d6]) (st' := [.ref 99]) (E' := E) (I' := I) (J' := J) (S' := S) am_e205 rfl rfl rfl rfl ?_
    refine w_st (i' := 7) (ls' := [.ref 99, .int x1, .int x2, .int x3, .int x4, d5, d6]) (st' := [.ref 113]) (E' := E) (I' := I) (J' := J) (S' := S) am_e205 rfl rfl rfl rfl ?_
    refine w_st (i' := 8) (ls' := [.ref 99, .int x1, .int x2, .int x3, .int x4, d5, d6]) (st' := [.int x4, .ref 113]) (E' := E) (I' := I) (J' := J) (S' := S) am_e205 rfl rfl rfl rfl ?_
    have hf1 := h.1
    replace h := h.2
    refine w_ia (k := 113) (n := 16) (jn := x4.toNatClampNeg) am_e205 rfl rfl (by decide) hf1 rfl ?_
    refine w_st (i' := 10) (ls' := [.ref 99, .int x1, .int x2, .int x3, .int x4, d5, d6]) (st' := [.int x2, .int ((I 113) x4.toNatClampNeg)]) (E' := E) (I' := I) (J' := J) (S' := S) am_e205 rfl rfl rfl rfl ?_
    refine w_mg (i := 14) (ls' := [.ref 99, .int x1, .int x2, .int x3, .int x4, d5, d6]) (st' := [.int (if ((I 113) x4.toNatClampNeg) = x2 then nI 1 else nI 0)]) (fun hm => ?_) ?_
    · clear h
      refine w_if2 am_e205 rfl rfl (fun c => ?_) (fun c => ?_)
      · have m2 : ¬ (((I 113) x4.toNatClampNeg) = x2) := (of_decide_eq_true c)
        refine w_st (i' := 14) (ls' := [.ref 99, .int x1, .int x2, .int x3, .int x4, d5, d6]) (st' := [.int (nI 0)]) (E' := E) (I' := I) (J' := J) (S' := S) am_e205 rfl rfl rfl rfl ?_
        first | exact hm | (simp only [if_neg m2] at hm; exact hm)
      · have m2 : ((I 113) x4.toNatClampNeg) = x2 := (Decidable.not_not.mp (of_decide_eq_false c))
        refine w_st (i' := 12) (ls' := [.ref 99, .int x1, .int x2, .int x3, .int x4, d5, d6]) (st' := [.int (nI 1)]) (E' := E) (I' := I) (J' := J) (S' := S) am_e205 rfl rfl rfl rfl ?_
        refine w_st (i' := 14) (ls' := [.ref 99, .int x1, .int x2, .int x3, .int x4, d5, d6]) (st' := [.int (nI 1)]) (E' := E) (I' := I) (J' := J) (S' := S) am_e205 rfl rfl rfl rfl ?_
        first | exact hm | (simp only [if_pos m2] at hm; exact hm)
    refine w_var (fun w3 => am_ww 205 14 [.ref 99, .int x1, .int x2, .int x3, .int x4, d5, d6] [.int w3] E I J S _) (if ((I 113) x4.toNatClampNeg) = x2 then nI 1 else nI 0) (fun w3 hw3 => ?_)
    replace h := h w3 hw3
    refine w_st (i' := 15) (ls' := [.ref 99, .int x1, .int x2, .int x3, .int x4, .int w3, d6]) (st' := []) (E' := E) (I' := I) (J' := J) (S' := S) am_e205 rfl rfl rfl rfl ?_
    refine w_st (i' := 16) (ls' := [.ref 99, .int x1, .int x2, .int x3, .int x4, .int w3, d6]) (st' := [.int (nI 0)]) (E' := E) (I' := I) (J' := J) (S' := S) am_e205 rfl rfl rfl rfl ?_
    refine w_st (i' := 17) (ls' := [.ref 99, .int x1, .int x2, .int x3, .int x4, .int w3, .int (nI 0)]) (st' := []) (E' := E) (I' := I) (J' := J) (S' := S) am_e205 rfl rfl rfl rfl ?_
    exact h
theorem g205_17 {x1 : Int32} {x2 : Int32} {x3 : Int32} {x4 : Int32} {x5 : Int32} {x6 : Int32} {E : am_Ev} {I : Nat → Nat → Int32} {J : Nat → Nat → Int64} {S : Nat → Nat → Option Nat} {Q : am_Qt}  (h : (x5 = 0 → ((x5 = 0 → (am_ww 205 2 [.ref 99, .int x1, .int x2, .int x3, .int (x4 + nI 1), .int x5, .int x6] [] E I J S Q)) ∧ (¬ x5 = 0 → (Q (.inl (some (.int x4))) E I J S)))) ∧ (¬ x5 = 0 → ((x2 ≤ x6 → ((x5 = 0 → (am_ww 205 2 [.ref 99, .int x1, .int x2, .int x3, .int (x4 + nI 1), .int x5, .int x6] [] E I J S Q)) ∧ (¬ x5 = 0 → (Q (.inl (some (.int x4))) E I J S)))) ∧ (¬ x2 ≤ x6 → (vp_in (x1 + x6) 700 ∧ (vp_in x4 16 ∧ (vp_in (((I 112) x4.toNatClampNeg) + x6) 700 ∧ (∀ w5 : Int32, w5 = (if ((I 111) ((x1 + x6).toNatClampNeg)) = ((I 111) ((((I 112) x4.toNatClampNeg) + x6).toNatClampNeg)) then nI 1 else nI 0) → (am_ww 205 17 [.ref 99, .int x1, .int x2, .int x3, .int x4, .int w5, .int (x6 + nI 1)] [] E I J S Q))))))))) : am_ww 205 17 [.ref 99, .int x1, .int x2, .int x3, .int x4, .int x5, .int x6] [] E I J S Q := by
  refine w_st (i' := 18) (ls' := [.ref 99, .int x1, .int x2, .int x3, .int x4, .int x5, .int x6]) (st' := [.int x5]) (E' := E) (I' := I) (J' := J) (S' := S) am_e205 rfl rfl rfl rfl ?_
  refine w_if1 am_e205 rfl rfl (fun c => ?_) (fun c => ?_)
  · replace h := h.1 (of_decide_eq_true c)
    refine w_st (i' := 45) (ls' := [.ref 99, .int x1, .int x2, .int x3, .int x4, .int x5, .int x6]) (st' := [.int x5]) (E' := E) (I' := I) (J' := J) (S' := S) am_e205 rfl rfl rfl rfl ?_
    refine w_if1 am_e205 rfl rfl (fun c => ?_) (fun c => ?_)
    · replace h := h.1 (of_decide_eq_true c)
      refine w_st (i' := 49) (ls' := [.ref 99, .int x1, .int x2, .int x3, .int (x4 + nI 1), .int x5, .int x6]) (st' := []) (E' := E) (I' := I) (J' := J) (S' := S) am_e205 rfl rfl rfl rfl ?_
      refine w_st (i' := 2) (ls' := [.ref 99, .int x1, .int x2, .int x3, .int (x4 + nI 1), .int x5, .int x6]) (st' := []) (E' := E) (I' := I) (J' := J) (S' := S) am_e205 rfl rfl rfl rfl ?_
      exact h
    · replace h := h.2 (of_decide_eq_false c)
      refine w_st (i' := 47) (ls' := [.ref 99, .int x1, .int x2, .int x3, .int x4, .int x5, .int x6]) (st' := [.int x4]) (E' := E) (I' := I) (J' := J) (S' := S) am_e205 rfl rfl rfl rfl ?_
      exact w_ri am_e205 rfl rfl h
  · replace h := h.2 (of_decide_eq_false c)
    refine w_st (i' := 20) (ls' := [.ref 99, .int x1, .int x2, .int x3, .int x4, .int x5, .int x6]) (st' := [.int x6]) (E' := E) (I' := I) (J' := J) (S' := S) am_e205 rfl rfl rfl rfl ?_
    refine w_st (i' := 21) (ls' := [.ref 99, .int x1, .int x2, .int x3, .int x4, .int x5, .int x6]) (st' := [.int x2, .int x6]) (E' := E) (I' := I) (J' := J) (S' := S) am_e205 rfl rfl rfl rfl ?_
    refine w_if2 am_e205 rfl rfl (fun c => ?_) (fun c => ?_)
    · replace h := h.1 (of_decide_eq_true c)
      refine w_st (i' := 45) (ls' := [.ref 99, .int x1, .int x2, .int x3, .int x4, .int x5, .int x6]) (st' := [.int x5]) (E' := E) (I' := I) (J' := J) (S' := S) am_e205 rfl rfl rfl rfl ?_
      refine w_if1 am_e205 rfl rfl (fun c => ?_) (fun c => ?_)
      · replace h := h.1 (of_decide_eq_true c)
        refine w_st (i' := 49) (ls' := [.ref 99, .int x1, .int x2, .int x3, .int (x4 + nI 1), .int x5, .int x6]) (st' := []) (E' := E) (I' := I) (J' := J) (S' := S) am_e205 rfl rfl rfl rfl ?_
        refine w_st (i' := 2) (ls' := [.ref 99, .int x1, .int x2, .int x3, .int (x4 + nI 1), .int x5, .int x6]) (st' := []) (E' := E) (I' := I) (J' := J) (S' := S) am_e205 rfl rfl rfl rfl ?_
        exact h
      · replace h := h.2 (of_decide_eq_false c)
        refine w_st (i' := 47) (ls' := [.ref 99, .int x1, .int x2, .int x3, .int x4, .int x5, .int x6]) (st' := [.int x4]) (E' := E) (I' := I) (J' := J) (S' := S) am_e205 rfl rfl rfl rfl ?_
        exact w_ri am_e205 rfl rfl h
    · replace h := h.2 (of_decide_eq_false c)
      refine w_st (i' := 23) (ls' := [.ref 99, .int x1, .int x2, .int x3, .int x4, .int x5, .int x6]) (st' := [.ref 99]) (E' := E) (I' := I) (J' := J) (S' := S) am_e205 rfl rfl rfl rfl ?_
      refine w_st (i' := 24) (ls' := [.ref 99, .int x1, .int x2, .int x3, .int x4, .int x5, .int x6]) (st' := [.ref 111]) (E' := E) (I' := I) (J' := J) (S' := S) am_e205 rfl rfl rfl rfl ?_
      refine w_st (i' := 25) (ls' := [.ref 99, .int x1, .int x2, .int x3, .int x4, .int x5, .int x6]) (st' := [.int x1, .ref 111]) (E' := E) (I' := I) (J' := J) (S' := S) am_e205 rfl rfl rfl rfl ?_
      refine w_st (i' := 26) (ls' := [.ref 99, .int x1, .int x2, .int x3, .int x4, .int x5, .int x6]) (st' := [.int x6, .int x1, .ref 111]) (E' := E) (I' := I) (J' := J) (S' := S) am_e205 rfl rfl rfl rfl ?_
      refine w_st (i' := 27) (ls' := [.ref 99, .int x1, .int x2, .int x3, .int x4, .int x5, .int x6]) (st' := [.int (x1 + x6), .ref 111]) (E' := E) (I' := I) (J' := J) (S' := S) am_e205 rfl rfl rfl rfl ?_
      have hf1 := h.1
      replace h := h.2
      refine w_ia (k := 111) (n := 700) (jn := (x1 + x6).toNatClampNeg) am_e205 rfl rfl (by decide) hf1 rfl ?_
      refine w_st (i' := 29) (ls' := [.ref 99, .int x1, .int x2, .int x3, .int x4, .int x5, .int x6]) (st' := [.ref 99, .int ((I 111) ((x1 + x6).toNatClampNeg))]) (E' := E) (I' := I) (J' := J) (S' := S) am_e205 rfl rfl rfl rfl ?_
      refine w_st (i' := 30) (ls' := [.ref 99, .int x1, .int x2, .int x3, .int x4, .int x5, .int x6]) (st' := [.ref 111, .int ((I 111) ((x1 + x6).toNatClampNeg))]) (E' := E) (I' := I) (J' := J) (S' := S) am_e205 rfl rfl rfl rfl ?_
      refine w_st (i' := 31) (ls' := [.ref 99, .int x1, .int x2, .int x3, .int x4, .int x5, .int x6]) (st' := [.ref 99, .ref 111, .int ((I 111) ((x1 + x6).toNatClampNeg))]) (E' := E) (I' := I) (J' := J) (S' := S) am_e205 rfl rfl rfl rfl ?_
      refine w_st (i' := 32) (ls' := [.ref 99, .int x1, .int x2, .int x3, .int x4, .int x5, .int x6]) (st' := [.ref 112, .ref 111, .int ((I 111) ((x1 + x6).toNatClampNeg))]) (E' := E) (I' := I) (J' := J) (S' := S) am_e205 rfl rfl rfl rfl ?_
      refine w_st (i' := 33) (ls' := [.ref 99, .int x1, .int x2, .int x3, .int x4, .int x5, .int x6]) (st' := [.int x4, .ref 112, .ref 111, .int ((I 111) ((x1 + x6).toNatClampNeg))]) (E' := E) (I' := I) (J' := J) (S' := S) am_e205 rfl rfl rfl rfl ?_
      have hf2 := h.1
      replace h := h.2
      refine w_ia (k := 112) (n := 16) (jn := x4.toNatClampNeg) am_e205 rfl rfl (by decide) hf2 rfl ?_
      refine w_st (i' := 35) (ls' := [.ref 99, .int x1, .int x2, .int x3, .int x4, .int x5, .int x6]) (st' := [.int x6, .int ((I 112) x4.toNatClampNeg), .ref 111, .int ((I 111) ((x1 + x6).toNatClampNeg))]) (E' := E) (I' := I) (J' := J) (S' := S) am_e205 rfl rfl rfl rfl ?_
      refine w_st (i' := 36) (ls' := [.ref 99, .int x1, .int x2, .int x3, .int x4, .int x5, .int x6]) (st' := [.int (((I 112) x4.toNatClampNeg) + x6), .ref 111, .int ((I 111) ((x1 + x6).toNatClampNeg))]) (E' := E) (I' := I) (J' := J) (S' := S) am_e205 rfl rfl rfl rfl ?_
      have hf3 := h.1
      replace h := h.2
      refine w_ia (k := 111) (n := 700) (jn := (((I 112) x4.toNatClampNeg) + x6).toNatClampNeg) am_e205 rfl rfl (by decide) hf3 rfl ?_
      refine w_mg (i := 41) (ls' := [.ref 99, .int x1, .int x2, .int x3, .int x4, .int x5, .int x6]) (st' := [.int (if ((I 111) ((x1 + x6).toNatClampNeg)) = ((I 111) ((((I 112) x4.toNatClampNeg) + x6).toNatClampNeg)) then nI 1 else nI 0)]) (fun hm => ?_) ?_
      · clear h
        refine w_if2 am_e205 rfl rfl (fun c => ?_) (fun c => ?_)
        · have m4 : ¬ (((I 111) ((x1 + x6).toNatClampNeg)) = ((I 111) ((((I 112) x4.toNatClampNeg) + x6).toNatClampNeg))) := (of_decide_eq_true c)
          refine w_st (i' := 41) (ls' := [.ref 99, .int x1, .int x2, .int x3, .int x4, .int x5, .int x6]) (st' := [.int (nI 0)]) (E' := E) (I' := I) (J' := J) (S' := S) am_e205 rfl rfl rfl rfl ?_
          first | exact hm | (simp only [if_neg m4] at hm; exact hm)
        · have m4 : ((I 111) ((x1 + x6).toNatClampNeg)) = ((I 111) ((((I 112) x4.toNatClampNeg) + x6).toNatClampNeg)) := (Decidable.not_not.mp (of_decide_eq_false c))
          refine w_st (i' := 39) (ls' := [.ref 99, .int x1, .int x2, .int x3, .int x4, .int x5, .int x6]) (st' := [.int (nI 1)]) (E' := E) (I' := I) (J' := J) (S' := S) am_e205 rfl rfl rfl rfl ?_
          refine w_st (i' := 41) (ls' := [.ref 99, .int x1, .int x2, .int x3, .int x4, .int x5, .int x6]) (st' := [.int (nI 1)]) (E' := E) (I' := I) (J' := J) (S' := S) am_e205 rfl rfl rfl rfl ?_
          first | exact hm | (simp only [if_pos m4] at hm; exact hm)
      refine w_var (fun w5 => am_ww 205 41 [.ref 99, .int x1, .int x2, .int x3, .int x4, .int x5, .int x6] [.int w5] E I J S _) (if ((I 111) ((x1 + x6).toNatClampNeg)) = ((I 111) ((((I 112) x4.toNatClampNeg) + x6).toNatClampNeg)) then nI 1 else nI 0) (fun w5 hw5 => ?_)
      replace h := h w5 hw5
      refine w_st (i' := 42) (ls' := [.ref 99, .int x1, .int x2, .int x3, .int x4, .int w5, .int x6]) (st' := []) (E' := E) (I' := I) (J' := J) (S' := S) am_e205 rfl rfl rfl rfl ?_
      refine w_st (i' := 43) (ls' := [.ref 99, .int x1, .int x2, .int x3, .int x4, .int w5, .int (x6 + nI 1)]) (st' := []) (E' := E) (I' := I) (J' := J) (S' := S) am_e205 rfl rfl rfl rfl ?_
      refine w_st (i' := 17) (ls' := [.ref 99, .int x1, .int x2, .int x3, .int x4, .int w5, .int (x6 + nI 1)]) (st' := []) (E' := E) (I' := I) (J' := J) (S' := S) am_e205 rfl rfl rfl rfl ?_
      exact h
-- 202 isQuoted
theorem g202_0  {E : am_Ev} {I : Nat → Nat → Int32} {J : Nat → Nat → Int64} {S : Nat → Nat → Option Nat} {Q : am_Qt}  (h : am_cl 195 [.ref 99, .ref 100] E I J S (q_I fun v1 E1 I1 J1 S1 => (v1 = (-1) → (am_cl 195 [.ref 99, .ref 101] E1 I1 J1 S1 (q_I fun v2 E2 I2 J2 S2 => (v2 = (-1) → (am_cl 195 [.ref 99, .ref 102] E2 I2 J2 S2 (q_I fun v3 E3 I3 J3 S3 => (v3 = (-1) → (Q (.inl (some (.int (nI 0)))) E3 I3 J3 S3)) ∧ (¬ v3 = (-1) → (Q (.inl (some (.int (nI 1)))) E3 I3 J3 S3))))) ∧ (¬ v2 = (-1) → (Q (.inl (some (.int (nI 1)))) E2 I2 J2 S2))))) ∧ (¬ v1 = (-1) → (Q (.inl (some (.int (nI 1)))) E1 I1 J1 S1)))) : am_ww 202 0 [.ref 99] [] E I J S Q := by
  refine w_st (i' := 1) (ls' := [.ref 99]) (st' := [.ref 99]) (E' := E) (I' := I) (J' := J) (S' := S) am_e202 rfl rfl rfl rfl ?_
  refine w_st (i' := 2) (ls' := [.ref 99]) (st' := [.ref 99, .ref 99]) (E' := E) (I' := I) (J' := J) (S' := S) am_e202 rfl rfl rfl rfl ?_
  refine w_st (i' := 3) (ls' := [.ref 99]) (st' := [.ref 100, .ref 99]) (E' := E) (I' := I) (J' := J) (S' := S) am_e202 rfl rfl rfl rfl ?_
  refine w_cI am_e202 rfl rfl (as := [.ref 99, .ref 100]) (rest := []) rfl rfl (am_ww.mono h ?_)
  rintro _ E1 I1 J1 S1 ⟨v1, rfl, h⟩
  refine q_mkI ?_
  refine w_st (i' := 5) (ls' := [.ref 99]) (st' := [.int (-1), .int v1]) (E' := E1) (I' := I1) (J' := J1) (S' := S1) am_e202 rfl rfl rfl rfl ?_
  refine w_if2 am_e202 rfl rfl (fun c => ?_) (fun c => ?_)
  · replace h := h.2 (of_decide_eq_true c)
    refine w_st (i' := 19) (ls' := [.ref 99]) (st' := [.int (nI 1)]) (E' := E1) (I' := I1) (J' := J1) (S' := S1) am_e202 rfl rfl rfl rfl ?_
    refine w_st (i' := 21) (ls' := [.ref 99]) (st' := [.int (nI 1)]) (E' := E1) (I' := I1) (J' := J1) (S' := S1) am_e202 rfl rfl rfl rfl ?_
    exact w_end am_e202 rfl rfl rfl h
  · replace h := h.1 (Decidable.not_not.mp (of_decide_eq_false c))
    refine w_st (i' := 7) (ls' := [.ref 99]) (st' := [.ref 99]) (E' := E1) (I' := I1) (J' := J1) (S' := S1) am_e202 rfl rfl rfl rfl ?_
    refine w_st (i' := 8) (ls' := [.ref 99]) (st' := [.ref 99, .ref 99]) (E' := E1) (I' := I1) (J' := J1) (S' := S1) am_e202 rfl rfl rfl rfl ?_
    refine w_st (i' := 9) (ls' := [.ref 99]) (st' := [.ref 101, .ref 99]) (E' := E1) (I' := I1) (J' := J1) (S' := S1) am_e202 rfl rfl rfl rfl ?_
    refine w_cI am_e202 rfl rfl (as := [.ref 99, .ref 101]) (rest := []) rfl rfl (am_ww.mono h ?_)
    rintro _ E2 I2 J2 S2 ⟨v2, rfl, h⟩
    refine q_mkI ?_
    refine w_st (i' := 11) (ls' := [.ref 99]) (st' := [.int (-1), .int v2]) (E' := E2) (I' := I2) (J' := J2) (S' := S2) am_e202 rfl rfl rfl rfl ?_
    refine w_if2 am_e202 rfl rfl (fun c => ?_) (fun c => ?_)
    · replace h := h.2 (of_decide_eq_true c)
      refine w_st (i' := 19) (ls' := [.ref 99]) (st' := [.int (nI 1)]) (E' := E2) (I' := I2) (J' := J2) (S' := S2) am_e202 rfl rfl rfl rfl ?_
      refine w_st (i' := 21) (ls' := [.ref 99]) (st' := [.int (nI 1)]) (E' := E2) (I' := I2) (J' := J2) (S' := S2) am_e202 rfl rfl rfl rfl ?_
      exact w_end am_e202 rfl rfl rfl h
    · replace h := h.1 (Decidable.not_not.mp (of_decide_eq_false c))
      refine w_st (i' := 13) (ls' := [.ref 99]) (st' := [.ref 99]) (E' := E2) (I' := I2) (J' := J2) (S' := S2) am_e202 rfl rfl rfl rfl ?_
      refine w_st (i' := 14) (ls' := [.ref 99]) (st' := [.ref 99, .ref 99]) (E' := E2) (I' := I2) (J' := J2) (S' := S2) am_e202 rfl rfl rfl rfl ?_
      refine w_st (i' := 15) (ls' := [.ref 99]) (st' := [.ref 102, .ref 99]) (E' := E2) (I' := I2) (J' := J2) (S' := S2) am_e202 rfl rfl rfl rfl ?_
      refine w_cI am_e202 rfl rfl (as := [.ref 99, .ref 102]) (rest := []) rfl rfl (am_ww.mono h ?_)
      rintro _ E3 I3 J3 S3 ⟨v3, rfl, h⟩
      refine q_mkI ?_
      refine w_st (i' := 17) (ls' := [.ref 99]) (st' := [.int (-1), .int v3]) (E' := E3) (I' := I3) (J' := J3) (S' := S3) am_e202 rfl rfl rfl rfl ?_
      refine w_if2 am_e202 rfl rfl (fun c => ?_) (fun c => ?_)
      · replace h := h.1 (of_decide_eq_true c)
        refine w_st (i' := 21) (ls' := [.ref 99]) (st' := [.int (nI 0)]) (E' := E3) (I' := I3) (J' := J3) (S' := S3) am_e202 rfl rfl rfl rfl ?_
        exact w_end am_e202 rfl rfl rfl h
      · replace h := h.2 (of_decide_eq_false c)
        refine w_st (i' := 19) (ls' := [.ref 99]) (st' := [.int (nI 1)]) (E' := E3) (I' := I3) (J' := J3) (S' := S3) am_e202 rfl rfl rfl rfl ?_
        refine w_st (i' := 21) (ls' := [.ref 99]) (st' := [.int (nI 1)]) (E' := E3) (I' := I3) (J' := J3) (S' := S3) am_e202 rfl rfl rfl rfl ?_
        exact w_end am_e202 rfl rfl rfl h
-- 204 nameHere
theorem g204_0  {E : am_Ev} {I : Nat → Nat → Int32} {J : Nat → Nat → Int64} {S : Nat → Nat → Option Nat} {Q : am_Qt}  (h : (((I 99) 22) = 0 → ((((I 99) 18) = (nI 1) → (am_cl 202 [.ref 99] E I J S (q_I fun v1 E1 I1 J1 S1 => (v1 = 0 → (((((I1 99) 21) - ((I1 99) 20)) ≤ (nI 8) → ((((I1 99) 22) = 0 → (Q (.inl (some (.int (nI 1)))) E1 I1 J1 S1)) ∧ (¬ ((I1 99) 22) = 0 → (Q (.inl (some (.int (nI 0)))) E1 I1 J1 S1)))) ∧ (¬ (((I1 99) 21) - ((I1 99) 20)) ≤ (nI 8) → ((((I1 99) 22) = 0 → (Q (.inl (some (.int (nI 0)))) E1 (u_I I1 99 (upd (upd (I1 99) 22 (nI 2)) 23 ((I1 99) 20))) J1 S1)) ∧ (¬ ((I1 99) 22) = 0 → ((((I1 99) 22) = 0 → (Q (.inl (some (.int (nI 1)))) E1 I1 J1 S1)) ∧ (¬ ((I1 99) 22) = 0 → (Q (.inl (some (.int (nI 0)))) E1 I1 J1 S1)))))))) ∧ (¬ v1 = 0 → ((((I1 99) 22) = 0 → (Q (.inl (some (.int (nI 0)))) E1 (u_I I1 99 (upd (upd (I1 99) 22 (nI 1)) 23 ((I1 99) 20))) J1 S1)) ∧ (¬ ((I1 99) 22) = 0 → ((((I1 99) 22) = 0 → (Q (.inl (some (.int (nI 1)))) E1 I1 J1 S1)) ∧ (¬ ((I1 99) 22) = 0 → (Q (.inl (some (.int (nI 0)))) E1 I1 J1 S1))))))))) ∧ (¬ ((I 99) 18) = (nI 1) → ((((I 99) 22) = 0 → (Q (.inl (some (.int (nI 0)))) E (u_I I 99 (upd (upd (I 99) 22 (nI 1)) 23 ((I 99) 20))) J S)) ∧ (¬ ((I 99) 22) = 0 → ((((I 99) 22) = 0 → (Q (.inl (some (.int (nI 1)))) E I J S)) ∧ (¬ ((I 99) 22) = 0 → (Q (.inl (some (.int (nI 0)))) E I J S)))))))) ∧ (¬ ((I 99) 22) = 0 → (Q (.inl (some (.int (nI 0)))) E I J S))) : am_ww 204 0 [.ref 99] [] E I J S Q := by
  refine w_st (i' := 1) (ls' := [.ref 99]) (st' := [.ref 99]) (E' := E) (I' := I) (J' := J) (S' := S) am_e204 rfl rfl rfl rfl ?_
  refine w_st (i' := 2) (ls' := [.ref 99]) (st' := [.int ((I 99) 22)]) (E' := E) (I' := I) (J' := J) (S' := S) am_e204 rfl rfl rfl rfl ?_
  refine w_if1 am_e204 rfl rfl (fun c => ?_) (fun c => ?_)
  · replace h := h.1 (of_decide_eq_true c)
    refine w_st (i' := 6) (ls' := [.ref 99]) (st' := [.ref 99]) (E' := E) (I' := I) (J' := J) (S' := S) am_e204 rfl rfl rfl rfl ?_
    refine w_st (i' := 7) (ls' := [.ref 99]) (st' := [.int ((I 99) 18)]) (E' := E) (I' := I) (J' := J) (S' := S) am_e204 rfl rfl rfl rfl ?_
    refine w_st (i' := 8) (ls' := [.ref 99]) (st' := [.int (nI 1), .int ((I 99) 18)]) (E' := E) (I' := I) (J' := J) (S' := S) am_e204 rfl rfl rfl rfl ?_
    refine w_if2 am_e204 rfl rfl (fun c => ?_) (fun c => ?_)
    · replace h := h.2 (of_decide_eq_true c)
      refine w_st (i' := 13) (ls' := [.ref 99]) (st' := [.ref 99]) (E' := E) (I' := I) (J' := J) (S' := S) am_e204 rfl rfl rfl rfl ?_
      refine w_st (i' := 14) (ls' := [.ref 99]) (st' := [.int (nI 1), .ref 99]) (E' := E) (I' := I) (J' := J) (S' := S) am_e204 rfl rfl rfl rfl ?_
      refine w_cV am_e204 rfl rfl (as := [.ref 99, .int (nI 1)]) (rest := []) rfl rfl ?_
      show am_ww 197 0 [.ref 99, .int (nI 1)] [] E I J S _
      refine w_st (i' := 1) (ls' := [.ref 99, .int (nI 1)]) (st' := [.ref 99]) (E' := E) (I' := I) (J' := J) (S' := S) am_e197 rfl rfl rfl rfl ?_
      refine w_st (i' := 2) (ls' := [.ref 99, .int (nI 1)]) (st' := [.int ((I 99) 22)]) (E' := E) (I' := I) (J' := J) (S' := S) am_e197 rfl rfl rfl rfl ?_
      refine w_if1 am_e197 rfl rfl (fun c => ?_) (fun c => ?_)
      · replace h := h.1 (of_decide_eq_true c)
        refine w_st (i' := 5) (ls' := [.ref 99, .int (nI 1)]) (st' := [.ref 99]) (E' := E) (I' := I) (J' := J) (S' := S) am_e197 rfl rfl rfl rfl ?_
        refine w_st (i' := 6) (ls' := [.ref 99, .int (nI 1)]) (st' := [.int (nI 1), .ref 99]) (E' := E) (I' := I) (J' := J) (S' := S) am_e197 rfl rfl rfl rfl ?_
        refine w_st (i' := 7) (ls' := [.ref 99, .int (nI 1)]) (st' := []) (E' := E) (I' := (u_I I 99 (upd (I 99) 22 (nI 1)))) (J' := J) (S' := S) am_e197 rfl rfl rfl rfl ?_
        refine w_st (i' := 8) (ls' := [.ref 99, .int (nI 1)]) (st' := [.ref 99]) (E' := E) (I' := (u_I I 99 (upd (I 99) 22 (nI 1)))) (J' := J) (S' := S) am_e197 rfl rfl rfl rfl ?_
        refine w_st (i' := 9) (ls' := [.ref 99, .int (nI 1)]) (st' := [.ref 99, .ref 99]) (E' := E) (I' := (u_I I 99 (upd (I 99) 22 (nI 1)))) (J' := J) (S' := S) am_e197 rfl rfl rfl rfl ?_
        refine w_st (i' := 10) (ls' := [.ref 99, .int (nI 1)]) (st' := [.int ((I 99) 20), .ref 99]) (E' := E) (I' := (u_I I 99 (upd (I 99) 22 (nI 1)))) (J' := J) (S' := S) am_e197 rfl rfl rfl rfl ?_
        refine w_st (i' := 11) (ls' := [.ref 99, .int (nI 1)]) (st' := []) (E' := E) (I' := (u_I (u_I I 99 (upd (I 99) 22 (nI 1))) 99 (upd (upd (I 99) 22 (nI 1)) 23 ((I 99) 20)))) (J' := J) (S' := S) am_e197 rfl rfl rfl rfl ?_
        refine w_eI (uI_0 ..) ?_
        show am_ww 197 11 [.ref 99, .int (nI 1)] [] E (u_I I 99 (upd (upd (I 99) 22 (nI 1)) 23 ((I 99) 20))) J S _
        refine w_end (E' := E) (I' := (u_I I 99 (upd (upd (I 99) 22 (nI 1)) 23 ((I 99) 20)))) (J' := J) (S' := S) am_e197 rfl rfl rfl (q_mkV ?_)
        show am_ww 204 15 [.ref 99] [] E (u_I I 99 (upd (upd (I 99) 22 (nI 1)) 23 ((I 99) 20))) J S _
        refine w_st (i' := 26) (ls' := [.ref 99]) (st' := []) (E' := E) (I' := (u_I I 99 (upd (upd (I 99) 22 (nI 1)) 23 ((I 99) 20)))) (J' := J) (S' := S) am_e204 rfl rfl rfl rfl ?_
        refine w_st (i' := 27) (ls' := [.ref 99]) (st' := [.ref 99]) (E' := E) (I' := (u_I I 99 (upd (upd (I 99) 22 (nI 1)) 23 ((I 99) 20)))) (J' := J) (S' := S) am_e204 rfl rfl rfl rfl ?_
        refine w_st (i' := 28) (ls' := [.ref 99]) (st' := [.int (nI 1)]) (E' := E) (I' := (u_I I 99 (upd (upd (I 99) 22 (nI 1)) 23 ((I 99) 20)))) (J' := J) (S' := S) am_e204 rfl rfl rfl rfl ?_
        refine w_st (i' := 31) (ls' := [.ref 99]) (st' := []) (E' := E) (I' := (u_I I 99 (upd (upd (I 99) 22 (nI 1)) 23 ((I 99) 20)))) (J' := J) (S' := S) am_e204 rfl rfl rfl rfl ?_
        refine w_st (i' := 32) (ls' := [.ref 99]) (st' := [.int (nI 0)]) (E' := E) (I' := (u_I I 99 (upd (upd (I 99) 22 (nI 1)) 23 ((I 99) 20)))) (J' := J) (S' := S) am_e204 rfl rfl rfl rfl ?_
        exact w_end am_e204 rfl rfl rfl h
      · replace h := h.2 (of_decide_eq_false c)
        refine w_end (E' := E) (I' := I) (J' := J) (S' := S) am_e197 rfl rfl rfl (q_mkV ?_)
        show am_ww 204 15 [.ref 99] [] E I J S _
        refine w_st (i' := 26) (ls' := [.ref 99]) (st' := []) (E' := E) (I' := I) (J' := J) (S' := S) am_e204 rfl rfl rfl rfl ?_
        refine w_st (i' := 27) (ls' := [.ref 99]) (st' := [.ref 99]) (E' := E) (I' := I) (J' := J) (S' := S) am_e204 rfl rfl rfl rfl ?_
        refine w_st (i' := 28) (ls' := [.ref 99]) (st' := [.int ((I 99) 22)]) (E' := E) (I' := I) (J' := J) (S' := S) am_e204 rfl rfl rfl rfl ?_
        refine w_if1 am_e204 rfl rfl (fun c => ?_) (fun c => ?_)
        · replace h := h.2 (of_decide_eq_true c)
          refine w_st (i' := 32) (ls' := [.ref 99]) (st' := [.int (nI 0)]) (E' := E) (I' := I) (J' := J) (S' := S) am_e204 rfl rfl rfl rfl ?_
          exact w_end am_e204 rfl rfl rfl h
        · replace h := h.1 (Decidable.not_not.mp (of_decide_eq_false c))
          refine w_st (i' := 30) (ls' := [.ref 99]) (st' := [.int (nI 1)]) (E' := E) (I' := I) (J' := J) (S' := S) am_e204 rfl rfl rfl rfl ?_
          refine w_st (i' := 32) (ls' := [.ref 99]) (st' := [.int (nI 1)]) (E' := E) (I' := I) (J' := J) (S' := S) am_e204 rfl rfl rfl rfl ?_
          exact w_end am_e204 rfl rfl rfl h
    · replace h := h.1 (Decidable.not_not.mp (of_decide_eq_false c))
      refine w_st (i' := 10) (ls' := [.ref 99]) (st' := [.ref 99]) (E' := E) (I' := I) (J' := J) (S' := S) am_e204 rfl rfl rfl rfl ?_
      refine w_cI am_e204 rfl rfl (as := [.ref 99]) (rest := []) rfl rfl (am_ww.mono h ?_)
      rintro _ E1 I1 J1 S1 ⟨v1, rfl, h⟩
      refine q_mkI ?_
      refine w_if1 am_e204 rfl rfl (fun c => ?_) (fun c => ?_)
      · replace h := h.1 (of_decide_eq_true c)
        refine w_st (i' := 17) (ls' := [.ref 99]) (st' := [.ref 99]) (E' := E1) (I' := I1) (J' := J1) (S' := S1) am_e204 rfl rfl rfl rfl ?_
        refine w_st (i' := 18) (ls' := [.ref 99]) (st' := [.int ((I1 99) 21)]) (E' := E1) (I' := I1) (J' := J1) (S' := S1) am_e204 rfl rfl rfl rfl ?_
        refine w_st (i' := 19) (ls' := [.ref 99]) (st' := [.ref 99, .int ((I1 99) 21)]) (E' := E1) (I' := I1) (J' := J1) (S' := S1) am_e204 rfl rfl rfl rfl ?_
        refine w_st (i' := 20) (ls' := [.ref 99]) (st' := [.int ((I1 99) 20), .int ((I1 99) 21)]) (E' := E1) (I' := I1) (J' := J1) (S' := S1) am_e204 rfl rfl rfl rfl ?_
        refine w_st (i' := 21) (ls' := [.ref 99]) (st' := [.int (((I1 99) 21) - ((I1 99) 20))]) (E' := E1) (I' := I1) (J' := J1) (S' := S1) am_e204 rfl rfl rfl rfl ?_
        refine w_st (i' := 22) (ls' := [.ref 99]) (st' := [.int (nI 8), .int (((I1 99) 21) - ((I1 99) 20))]) (E' := E1) (I' := I1) (J' := J1) (S' := S1) am_e204 rfl rfl rfl rfl ?_
        refine w_if2 am_e204 rfl rfl (fun c => ?_) (fun c => ?_)
        · replace h := h.1 (of_decide_eq_true c)
          refine w_st (i' := 27) (ls' := [.ref 99]) (st' := [.ref 99]) (E' := E1) (I' := I1) (J' := J1) (S' := S1) am_e204 rfl rfl rfl rfl ?_
          refine w_st (i' := 28) (ls' := [.ref 99]) (st' := [.int ((I1 99) 22)]) (E' := E1) (I' := I1) (J' := J1) (S' := S1) am_e204 rfl rfl rfl rfl ?_
          refine w_if1 am_e204 rfl rfl (fun c => ?_) (fun c => ?_)
          · replace h := h.2 (of_decide_eq_true c)
            refine w_st (i' := 32) (ls' := [.ref 99]) (st' := [.int (nI 0)]) (E' := E1) (I' := I1) (J' := J1) (S' := S1) am_e204 rfl rfl rfl rfl ?_
            exact w_end am_e204 rfl rfl rfl h
          · replace h := h.1 (Decidable.not_not.mp (of_decide_eq_false c))
            refine w_st (i' := 30) (ls' := [.ref 99]) (st' := [.int (nI 1)]) (E' := E1) (I' := I1) (J' := J1) (S' := S1) am_e204 rfl rfl rfl rfl ?_
            refine w_st (i' := 32) (ls' := [.ref 99]) (st' := [.int (nI 1)]) (E' := E1) (I' := I1) (J' := J1) (S' := S1) am_e204 rfl rfl rfl rfl ?_
            exact w_end am_e204 rfl rfl rfl h
        · replace h := h.2 (of_decide_eq_false c)
          refine w_st (i' := 24) (ls' := [.ref 99]) (st' := [.ref 99]) (E' := E1) (I' := I1) (J' := J1) (S' := S1) am_e204 rfl rfl rfl rfl ?_
          refine w_st (i' := 25) (ls' := [.ref 99]) (st' := [.int (nI 2), .ref 99]) (E' := E1) (I' := I1) (J' := J1) (S' := S1) am_e204 rfl rfl rfl rfl ?_
          refine w_cV am_e204 rfl rfl (as := [.ref 99, .int (nI 2)]) (rest := []) rfl rfl ?_
          show am_ww 197 0 [.ref 99, .int (nI 2)] [] E1 I1 J1 S1 _
          refine w_st (i' := 1) (ls' := [.ref 99, .int (nI 2)]) (st' := [.ref 99]) (E' := E1) (I' := I1) (J' := J1) (S' := S1) am_e197 rfl rfl rfl rfl ?_
          refine w_st (i' := 2) (ls' := [.ref 99, .int (nI 2)]) (st' := [.int ((I1 99) 22)]) (E' := E1) (I' := I1) (J' := J1) (S' := S1) am_e197 rfl rfl rfl rfl ?_
          refine w_if1 am_e197 rfl rfl (fun c => ?_) (fun c => ?_)
          · replace h := h.1 (of_decide_eq_true c)
            refine w_st (i' := 5) (ls' := [.ref 99, .int (nI 2)]) (st' := [.ref 99]) (E' := E1) (I' := I1) (J' := J1) (S' := S1) am_e197 rfl rfl rfl rfl ?_
            refine w_st (i' := 6) (ls' := [.ref 99, .int (nI 2)]) (st' := [.int (nI 2), .ref 99]) (E' := E1) (I' := I1) (J' := J1) (S' := S1) am_e197 rfl rfl rfl rfl ?_
            refine w_st (i' := 7) (ls' := [.ref 99, .int (nI 2)]) (st' := []) (E' := E1) (I' := (u_I I1 99 (upd (I1 99) 22 (nI 2)))) (J' := J1) (S' := S1) am_e197 rfl rfl rfl rfl ?_
            refine w_st (i' := 8) (ls' := [.ref 99, .int (nI 2)]) (st' := [.ref 99]) (E' := E1) (I' := (u_I I1 99 (upd (I1 99) 22 (nI 2)))) (J' := J1) (S' := S1) am_e197 rfl rfl rfl rfl ?_
            refine w_st (i' := 9) (ls' := [.ref 99, .int (nI 2)]) (st' := [.ref 99, .ref 99]) (E' := E1) (I' := (u_I I1 99 (upd (I1 99) 22 (nI 2)))) (J' := J1) (S' := S1) am_e197 rfl rfl rfl rfl ?_
            refine w_st (i' := 10) (ls' := [.ref 99, .int (nI 2)]) (st' := [.int ((I1 99) 20), .ref 99]) (E' := E1) (I' := (u_I I1 99 (upd (I1 99) 22 (nI 2)))) (J' := J1) (S' := S1) am_e197 rfl rfl rfl rfl ?_
            refine w_st (i' := 11) (ls' := [.ref 99, .int (nI 2)]) (st' := []) (E' := E1) (I' := (u_I (u_I I1 99 (upd (I1 99) 22 (nI 2))) 99 (upd (upd (I1 99) 22 (nI 2)) 23 ((I1 99) 20)))) (J' := J1) (S' := S1) am_e197 rfl rfl rfl rfl ?_
            refine w_eI (uI_0 ..) ?_
            show am_ww 197 11 [.ref 99, .int (nI 2)] [] E1 (u_I I1 99 (upd (upd (I1 99) 22 (nI 2)) 23 ((I1 99) 20))) J1 S1 _
            refine w_end (E' := E1) (I' := (u_I I1 99 (upd (upd (I1 99) 22 (nI 2)) 23 ((I1 99) 20)))) (J' := J1) (S' := S1) am_e197 rfl rfl rfl (q_mkV ?_)
            show am_ww 204 26 [.ref 99] [] E1 (u_I I1 99 (upd (upd (I1 99) 22 (nI 2)) 23 ((I1 99) 20))) J1 S1 _
            refine w_st (i' := 27) (ls' := [.ref 99]) (st' := [.ref 99]) (E' := E1) (I' := (u_I I1 99 (upd (upd (I1 99) 22 (nI 2)) 23 ((I1 99) 20)))) (J' := J1) (S' := S1) am_e204 rfl rfl rfl rfl ?_
            refine w_st (i' := 28) (ls' := [.ref 99]) (st' := [.int (nI 2)]) (E' := E1) (I' := (u_I I1 99 (upd (upd (I1 99) 22 (nI 2)) 23 ((I1 99) 20)))) (J' := J1) (S' := S1) am_e204 rfl rfl rfl rfl ?_
            refine w_st (i' := 31) (ls' := [.ref 99]) (st' := []) (E' := E1) (I' := (u_I I1 99 (upd (upd (I1 99) 22 (nI 2)) 23 ((I1 99) 20)))) (J' := J1) (S' := S1) am_e204 rfl rfl rfl rfl ?_
            refine w_st (i' := 32) (ls' := [.ref 99]) (st' := [.int (nI 0)]) (E' := E1) (I' := (u_I I1 99 (upd (upd (I1 99) 22 (nI 2)) 23 ((I1 99) 20)))) (J' := J1) (S' := S1) am_e204 rfl rfl rfl rfl ?_
            exact w_end am_e204 rfl rfl rfl h
          · replace h := h.2 (of_decide_eq_false c)
            refine w_end (E' := E1) (I' := I1) (J' := J1) (S' := S1) am_e197 rfl rfl rfl (q_mkV ?_)
            show am_ww 204 26 [.ref 99] [] E1 I1 J1 S1 _
            refine w_st (i' := 27) (ls' := [.ref 99]) (st' := [.ref 99]) (E' := E1) (I' := I1) (J' := J1) (S' := S1) am_e204 rfl rfl rfl rfl ?_
            refine w_st (i' := 28) (ls' := [.ref 99]) (st' := [.int ((I1 99) 22)]) (E' := E1) (I' := I1) (J' := J1) (S' := S1) am_e204 rfl rfl rfl rfl ?_
            refine w_if1 am_e204 rfl rfl (fun c => ?_) (fun c => ?_)
            · replace h := h.2 (of_decide_eq_true c)
              refine w_st (i' := 32) (ls' := [.ref 99]) (st' := [.int (nI 0)]) (E' := E1) (I' := I1) (J' := J1) (S' := S1) am_e204 rfl rfl rfl rfl ?_
              exact w_end am_e204 rfl rfl rfl h
            · replace h := h.1 (Decidable.not_not.mp (of_decide_eq_false c))
              refine w_st (i' := 30) (ls' := [.ref 99]) (st' := [.int (nI 1)]) (E' := E1) (I' := I1) (J' := J1) (S' := S1) am_e204 rfl rfl rfl rfl ?_
              refine w_st (i' := 32) (ls' := [.ref 99]) (st' := [.int (nI 1)]) (E' := E1) (I' := I1) (J' := J1) (S' := S1) am_e204 rfl rfl rfl rfl ?_
              exact w_end am_e204 rfl rfl rfl h
      · replace h := h.2 (of_decide_eq_false c)
        refine w_st (i' := 13) (ls' := [.ref 99]) (st' := [.ref 99]) (E' := E1) (I' := I1) (J' := J1) (S' := S1) am_e204 rfl rfl rfl rfl ?_
        refine w_st (i' := 14) (ls' := [.ref 99]) (st' := [.int (nI 1), .ref 99]) (E' := E1) (I' := I1) (J' := J1) (S' := S1) am_e204 rfl rfl rfl rfl ?_
        refine w_cV am_e204 rfl rfl (as := [.ref 99, .int (nI 1)]) (rest := []) rfl rfl ?_
        show am_ww 197 0 [.ref 99, .int (nI 1)] [] E1 I1 J1 S1 _
        refine w_st (i' := 1) (ls' := [.ref 99, .int (nI 1)]) (st' := [.ref 99]) (E' := E1) (I' := I1) (J' := J1) (S' := S1) am_e197 rfl rfl rfl rfl ?_
        refine w_st (i' := 2) (ls' := [.ref 99, .int (nI 1)]) (st' := [.int ((I1 99) 22)]) (E' := E1) (I' := I1) (J' := J1) (S' := S1) am_e197 rfl rfl rfl rfl ?_
        refine w_if1 am_e197 rfl rfl (fun c => ?_) (fun c => ?_)
        · replace h := h.1 (of_decide_eq_true c)
          refine w_st (i' := 5) (ls' := [.ref 99, .int (nI 1)]) (st' := [.ref 99]) (E' := E1) (I' := I1) (J' := J1) (S' := S1) am_e197 rfl rfl rfl rfl ?_
          refine w_st (i' := 6) (ls' := [.ref 99, .int (nI 1)]) (st' := [.int (nI 1), .ref 99]) (E' := E1) (I' := I1) (J' := J1) (S' := S1) am_e197 rfl rfl rfl rfl ?_
          refine w_st (i' := 7) (ls' := [.ref 99, .int (nI 1)]) (st' := []) (E' := E1) (I' := (u_I I1 99 (upd (I1 99) 22 (nI 1)))) (J' := J1) (S' := S1) am_e197 rfl rfl rfl rfl ?_
          refine w_st (i' := 8) (ls' := [.ref 99, .int (nI 1)]) (st' := [.ref 99]) (E' := E1) (I' := (u_I I1 99 (upd (I1 99) 22 (nI 1)))) (J' := J1) (S' := S1) am_e197 rfl rfl rfl rfl ?_
          refine w_st (i' := 9) (ls' := [.ref 99, .int (nI 1)]) (st' := [.ref 99, .ref 99]) (E' := E1) (I' := (u_I I1 99 (upd (I1 99) 22 (nI 1)))) (J' := J1) (S' := S1) am_e197 rfl rfl rfl rfl ?_
          refine w_st (i' := 10) (ls' := [.ref 99, .int (nI 1)]) (st' := [.int ((I1 99) 20), .ref 99]) (E' := E1) (I' := (u_I I1 99 (upd (I1 99) 22 (nI 1)))) (J' := J1) (S' := S1) am_e197 rfl rfl rfl rfl ?_
          refine w_st (i' := 11) (ls' := [.ref 99, .int (nI 1)]) (st' := []) (E' := E1) (I' := (u_I (u_I I1 99 (upd (I1 99) 22 (nI 1))) 99 (upd (upd (I1 99) 22 (nI 1)) 23 ((I1 99) 20)))) (J' := J1) (S' := S1) am_e197 rfl rfl rfl rfl ?_
          refine w_eI (uI_0 ..) ?_
          show am_ww 197 11 [.ref 99, .int (nI 1)] [] E1 (u_I I1 99 (upd (upd (I1 99) 22 (nI 1)) 23 ((I1 99) 20))) J1 S1 _
          refine w_end (E' := E1) (I' := (u_I I1 99 (upd (upd (I1 99) 22 (nI 1)) 23 ((I1 99) 20)))) (J' := J1) (S' := S1) am_e197 rfl rfl rfl (q_mkV ?_)
          show am_ww 204 15 [.ref 99] [] E1 (u_I I1 99 (upd (upd (I1 99) 22 (nI 1)) 23 ((I1 99) 20))) J1 S1 _
          refine w_st (i' := 26) (ls' := [.ref 99]) (st' := []) (E' := E1) (I' := (u_I I1 99 (upd (upd (I1 99) 22 (nI 1)) 23 ((I1 99) 20)))) (J' := J1) (S' := S1) am_e204 rfl rfl rfl rfl ?_
          refine w_st (i' := 27) (ls' := [.ref 99]) (st' := [.ref 99]) (E' := E1) (I' := (u_I I1 99 (upd (upd (I1 99) 22 (nI 1)) 23 ((I1 99) 20)))) (J' := J1) (S' := S1) am_e204 rfl rfl rfl rfl ?_
          refine w_st (i' := 28) (ls' := [.ref 99]) (st' := [.int (nI 1)]) (E' := E1) (I' := (u_I I1 99 (upd (upd (I1 99) 22 (nI 1)) 23 ((I1 99) 20)))) (J' := J1) (S' := S1) am_e204 rfl rfl rfl rfl ?_
          refine w_st (i' := 31) (ls' := [.ref 99]) (st' := []) (E' := E1) (I' := (u_I I1 99 (upd (upd (I1 99) 22 (nI 1)) 23 ((I1 99) 20)))) (J' := J1) (S' := S1) am_e204 rfl rfl rfl rfl ?_
          refine w_st (i' := 32) (ls' := [.ref 99]) (st' := [.int (nI 0)]) (E' := E1) (I' := (u_I I1 99 (upd (upd (I1 99) 22 (nI 1)) 23 ((I1 99) 20)))) (J' := J1) (S' := S1) am_e204 rfl rfl rfl rfl ?_
          exact w_end am_e204 rfl rfl rfl h
        · replace h := h.2 (of_decide_eq_false c)
          refine w_end (E' := E1) (I' := I1) (J' := J1) (S' := S1) am_e197 rfl rfl rfl (q_mkV ?_)
          show am_ww 204 15 [.ref 99] [] E1 I1 J1 S1 _
          refine w_st (i' := 26) (ls' := [.ref 99]) (st' := []) (E' := E1) (I' := I1) (J' := J1) (S' := S1) am_e204 rfl rfl rfl rfl ?_
          refine w_st (i' := 27) (ls' := [.ref 99]) (st' := [.ref 99]) (E' := E1) (I' := I1) (J' := J1) (S' := S1) am_e204 rfl rfl rfl rfl ?_
          refine w_st (i' := 28) (ls' := [.ref 99]) (st' := [.int ((I1 99) 22)]) (E' := E1) (I' := I1) (J' := J1) (S' := S1) am_e204 rfl rfl rfl rfl ?_
          refine w_if1 am_e204 rfl rfl (fun c => ?_) (fun c => ?_)
          · replace h := h.2 (of_decide_eq_true c)
            refine w_st (i' := 32) (ls' := [.ref 99]) (st' := [.int (nI 0)]) (E' := E1) (I' := I1) (J' := J1) (S' := S1) am_e204 rfl rfl rfl rfl ?_
            exact w_end am_e204 rfl rfl rfl h
          · replace h := h.1 (Decidable.not_not.mp (of_decide_eq_false c))
            refine w_st (i' := 30) (ls' := [.ref 99]) (st' := [.int (nI 1)]) (E' := E1) (I' := I1) (J' := J1) (S' := S1) am_e204 rfl rfl rfl rfl ?_
            refine w_st (i' := 32) (ls' := [.ref 99]) (st' := [.int (nI 1)]) (E' := E1) (I' := I1) (J' := J1) (S' := S1) am_e204 rfl rfl rfl rfl ?_
            exact w_end am_e204 rfl rfl rfl h
  · replace h := h.2 (of_decide_eq_false c)
    refine w_st (i' := 4) (ls' := [.ref 99]) (st' := [.int (nI 0)]) (E' := E) (I' := I) (J' := J) (S' := S) am_e204 rfl rfl rfl rfl ?_
    exact w_end am_e204 rfl rfl rfl h
-- 203 readLabel
theorem g203_0 {p1 : Int32} {E : am_Ev} {I : Nat → Nat → Int32} {J : Nat → Nat → Int64} {S : Nat → Nat → Option Nat} {Q : am_Qt}  (h : am_cl 204 [.ref 99] E I J S (q_I fun v1 E1 I1 J1 S1 => (v1 = 0 → (Q (.inl none) E1 I1 J1 S1)) ∧ (¬ v1 = 0 → (am_cl 205 [.ref 99, .int ((I1 99) 20), .int (((I1 99) 21) - ((I1 99) 20)), .int p1] E1 I1 J1 S1 (q_I fun v2 E2 I2 J2 S2 => (v2 = (-1) → (am_ww 203 19 [.ref 99, .int p1] [] E2 I2 J2 S2 Q)) ∧ (¬ v2 = (-1) → ((((I2 99) 22) = 0 → (am_ww 203 19 [.ref 99, .int p1] [] E2 (u_I I2 99 (upd (upd (I2 99) 22 (nI 4)) 23 ((I2 99) 20))) J2 S2 Q)) ∧ (¬ ((I2 99) 22) = 0 → (am_ww 203 19 [.ref 99, .int p1] [] E2 I2 J2 S2 Q))))))))) : am_ww 203 0 [.ref 99, .int p1] [] E I J S Q := by
  refine w_st (i' := 1) (ls' := [.ref 99, .int p1]) (st' := [.ref 99]) (E' := E) (I' := I) (J' := J) (S' := S) am_e203 rfl rfl rfl rfl ?_
  refine w_cI am_e203 rfl rfl (as := [.ref 99]) (rest := []) rfl rfl (am_ww.mono h ?_)
  rintro _ E1 I1 J1 S1 ⟨v1, rfl, h⟩
  refine q_mkI ?_
  refine w_if1 am_e203 rfl rfl (fun c => ?_) (fun c => ?_)
  · replace h := h.2 (of_decide_eq_true c)
    refine w_st (i' := 5) (ls' := [.ref 99, .int p1]) (st' := [.ref 99]) (E' := E1) (I' := I1) (J' := J1) (S' := S1) am_e203 rfl rfl rfl rfl ?_
    refine w_st (i' := 6) (ls' := [.ref 99, .int p1]) (st' := [.ref 99, .ref 99]) (E' := E1) (I' := I1) (J' := J1) (S' := S1) am_e203 rfl rfl rfl rfl ?_
    refine w_st (i' := 7) (ls' := [.ref 99, .int p1]) (st' := [.int ((I1 99) 20), .ref 99]) (E' := E1) (I' := I1) (J' := J1) (S' := S1) am_e203 rfl rfl rfl rfl ?_
    refine w_st (i' := 8) (ls' := [.ref 99, .int p1]) (st' := [.ref 99, .int ((I1 99) 20), .ref 99]) (E' := E1) (I' := I1) (J' := J1) (S' := S1) am_e203 rfl rfl rfl rfl ?_
    refine w_st (i' := 9) (ls' := [.ref 99, .int p1]) (st' := [.int ((I1 99) 21), .int ((I1 99) 20), .ref 99]) (E' := E1) (I' := I1) (J' := J1) (S' := S1) am_e203 rfl rfl rfl rfl ?_
    refine w_st (i' := 10) (ls' := [.ref 99, .int p1]) (st' := [.ref 99, .int ((I1 99) 21), .int ((I1 99) 20), .ref 99]) (E' := E1) (I' := I1) (J' := J1) (S' := S1) am_e203 rfl rfl rfl rfl ?_
    refine w_st (i' := 11) (ls' := [.ref 99, .int p1]) (st' := [.int ((I1 99) 20), .int ((I1 99) 21), .int ((I1 99) 20), .ref 99]) (E' := E1) (I' := I1) (J' := J1) (S' := S1) am_e203 rfl rfl rfl rfl ?_
    refine w_st (i' := 12) (ls' := [.ref 99, .int p1]) (st' := [.int (((I1 99) 21) - ((I1 99) 20)), .int ((I1 99) 20), .ref 99]) (E' := E1) (I' := I1) (J' := J1) (S' := S1) am_e203 rfl rfl rfl rfl ?_
    refine w_st (i' := 13) (ls' := [.ref 99, .int p1]) (st' := [.int p1, .int (((I1 99) 21) - ((I1 99) 20)), .int ((I1 99) 20), .ref 99]) (E' := E1) (I' := I1) (J' := J1) (S' := S1) am_e203 rfl rfl rfl rfl ?_
    refine w_cI am_e203 rfl rfl (as := [.ref 99, .int ((I1 99) 20), .int (((I1 99) 21) - ((I1 99) 20)), .int p1]) (rest := []) rfl rfl (am_ww.mono h ?_)
    rintro _ E2 I2 J2 S2 ⟨v2, rfl, h⟩
    refine q_mkI ?_
    refine w_st (i' := 15) (ls' := [.ref 99, .int p1]) (st' := [.int (-1), .int v2]) (E' := E2) (I' := I2) (J' := J2) (S' := S2) am_e203 rfl rfl rfl rfl ?_
    refine w_if2 am_e203 rfl rfl (fun c => ?_) (fun c => ?_)
    · replace h := h.1 (of_decide_eq_true c)
      exact h
    · replace h := h.2 (of_decide_eq_false c)
      refine w_st (i' := 17) (ls' := [.ref 99, .int p1]) (st' := [.ref 99]) (E' := E2) (I' := I2) (J' := J2) (S' := S2) am_e203 rfl rfl rfl rfl ?_
      refine w_st (i' := 18) (ls' := [.ref 99, .int p1]) (st' := [.int (nI 4), .ref 99]) (E' := E2) (I' := I2) (J' := J2) (S' := S2) am_e203 rfl rfl rfl rfl ?_
      refine w_cV am_e203 rfl rfl (as := [.ref 99, .int (nI 4)]) (rest := []) rfl rfl ?_
      show am_ww 197 0 [.ref 99, .int (nI 4)] [] E2 I2 J2 S2 _
      refine w_st (i' := 1) (ls' := [.ref 99, .int (nI 4)]) (st' := [.ref 99]) (E' := E2) (I' := I2) (J' := J2) (S' := S2) am_e197 rfl rfl rfl rfl ?_
      refine w_st (i' := 2) (ls' := [.ref 99, .int (nI 4)]) (st' := [.int ((I2 99) 22)]) (E' := E2) (I' := I2) (J' := J2) (S' := S2) am_e197 rfl rfl rfl rfl ?_
      refine w_if1 am_e197 rfl rfl (fun c => ?_) (fun c => ?_)
      · replace h := h.1 (of_decide_eq_true c)
        refine w_st (i' := 5) (ls' := [.ref 99, .int (nI 4)]) (st' := [.ref 99]) (E' := E2) (I' := I2) (J' := J2) (S' := S2) am_e197 rfl rfl rfl rfl ?_
        refine w_st (i' := 6) (ls' := [.ref 99, .int (nI 4)]) (st' := [.int (nI 4), .ref 99]) (E' := E2) (I' := I2) (J' := J2) (S' := S2) am_e197 rfl rfl rfl rfl ?_
        refine w_st (i' := 7) (ls' := [.ref 99, .int (nI 4)]) (st' := []) (E' := E2) (I' := (u_I I2 99 (upd (I2 99) 22 (nI 4)))) (J' := J2) (S' := S2) am_e197 rfl rfl rfl rfl ?_
        refine w_st (i' := 8) (ls' := [.ref 99, .int (nI 4)]) (st' := [.ref 99]) (E' := E2) (I' := (u_I I2 99 (upd (I2 99) 22 (nI 4)))) (J' := J2) (S' := S2) am_e197 rfl rfl rfl rfl ?_
        refine w_st (i' := 9) (ls' := [.ref 99, .int (nI 4)]) (st' := [.ref 99, .ref 99]) (E' := E2) (I' := (u_I I2 99 (upd (I2 99) 22 (nI 4)))) (J' := J2) (S' := S2) am_e197 rfl rfl rfl rfl ?_
        refine w_st (i' := 10) (ls' := [.ref 99, .int (nI 4)]) (st' := [.int ((I2 99) 20), .ref 99]) (E' := E2) (I' := (u_I I2 99 (upd (I2 99) 22 (nI 4)))) (J' := J2) (S' := S2) am_e197 rfl rfl rfl rfl ?_
        refine w_st (i' := 11) (ls' := [.ref 99, .int (nI 4)]) (st' := []) (E' := E2) (I' := (u_I (u_I I2 99 (upd (I2 99) 22 (nI 4))) 99 (upd (upd (I2 99) 22 (nI 4)) 23 ((I2 99) 20)))) (J' := J2) (S' := S2) am_e197 rfl rfl rfl rfl ?_
        refine w_eI (uI_0 ..) ?_
        show am_ww 197 11 [.ref 99, .int (nI 4)] [] E2 (u_I I2 99 (upd (upd (I2 99) 22 (nI 4)) 23 ((I2 99) 20))) J2 S2 _
        refine w_end (E' := E2) (I' := (u_I I2 99 (upd (upd (I2 99) 22 (nI 4)) 23 ((I2 99) 20)))) (J' := J2) (S' := S2) am_e197 rfl rfl rfl (q_mkV ?_)
        show am_ww 203 19 [.ref 99, .int p1] [] E2 (u_I I2 99 (upd (upd (I2 99) 22 (nI 4)) 23 ((I2 99) 20))) J2 S2 _
        exact h
      · replace h := h.2 (of_decide_eq_false c)
        refine w_end (E' := E2) (I' := I2) (J' := J2) (S' := S2) am_e197 rfl rfl rfl (q_mkV ?_)
        show am_ww 203 19 [.ref 99, .int p1] [] E2 I2 J2 S2 _
        exact h
  · replace h := h.1 (Decidable.not_not.mp (of_decide_eq_false c))
    exact w_end am_e203 rfl rfl rfl h
theorem g203_19 {x1 : Int32} {E : am_Ev} {I : Nat → Nat → Int32} {J : Nat → Nat → Int64} {S : Nat → Nat → Option Nat} {Q : am_Qt}  (h : vp_in x1 16 ∧ ((((I 99) 22) = 0 → (am_cl 190 [.ref 99] E (u_I (u_I I 112 (upd (I 112) x1.toNatClampNeg ((I 99) 20))) 113 (upd (I 113) x1.toNatClampNeg (((I 99) 21) - ((I 99) 20)))) J S (q_V fun E3 I3 J3 S3 => am_cl 206 [.ref 99, .int (nI 58)] E3 I3 J3 S3 (q_V fun E4 I4 J4 S4 => Q (.inl none) E4 I4 J4 S4)))) ∧ (¬ ((I 99) 22) = 0 → (am_cl 206 [.ref 99, .int (nI 58)] E (u_I (u_I I 112 (upd (I 112) x1.toNatClampNeg ((I 99) 20))) 113 (upd (I 113) x1.toNatClampNeg (((I 99) 21) - ((I 99) 20)))) J S (q_V fun E2 I2 J2 S2 => Q (.inl none) E2 I2 J2 S2))))) : am_ww 203 19 [.ref 99, .int x1] [] E I J S Q := by
  refine w_st (i' := 20) (ls' := [.ref 99, .int x1]) (st' := [.ref 99]) (E' := E) (I' := I) (J' := J) (S' := S) am_e203 rfl rfl rfl rfl ?_
  refine w_st (i' := 21) (ls' := [.ref 99, .int x1]) (st' := [.ref 112]) (E' := E) (I' := I) (J' := J) (S' := S) am_e203 rfl rfl rfl rfl ?_
  refine w_st (i' := 22) (ls' := [.ref 99, .int x1]) (st' := [.int x1, .ref 112]) (E' := E) (I' := I) (J' := J) (S' := S) am_e203 rfl rfl rfl rfl ?_
  refine w_st (i' := 23) (ls' := [.ref 99, .int x1]) (st' := [.ref 99, .int x1, .ref 112]) (E' := E) (I' := I) (J' := J) (S' := S) am_e203 rfl rfl rfl rfl ?_
  refine w_st (i' := 24) (ls' := [.ref 99, .int x1]) (st' := [.int ((I 99) 20), .int x1, .ref 112]) (E' := E) (I' := I) (J' := J) (S' := S) am_e203 rfl rfl rfl rfl ?_
  have hf1 := h.1
  replace h := h.2
  refine w_is (k := 112) (n := 16) (jn := x1.toNatClampNeg) am_e203 rfl rfl (by decide) hf1 rfl ?_
  show am_ww 203 25 [.ref 99, .int x1] [] E (u_I I 112 (upd (I 112) x1.toNatClampNeg ((I 99) 20))) J S _
  refine w_st (i' := 26) (ls' := [.ref 99, .int x1]) (st' := [.ref 99]) (E' := E) (I' := (u_I I 112 (upd (I 112) x1.toNatClampNeg ((I 99) 20)))) (J' := J) (S' := S) am_e203 rfl rfl rfl rfl ?_
  refine w_st (i' := 27) (ls' := [.ref 99, .int x1]) (st' := [.ref 113]) (E' := E) (I' := (u_I I 112 (upd (I 112) x1.toNatClampNeg ((I 99) 20)))) (J' := J) (S' := S) am_e203 rfl rfl rfl rfl ?_
  refine w_st (i' := 28) (ls' := [.ref 99, .int x1]) (st' := [.int x1, .ref 113]) (E' := E) (I' := (u_I I 112 (upd (I 112) x1.toNatClampNeg ((I 99) 20)))) (J' := J) (S' := S) am_e203 rfl rfl rfl rfl ?_
  refine w_st (i' := 29) (ls' := [.ref 99, .int x1]) (st' := [.ref 99, .int x1, .ref 113]) (E' := E) (I' := (u_I I 112 (upd (I 112) x1.toNatClampNeg ((I 99) 20)))) (J' := J) (S' := S) am_e203 rfl rfl rfl rfl ?_
  refine w_st (i' := 30) (ls' := [.ref 99, .int x1]) (st' := [.int ((I 99) 21), .int x1, .ref 113]) (E' := E) (I' := (u_I I 112 (upd (I 112) x1.toNatClampNeg ((I 99) 20)))) (J' := J) (S' := S) am_e203 rfl rfl rfl rfl ?_
  refine w_st (i' := 31) (ls' := [.ref 99, .int x1]) (st' := [.ref 99, .int ((I 99) 21), .int x1, .ref 113]) (E' := E) (I' := (u_I I 112 (upd (I 112) x1.toNatClampNeg ((I 99) 20)))) (J' := J) (S' := S) am_e203 rfl rfl rfl rfl ?_
  refine w_st (i' := 32) (ls' := [.ref 99, .int x1]) (st' := [.int ((I 99) 20), .int ((I 99) 21), .int x1, .ref 113]) (E' := E) (I' := (u_I I 112 (upd (I 112) x1.toNatClampNeg ((I 99) 20)))) (J' := J) (S' := S) am_e203 rfl rfl rfl rfl ?_
  refine w_st (i' := 33) (ls' := [.ref 99, .int x1]) (st' := [.int (((I 99) 21) - ((I 99) 20)), .int x1, .ref 113]) (E' := E) (I' := (u_I I 112 (upd (I 112) x1.toNatClampNeg ((I 99) 20)))) (J' := J) (S' := S) am_e203 rfl rfl rfl rfl ?_
  refine w_is (k := 113) (n := 16) (jn := x1.toNatClampNeg) am_e203 rfl rfl (by decide) hf1 rfl ?_
  show am_ww 203 34 [.ref 99, .int x1] [] E (u_I (u_I I 112 (upd (I 112) x1.toNatClampNeg ((I 99) 20))) 113 (upd (I 113) x1.toNatClampNeg (((I 99) 21) - ((I 99) 20)))) J S _
  refine w_st (i' := 35) (ls' := [.ref 99, .int x1]) (st' := [.ref 99]) (E' := E) (I' := (u_I (u_I I 112 (upd (I 112) x1.toNatClampNeg ((I 99) 20))) 113 (upd (I 113) x1.toNatClampNeg (((I 99) 21) - ((I 99) 20))))) (J' := J) (S' := S) am_e203 rfl rfl rfl rfl ?_
  refine w_st (i' := 36) (ls' := [.ref 99, .int x1]) (st' := [.int ((I 99) 22)]) (E' := E) (I' := (u_I (u_I I 112 (upd (I 112) x1.toNatClampNeg ((I 99) 20))) 113 (upd (I 113) x1.toNatClampNeg (((I 99) 21) - ((I 99) 20))))) (J' := J) (S' := S) am_e203 rfl rfl rfl rfl ?_
  refine w_if1 am_e203 rfl rfl (fun c => ?_) (fun c => ?_)
  · replace h := h.2 (of_decide_eq_true c)
    refine w_st (i' := 40) (ls' := [.ref 99, .int x1]) (st' := [.ref 99]) (E' := E) (I' := (u_I (u_I I 112 (upd (I 112) x1.toNatClampNeg ((I 99) 20))) 113 (upd (I 113) x1.toNatClampNeg (((I 99) 21) - ((I 99) 20))))) (J' := J) (S' := S) am_e203 rfl rfl rfl rfl ?_
    refine w_st (i' := 41) (ls' := [.ref 99, .int x1]) (st' := [.int (nI 58), .ref 99]) (E' := E) (I' := (u_I (u_I I 112 (upd (I 112) x1.toNatClampNeg ((I 99) 20))) 113 (upd (I 113) x1.toNatClampNeg (((I 99) 21) - ((I 99) 20))))) (J' := J) (S' := S) am_e203 rfl rfl rfl rfl ?_
    refine w_cV am_e203 rfl rfl (as := [.ref 99, .int (nI 58)]) (rest := []) rfl rfl (am_ww.mono h ?_)
    rintro _ E2 I2 J2 S2 ⟨rfl, h⟩
    refine q_mkV ?_
    exact w_end am_e203 rfl rfl rfl h
  · replace h := h.1 (Decidable.not_not.mp (of_decide_eq_false c))
    refine w_st (i' := 38) (ls' := [.ref 99, .int x1]) (st' := [.ref 99]) (E' := E) (I' := (u_I (u_I I 112 (upd (I 112) x1.toNatClampNeg ((I 99) 20))) 113 (upd (I 113) x1.toNatClampNeg (((I 99) 21) - ((I 99) 20))))) (J' := J) (S' := S) am_e203 rfl rfl rfl rfl ?_
    refine w_cV am_e203 rfl rfl (as := [.ref 99]) (rest := []) rfl rfl (am_ww.mono h ?_)
    rintro _ E3 I3 J3 S3 ⟨rfl, h⟩
    refine q_mkV ?_
    refine w_st (i' := 40) (ls' := [.ref 99, .int x1]) (st' := [.ref 99]) (E' := E3) (I' := I3) (J' := J3) (S' := S3) am_e203 rfl rfl rfl rfl ?_
    refine w_st (i' := 41) (ls' := [.ref 99, .int x1]) (st' := [.int (nI 58), .ref 99]) (E' := E3) (I' := I3) (J' := J3) (S' := S3) am_e203 rfl rfl rfl rfl ?_
    refine w_cV am_e203 rfl rfl (as := [.ref 99, .int (nI 58)]) (rest := []) rfl rfl (am_ww.mono h ?_)
    rintro _ E4 I4 J4 S4 ⟨rfl, h⟩
    refine q_mkV ?_
    exact w_end am_e203 rfl rfl rfl h
-- 212 readTarget
theorem g212_0 {p1 : Int32} {E : am_Ev} {I : Nat → Nat → Int32} {J : Nat → Nat → Int64} {S : Nat → Nat → Option Nat} {Q : am_Qt}  (h : am_cl 204 [.ref 99] E I J S (q_I fun v1 E1 I1 J1 S1 => (v1 = 0 → (Q (.inl none) E1 I1 J1 S1)) ∧ (¬ v1 = 0 → (vp_in p1 16 ∧ (am_cl 190 [.ref 99] E1 (u_I (u_I I1 114 (upd (I1 114) p1.toNatClampNeg ((I1 99) 20))) 115 (upd (I1 115) p1.toNatClampNeg (((I1 99) 21) - ((I1 99) 20)))) J1 S1 (q_V fun E3 I3 J3 S3 => Q (.inl none) E3 I3 J3 S3)))))) : am_ww 212 0 [.ref 99, .int p1] [] E I J S Q := by
  refine w_st (i' := 1) (ls' := [.ref 99, .int p1]) (st' := [.ref 99]) (E' := E) (I' := I) (J' := J) (S' := S) am_e212 rfl rfl rfl rfl ?_
  refine w_cI am_e212 rfl rfl (as := [.ref 99]) (rest := []) rfl rfl (am_ww.mono h ?_)
  rintro _ E1 I1 J1 S1 ⟨v1, rfl, h⟩
  refine q_mkI ?_
  refine w_if1 am_e212 rfl rfl (fun c => ?_) (fun c => ?_)
  · replace h := h.2 (of_decide_eq_true c)
    refine w_st (i' := 5) (ls' := [.ref 99, .int p1]) (st' := [.ref 99]) (E' := E1) (I' := I1) (J' := J1) (S' := S1) am_e212 rfl rfl rfl rfl ?_
    refine w_st (i' := 6) (ls' := [.ref 99, .int p1]) (st' := [.ref 114]) (E' := E1) (I' := I1) (J' := J1) (S' := S1) am_e212 rfl rfl rfl rfl ?_
    refine w_st (i' := 7) (ls' := [.ref 99, .int p1]) (st' := [.int p1, .ref 114]) (E' := E1) (I' := I1) (J' := J1) (S' := S1) am_e212 rfl rfl rfl rfl ?_
    refine w_st (i' := 8) (ls' := [.ref 99, .int p1]) (st' := [.ref 99, .int p1, .ref 114]) (E' := E1) (I' := I1) (J' := J1) (S' := S1) am_e212 rfl rfl rfl rfl ?_
    refine w_st (i' := 9) (ls' := [.ref 99, .int p1]) (st' := [.int ((I1 99) 20), .int p1, .ref 114]) (E' := E1) (I' := I1) (J' := J1) (S' := S1) am_e212 rfl rfl rfl rfl ?_
    have hf2 := h.1
    replace h := h.2
    refine w_is (k := 114) (n := 16) (jn := p1.toNatClampNeg) am_e212 rfl rfl (by decide) hf2 rfl ?_
    show am_ww 212 10 [.ref 99, .int p1] [] E1 (u_I I1 114 (upd (I1 114) p1.toNatClampNeg ((I1 99) 20))) J1 S1 _
    refine w_st (i' := 11) (ls' := [.ref 99, .int p1]) (st' := [.ref 99]) (E' := E1) (I' := (u_I I1 114 (upd (I1 114) p1.toNatClampNeg ((I1 99) 20)))) (J' := J1) (S' := S1) am_e212 rfl rfl rfl rfl ?_
    refine w_st (i' := 12) (ls' := [.ref 99, .int p1]) (st' := [.ref 115]) (E' := E1) (I' := (u_I I1 114 (upd (I1 114) p1.toNatClampNeg ((I1 99) 20)))) (J' := J1) (S' := S1) am_e212 rfl rfl rfl rfl ?_
    refine w_st (i' := 13) (ls' := [.ref 99, .int p1]) (st' := [.int p1, .ref 115]) (E' := E1) (I' := (u_I I1 114 (upd (I1 114) p1.toNatClampNeg ((I1 99) 20)))) (J' := J1) (S' := S1) am_e212 rfl rfl rfl rfl ?_
    refine w_st (i' := 14) (ls' := [.ref 99, .int p1]) (st' := [.ref 99, .int p1, .ref 115]) (E' := E1) (I' := (u_I I1 114 (upd (I1 114) p1.toNatClampNeg ((I1 99) 20)))) (J' := J1) (S' := S1) am_e212 rfl rfl rfl rfl ?_
    refine w_st (i' := 15) (ls' := [.ref 99, .int p1]) (st' := [.int ((I1 99) 21), .int p1, .ref 115]) (E' := E1) (I' := (u_I I1 114 (upd (I1 114) p1.toNatClampNeg ((I1 99) 20)))) (J' := J1) (S' := S1) am_e212 rfl rfl rfl rfl ?_
    refine w_st (i' := 16) (ls' := [.ref 99, .int p1]) (st' := [.ref 99, .int ((I1 99) 21), .int p1, .ref 115]) (E' := E1) (I' := (u_I I1 114 (upd (I1 114) p1.toNatClampNeg ((I1 99) 20)))) (J' := J1) (S' := S1) am_e212 rfl rfl rfl rfl ?_
    refine w_st (i' := 17) (ls' := [.ref 99, .int p1]) (st' := [.int ((I1 99) 20), .int ((I1 99) 21), .int p1, .ref 115]) (E' := E1) (I' := (u_I I1 114 (upd (I1 114) p1.toNatClampNeg ((I1 99) 20)))) (J' := J1) (S' := S1) am_e212 rfl rfl rfl rfl ?_
    refine w_st (i' := 18) (ls' := [.ref 99, .int p1]) (st' := [.int (((I1 99) 21) - ((I1 99) 20)), .int p1, .ref 115]) (E' := E1) (I' := (u_I I1 114 (upd (I1 114) p1.toNatClampNeg ((I1 99) 20)))) (J' := J1) (S' := S1) am_e212 rfl rfl rfl rfl ?_
    refine w_is (k := 115) (n := 16) (jn := p1.toNatClampNeg) am_e212 rfl rfl (by decide) hf2 rfl ?_
    show am_ww 212 19 [.ref 99, .int p1] [] E1 (u_I (u_I I1 114 (upd (I1 114) p1.toNatClampNeg ((I1 99) 20))) 115 (upd (I1 115) p1.toNatClampNeg (((I1 99) 21) - ((I1 99) 20)))) J1 S1 _
    refine w_st (i' := 20) (ls' := [.ref 99, .int p1]) (st' := [.ref 99]) (E' := E1) (I' := (u_I (u_I I1 114 (upd (I1 114) p1.toNatClampNeg ((I1 99) 20))) 115 (upd (I1 115) p1.toNatClampNeg (((I1 99) 21) - ((I1 99) 20))))) (J' := J1) (S' := S1) am_e212 rfl rfl rfl rfl ?_
    refine w_cV am_e212 rfl rfl (as := [.ref 99]) (rest := []) rfl rfl (am_ww.mono h ?_)
    rintro _ E3 I3 J3 S3 ⟨rfl, h⟩
    refine q_mkV ?_
    exact w_end am_e212 rfl rfl rfl h
  · replace h := h.1 (Decidable.not_not.mp (of_decide_eq_false c))
    exact w_end am_e212 rfl rfl rfl h
-- 208 readOperands
theorem g208_0 {p1 : Int32} {p2 : Int32} {p3 : Int32} {E : am_Ev} {I : Nat → Nat → Int32} {J : Nat → Nat → Int64} {S : Nat → Nat → Option Nat} {Q : am_Qt}  (h : (p1 = 0 → (am_cl 198 [.ref 99, .int (nI 0), .int (nI 3)] E I J S (q_I fun v19 E19 I19 J19 S19 => vp_in p2 128 ∧ (am_cl 210 [.ref 99] E19 (u_I I19 107 (upd (I19 107) p2.toNatClampNeg v19)) J19 S19 (q_I fun v21 E21 I21 J21 S21 => Q (.inl none) E21 (u_I I21 108 (upd (I21 108) p2.toNatClampNeg v21)) J21 S21))))) ∧ (¬ p1 = 0 → ((p1 = (nI 1) → (am_cl 198 [.ref 99, .int (nI 0), .int (nI 3)] E I J S (q_I fun v16 E16 I16 J16 S16 => vp_in p2 128 ∧ (am_cl 198 [.ref 99, .int (nI 0), .int (nI 15)] E16 (u_I I16 107 (upd (I16 107) p2.toNatClampNeg v16)) J16 S16 (q_I fun v18 E18 I18 J18 S18 => Q (.inl none) E18 (u_I I18 108 (upd (I18 108) p2.toNatClampNeg v18)) J18 S18))))) ∧ (¬ p1 = (nI 1) → ((p1 = (nI 2) → (am_cl 198 [.ref 99, .int (nI 0), .int (nI 15)] E I J S (q_I fun v13 E13 I13 J13 S13 => vp_in p2 128 ∧ (am_cl 198 [.ref 99, .int (nI 0), .int (nI 3)] E13 (u_I I13 107 (upd (I13 107) p2.toNatClampNeg v13)) J13 S13 (q_I fun v15 E15 I15 J15 S15 => Q (.inl none) E15 (u_I I15 108 (upd (I15 108) p2.toNatClampNeg v15)) J15 S15))))) ∧ (¬ p1 = (nI 2) → (((nI 5) < p1 → ((p1 = (nI 6) → (am_cl 198 [.ref 99, .int (nI 0), .int (nI 3)] E I J S (q_I fun v7 E7 I7 J7 S7 => vp_in p2 128 ∧ (am_cl 198 [.ref 99, .int (nI 0), .int (nI 2)] E7 (u_I I7 107 (upd (I7 107) p2.toNatClampNeg v7)) J7 S7 (q_I fun v9 E9 I9 J9 S9 => Q (.inl none) E9 (u_I I9 108 (upd (I9 108) p2.toNatClampNeg v9)) J9 S9))))) ∧ (¬ p1 = (nI 6) → (((nI 8) < p1 → ((p1 = (nI 10) → (am_cl 198 [.ref 99, .int (nI 0), .int (nI 3)] E I J S (q_I fun v1 E1 I1 J1 S1 => vp_in p2 128 ∧ (am_ww 208 109 [.ref 99, .int p1, .int p2, .int p3] [] E1 (u_I I1 107 (upd (I1 107) p2.toNatClampNeg v1)) J1 S1 Q)))) ∧ (¬ p1 = (nI 10) → ((p1 = (nI 11) → (am_cl 198 [.ref 99, .int (nI 0), .int (nI 3)] E I J S (q_I fun v3 E3 I3 J3 S3 => vp_in p2 128 ∧ (am_ww 208 109 [.ref 99, .int p1, .int p2, .int p3] [] E3 (u_I I3 107 (upd (I3 107) p2.toNatClampNeg v3)) J3 S3 Q)))) ∧ (¬ p1 = (nI 11) → (am_ww 208 109 [.ref 99, .int p1, .int p2, .int p3] [] E I J S Q)))))) ∧ (¬ (nI 8) < p1 → (am_cl 198 [.ref 99, .int (nI 0), .int (nI 3)] E I J S (q_I fun v5 E5 I5 J5 S5 => vp_in p2 128 ∧ (Q (.inl none) E5 (u_I I5 107 (upd (I5 107) p2.toNatClampNeg v5)) J5 S5)))))))) ∧ (¬ (nI 5) < p1 → (am_cl 198 [.ref 99, .int (nI 0), .int (nI 3)] E I J S (q_I fun v10 E10 I10 J10 S10 => vp_in p2 128 ∧ (am_cl 198 [.ref 99, .int (nI 0), .int (nI 3)] E10 (u_I I10 107 (upd (I10 107) p2.toNatClampNeg v10)) J10 S10 (q_I fun v12 E12 I12 J12 S12 => Q (.inl none) E12 (u_I I12 108 (upd (I12 108) p2.toNatClampNeg v12)) J12 S12)))))))))))) : am_ww 208 0 [.ref 99, .int p1, .int p2, .int p3] [] E I J S Q := by
  refine w_st (i' := 1) (ls' := [.ref 99, .int p1, .int p2, .int p3]) (st' := [.int p1]) (E' := E) (I' := I) (J' := J) (S' := S) am_e208 rfl rfl rfl rfl ?_
  refine w_if1 am_e208 rfl rfl (fun c => ?_) (fun c => ?_)
  · replace h := h.2 (of_decide_eq_true c)
    refine w_st (i' := 16) (ls' := [.ref 99, .int p1, .int p2, .int p3]) (st' := [.int p1]) (E' := E) (I' := I) (J' := J) (S' := S) am_e208 rfl rfl rfl rfl ?_
    refine w_st (i' := 17) (ls' := [.ref 99, .int p1, .int p2, .int p3]) (st' := [.int (nI 1), .int p1]) (E' := E) (I' := I) (J' := J) (S' := S) am_e208 rfl rfl rfl rfl ?_
    refine w_if2 am_e208 rfl rfl (fun c => ?_) (fun c => ?_)
    · replace h := h.2 (of_decide_eq_true c)
      refine w_st (i' := 34) (ls' := [.ref 99, .int p1, .int p2, .int p3]) (st' := [.int p1]) (E' := E) (I' := I) (J' := J) (S' := S) am_e208 rfl rfl rfl rfl ?_
      refine w_st (i' := 35) (ls' := [.ref 99, .int p1, .int p2, .int p3]) (st' := [.int (nI 2), .int p1]) (E' := E) (I' := I) (J' := J) (S' := S) am_e208 rfl rfl rfl rfl ?_
      refine w_if2 am_e208 rfl rfl (fun c => ?_) (fun c => ?_)
      · replace h := h.2 (of_decide_eq_true c)
        refine w_st (i' := 52) (ls' := [.ref 99, .int p1, .int p2, .int p3]) (st' := [.int p1]) (E' := E) (I' := I) (J' := J) (S' := S) am_e208 rfl rfl rfl rfl ?_
        refine w_st (i' := 53) (ls' := [.ref 99, .int p1, .int p2, .int p3]) (st' := [.int (nI 5), .int p1]) (E' := E) (I' := I) (J' := J) (S' := S) am_e208 rfl rfl rfl rfl ?_
        refine w_if2 am_e208 rfl rfl (fun c => ?_) (fun c => ?_)
        · replace h := h.1 (of_decide_eq_true c)
          refine w_st (i' := 68) (ls' := [.ref 99, .int p1, .int p2, .int p3]) (st' := [.int p1]) (E' := E) (I' := I) (J' := J) (S' := S) am_e208 rfl rfl rfl rfl ?_
          refine w_st (i' := 69) (ls' := [.ref 99, .int p1, .int p2, .int p3]) (st' := [.int (nI 6), .int p1]) (E' := E) (I' := I) (J' := J) (S' := S) am_e208 rfl rfl rfl rfl ?_
          refine w_if2 am_e208 rfl rfl (fun c => ?_) (fun c => ?_)
          · replace h := h.2 (of_decide_eq_true c)
            refine w_st (i' := 86) (ls' := [.ref 99, .int p1, .int p2, .int p3]) (st' := [.int p1]) (E' := E) (I' := I) (J' := J) (S' := S) am_e208 rfl rfl rfl rfl ?_
            refine w_st (i' := 87) (ls' := [.ref 99, .int p1, .int p2, .int p3]) (st' := [.int (nI 8), .int p1]) (E' := E) (I' := I) (J' := J) (S' := S) am_e208 rfl rfl rfl rfl ?_
            refine w_if2 am_e208 rfl rfl (fun c => ?_) (fun c => ?_)
            · replace h := h.1 (of_decide_eq_true c)
              refine w_st (i' := 98) (ls' := [.ref 99, .int p1, .int p2, .int p3]) (st' := [.int p1]) (E' := E) (I' := I) (J' := J) (S' := S) am_e208 rfl rfl rfl rfl ?_
              refine w_st (i' := 99) (ls' := [.ref 99, .int p1, .int p2, .int p3]) (st' := [.int (nI 10), .int p1]) (E' := E) (I' := I) (J' := J) (S' := S) am_e208 rfl rfl rfl rfl ?_
              refine w_if2 am_e208 rfl rfl (fun c => ?_) (fun c => ?_)
              · replace h := h.1 (of_decide_eq_true c)
                refine w_st (i' := 104) (ls' := [.ref 99, .int p1, .int p2, .int p3]) (st' := [.ref 99]) (E' := E) (I' := I) (J' := J) (S' := S) am_e208 rfl rfl rfl rfl ?_
                refine w_st (i' := 105) (ls' := [.ref 99, .int p1, .int p2, .int p3]) (st' := [.ref 107]) (E' := E) (I' := I) (J' := J) (S' := S) am_e208 rfl rfl rfl rfl ?_
                refine w_st (i' := 106) (ls' := [.ref 99, .int p1, .int p2, .int p3]) (st' := [.int p2, .ref 107]) (E' := E) (I' := I) (J' := J) (S' := S) am_e208 rfl rfl rfl rfl ?_
                refine w_st (i' := 107) (ls' := [.ref 99, .int p1, .int p2, .int p3]) (st' := [.ref 99, .int p2, .ref 107]) (E' := E) (I' := I) (J' := J) (S' := S) am_e208 rfl rfl rfl rfl ?_
                refine w_cI am_e208 rfl rfl (as := [.ref 99]) (rest := [.int p2, .ref 107]) rfl rfl ?_
                show am_ww 209 0 [.ref 99] [] E I J S _
                refine w_st (i' := 1) (ls' := [.ref 99]) (st' := [.ref 99]) (E' := E) (I' := I) (J' := J) (S' := S) am_e209 rfl rfl rfl rfl ?_
                refine w_st (i' := 2) (ls' := [.ref 99]) (st' := [.int (nI 0), .ref 99]) (E' := E) (I' := I) (J' := J) (S' := S) am_e209 rfl rfl rfl rfl ?_
                refine w_st (i' := 3) (ls' := [.ref 99]) (st' := [.int (nI 3), .int (nI 0), .ref 99]) (E' := E) (I' := I) (J' := J) (S' := S) am_e209 rfl rfl rfl rfl ?_
                refine w_cI am_e209 rfl rfl (as := [.ref 99, .int (nI 0), .int (nI 3)]) (rest := []) rfl rfl (am_ww.mono h ?_)
                rintro _ E1 I1 J1 S1 ⟨v1, rfl, h⟩
                refine q_mkI ?_
                refine w_ri am_e209 rfl rfl (q_mkI ?_)
                show am_ww 208 108 [.ref 99, .int p1, .int p2, .int p3] [.int v1, .int p2, .ref 107] E1 I1 J1 S1 _
                have hf2 := h.1
                replace h := h.2
                refine w_is (k := 107) (n := 128) (jn := p2.toNatClampNeg) am_e208 rfl rfl (by decide) hf2 rfl ?_
                show am_ww 208 109 [.ref 99, .int p1, .int p2, .int p3] [] E1 (u_I I1 107 (upd (I1 107) p2.toNatClampNeg v1)) J1 S1 _
                exact h
              · replace h := h.2 (of_decide_eq_false c)
                refine w_st (i' := 101) (ls' := [.ref 99, .int p1, .int p2, .int p3]) (st' := [.int p1]) (E' := E) (I' := I) (J' := J) (S' := S) am_e208 rfl rfl rfl rfl ?_
                refine w_st (i' := 102) (ls' := [.ref 99, .int p1, .int p2, .int p3]) (st' := [.int (nI 11), .int p1]) (E' := E) (I' := I) (J' := J) (S' := S) am_e208 rfl rfl rfl rfl ?_
                refine w_if2 am_e208 rfl rfl (fun c => ?_) (fun c => ?_)
                · replace h := h.2 (of_decide_eq_true c)
                  exact h
                · replace h := h.1 (Decidable.not_not.mp (of_decide_eq_false c))
                  refine w_st (i' := 104) (ls' := [.ref 99, .int p1, .int p2, .int p3]) (st' := [.ref 99]) (E' := E) (I' := I) (J' := J) (S' := S) am_e208 rfl rfl rfl rfl ?_
                  refine w_st (i' := 105) (ls' := [.ref 99, .int p1, .int p2, .int p3]) (st' := [.ref 107]) (E' := E) (I' := I) (J' := J) (S' := S) am_e208 rfl rfl rfl rfl ?_
                  refine w_st (i' := 106) (ls' := [.ref 99, .int p1, .int p2, .int p3]) (st' := [.int p2, .ref 107]) (E' := E) (I' := I) (J' := J) (S' := S) am_e208 rfl rfl rfl rfl ?_
                  refine w_st (i' := 107) (ls' := [.ref 99, .int p1, .int p2, .int p3]) (st' := [.ref 99, .int p2, .ref 107]) (E' := E) (I' := I) (J' := J) (S' := S) am_e208 rfl rfl rfl rfl ?_
                  refine w_cI am_e208 rfl rfl (as := [.ref 99]) (rest := [.int p2, .ref 107]) rfl rfl ?_
                  show am_ww 209 0 [.ref 99] [] E I J S _
                  refine w_st (i' := 1) (ls' := [.ref 99]) (st' := [.ref 99]) (E' := E) (I' := I) (J' := J) (S' := S) am_e209 rfl rfl rfl rfl ?_
                  refine w_st (i' := 2) (ls' := [.ref 99]) (st' := [.int (nI 0), .ref 99]) (E' := E) (I' := I) (J' := J) (S' := S) am_e209 rfl rfl rfl rfl ?_
                  refine w_st (i' := 3) (ls' := [.ref 99]) (st' := [.int (nI 3), .int (nI 0), .ref 99]) (E' := E) (I' := I) (J' := J) (S' := S) am_e209 rfl rfl rfl rfl ?_
                  refine w_cI am_e209 rfl rfl (as := [.ref 99, .int (nI 0), .int (nI 3)]) (rest := []) rfl rfl (am_ww.mono h ?_)
                  rintro _ E3 I3 J3 S3 ⟨v3, rfl, h⟩
                  refine q_mkI ?_
                  refine w_ri am_e209 rfl rfl (q_mkI ?_)
                  show am_ww 208 108 [.ref 99, .int p1, .int p2, .int p3] [.int v3, .int p2, .ref 107] E3 I3 J3 S3 _
                  have hf4 := h.1
                  replace h := h.2
                  refine w_is (k := 107) (n := 128) (jn := p2.toNatClampNeg) am_e208 rfl rfl (by decide) hf4 rfl ?_
                  show am_ww 208 109 [.ref 99, .int p1, .int p2, .int p3] [] E3 (u_I I3 107 (upd (I3 107) p2.toNatClampNeg v3)) J3 S3 _
                  exact h
            · replace h := h.2 (of_decide_eq_false c)
              refine w_st (i' := 89) (ls' := [.ref 99, .int p1, .int p2, .int p3]) (st' := [.ref 99]) (E' := E) (I' := I) (J' := J) (S' := S) am_e208 rfl rfl rfl rfl ?_
              refine w_st (i' := 90) (ls' := [.ref 99, .int p1, .int p2, .int p3]) (st' := [.ref 107]) (E' := E) (I' := I) (J' := J) (S' := S) am_e208 rfl rfl rfl rfl ?_
              refine w_st (i' := 91) (ls' := [.ref 99, .int p1, .int p2, .int p3]) (st' := [.int p2, .ref 107]) (E' := E) (I' := I) (J' := J) (S' := S) am_e208 rfl rfl rfl rfl ?_
              refine w_st (i' := 92) (ls' := [.ref 99, .int p1, .int p2, .int p3]) (st' := [.ref 99, .int p2, .ref 107]) (E' := E) (I' := I) (J' := J) (S' := S) am_e208 rfl rfl rfl rfl ?_
              refine w_st (i' := 93) (ls' := [.ref 99, .int p1, .int p2, .int p3]) (st' := [.int (nI 0), .ref 99, .int p2, .ref 107]) (E' := E) (I' := I) (J' := J) (S' := S) am_e208 rfl rfl rfl rfl ?_
              refine w_st (i' := 94) (ls' := [.ref 99, .int p1, .int p2, .int p3]) (st' := [.int (nI 3), .int (nI 0), .ref 99, .int p2, .ref 107]) (E' := E) (I' := I) (J' := J) (S' := S) am_e208 rfl rfl rfl rfl ?_
              refine w_cI am_e208 rfl rfl (as := [.ref 99, .int (nI 0), .int (nI 3)]) (rest := [.int p2, .ref 107]) rfl rfl (am_ww.mono h ?_)
              rintro _ E5 I5 J5 S5 ⟨v5, rfl, h⟩
              refine q_mkI ?_
              have hf6 := h.1
              replace h := h.2
              refine w_is (k := 107) (n := 128) (jn := p2.toNatClampNeg) am_e208 rfl rfl (by decide) hf6 rfl ?_
              show am_ww 208 96 [.ref 99, .int p1, .int p2, .int p3] [] E5 (u_I I5 107 (upd (I5 107) p2.toNatClampNeg v5)) J5 S5 _
              refine w_st (i' := 124) (ls' := [.ref 99, .int p1, .int p2, .int p3]) (st' := []) (E' := E5) (I' := (u_I I5 107 (upd (I5 107) p2.toNatClampNeg v5))) (J' := J5) (S' := S5) am_e208 rfl rfl rfl rfl ?_
              exact w_end am_e208 rfl rfl rfl h
          · replace h := h.1 (Decidable.not_not.mp (of_decide_eq_false c))
            refine w_st (i' := 71) (ls' := [.ref 99, .int p1, .int p2, .int p3]) (st' := [.ref 99]) (E' := E) (I' := I) (J' := J) (S' := S) am_e208 rfl rfl rfl rfl ?_
            refine w_st (i' := 72) (ls' := [.ref 99, .int p1, .int p2, .int p3]) (st' := [.ref 107]) (E' := E) (I' := I) (J' := J) (S' := S) am_e208 rfl rfl rfl rfl ?_
            refine w_st (i' := 73) (ls' := [.ref 99, .int p1, .int p2, .int p3]) (st' := [.int p2, .ref 107]) (E' := E) (I' := I) (J' := J) (S' := S) am_e208 rfl rfl rfl rfl ?_
            refine w_st (i' := 74) (ls' := [.ref 99, .int p1, .int p2, .int p3]) (st' := [.ref 99, .int p2, .ref 107]) (E' := E) (I' := I) (J' := J) (S' := S) am_e208 rfl rfl rfl rfl ?_
            refine w_cI am_e208 rfl rfl (as := [.ref 99]) (rest := [.int p2, .ref 107]) rfl rfl ?_
            show am_ww 209 0 [.ref 99] [] E I J S _
            refine w_st (i' := 1) (ls' := [.ref 99]) (st' := [.ref 99]) (E' := E) (I' := I) (J' := J) (S' := S) am_e209 rfl rfl rfl rfl ?_
            refine w_st (i' := 2) (ls' := [.ref 99]) (st' := [.int (nI 0), .ref 99]) (E' := E) (I' := I) (J' := J) (S' := S) am_e209 rfl rfl rfl rfl ?_
            refine w_st (i' := 3) (ls' := [.ref 99]) (st' := [.int (nI 3), .int (nI 0), .ref 99]) (E' := E) (I' := I) (J' := J) (S' := S) am_e209 rfl rfl rfl rfl ?_
            refine w_cI am_e209 rfl rfl (as := [.ref 99, .int (nI 0), .int (nI 3)]) (rest := []) rfl rfl (am_ww.mono h ?_)
            rintro _ E7 I7 J7 S7 ⟨v7, rfl, h⟩
            refine q_mkI ?_
            refine w_ri am_e209 rfl rfl (q_mkI ?_)
            show am_ww 208 75 [.ref 99, .int p1, .int p2, .int p3] [.int v7, .int p2, .ref 107] E7 I7 J7 S7 _
            have hf8 := h.1
            replace h := h.2
            refine w_is (k := 107) (n := 128) (jn := p2.toNatClampNeg) am_e208 rfl rfl (by decide) hf8 rfl ?_
            show am_ww 208 76 [.ref 99, .int p1, .int p2, .int p3] [] E7 (u_I I7 107 (upd (I7 107) p2.toNatClampNeg v7)) J7 S7 _
            refine w_st (i' := 77) (ls' := [.ref 99, .int p1, .int p2, .int p3]) (st' := [.ref 99]) (E' := E7) (I' := (u_I I7 107 (upd (I7 107) p2.toNatClampNeg v7))) (J' := J7) (S' := S7) am_e208 rfl rfl rfl rfl ?_
            refine w_st (i' := 78) (ls' := [.ref 99, .int p1, .int p2, .int p3]) (st' := [.ref 108]) (E' := E7) (I' := (u_I I7 107 (upd (I7 107) p2.toNatClampNeg v7))) (J' := J7) (S' := S7) am_e208 rfl rfl rfl rfl ?_
            refine w_st (i' := 79) (ls' := [.ref 99, .int p1, .int p2, .int p3]) (st' := [.int p2, .ref 108]) (E' := E7) (I' := (u_I I7 107 (upd (I7 107) p2.toNatClampNeg v7))) (J' := J7) (S' := S7) am_e208 rfl rfl rfl rfl ?_
            refine w_st (i' := 80) (ls' := [.ref 99, .int p1, .int p2, .int p3]) (st' := [.ref 99, .int p2, .ref 108]) (E' := E7) (I' := (u_I I7 107 (upd (I7 107) p2.toNatClampNeg v7))) (J' := J7) (S' := S7) am_e208 rfl rfl rfl rfl ?_
            refine w_st (i' := 81) (ls' := [.ref 99, .int p1, .int p2, .int p3]) (st' := [.int (nI 0), .ref 99, .int p2, .ref 108]) (E' := E7) (I' := (u_I I7 107 (upd (I7 107) p2.toNatClampNeg v7))) (J' := J7) (S' := S7) am_e208 rfl rfl rfl rfl ?_
            refine w_st (i' := 82) (ls' := [.ref 99, .int p1, .int p2, .int p3]) (st' := [.int (nI 2), .int (nI 0), .ref 99, .int p2, .ref 108]) (E' := E7) (I' := (u_I I7 107 (upd (I7 107) p2.toNatClampNeg v7))) (J' := J7) (S' := S7) am_e208 rfl rfl rfl rfl ?_
            refine w_cI am_e208 rfl rfl (as := [.ref 99, .int (nI 0), .int (nI 2)]) (rest := [.int p2, .ref 108]) rfl rfl (am_ww.mono h ?_)
            rintro _ E9 I9 J9 S9 ⟨v9, rfl, h⟩
            refine q_mkI ?_
            refine w_is (k := 108) (n := 128) (jn := p2.toNatClampNeg) am_e208 rfl rfl (by decide) hf8 rfl ?_
            show am_ww 208 84 [.ref 99, .int p1, .int p2, .int p3] [] E9 (u_I I9 108 (upd (I9 108) p2.toNatClampNeg v9)) J9 S9 _
            refine w_st (i' := 124) (ls' := [.ref 99, .int p1, .int p2, .int p3]) (st' := []) (E' := E9) (I' := (u_I I9 108 (upd (I9 108) p2.toNatClampNeg v9))) (J' := J9) (S' := S9) am_e208 rfl rfl rfl rfl ?_
            exact w_end am_e208 rfl rfl rfl h
        · replace h := h.2 (of_decide_eq_false c)
          refine w_st (i' := 55) (ls' := [.ref 99, .int p1, .int p2, .int p3]) (st' := [.ref 99]) (E' := E) (I' := I) (J' := J) (S' := S) am_e208 rfl rfl rfl rfl ?_
          refine w_st (i' := 56) (ls' := [.ref 99, .int p1, .int p2, .int p3]) (st' := [.ref 107]) (E' := E) (I' := I) (J' := J) (S' := S) am_e208 rfl rfl rfl rfl ?_
          refine w_st (i' := 57) (ls' := [.ref 99, .int p1, .int p2, .int p3]) (st' := [.int p2, .ref 107]) (E' := E) (I' := I) (J' := J) (S' := S) am_e208 rfl rfl rfl rfl ?_
          refine w_st (i' := 58) (ls' := [.ref 99, .int p1, .int p2, .int p3]) (st' := [.ref 99, .int p2, .ref 107]) (E' := E) (I' := I) (J' := J) (S' := S) am_e208 rfl rfl rfl rfl ?_
          refine w_cI am_e208 rfl rfl (as := [.ref 99]) (rest := [.int p2, .ref 107]) rfl rfl ?_
          show am_ww 209 0 [.ref 99] [] E I J S _
          refine w_st (i' := 1) (ls' := [.ref 99]) (st' := [.ref 99]) (E' := E) (I' := I) (J' := J) (S' := S) am_e209 rfl rfl rfl rfl ?_
          refine w_st (i' := 2) (ls' := [.ref 99]) (st' := [.int (nI 0), .ref 99]) (E' := E) (I' := I) (J' := J) (S' := S) am_e209 rfl rfl rfl rfl ?_
          refine w_st (i' := 3) (ls' := [.ref 99]) (st' := [.int (nI 3), .int (nI 0), .ref 99]) (E' := E) (I' := I) (J' := J) (S' := S) am_e209 rfl rfl rfl rfl ?_
          refine w_cI am_e209 rfl rfl (as := [.ref 99, .int (nI 0), .int (nI 3)]) (rest := []) rfl rfl (am_ww.mono h ?_)
          rintro _ E10 I10 J10 S10 ⟨v10, rfl, h⟩
          refine q_mkI ?_
          refine w_ri am_e209 rfl rfl (q_mkI ?_)
          show am_ww 208 59 [.ref 99, .int p1, .int p2, .int p3] [.int v10, .int p2, .ref 107] E10 I10 J10 S10 _
          have hf11 := h.1
          replace h := h.2
          refine w_is (k := 107) (n := 128) (jn := p2.toNatClampNeg) am_e208 rfl rfl (by decide) hf11 rfl ?_
          show am_ww 208 60 [.ref 99, .int p1, .int p2, .int p3] [] E10 (u_I I10 107 (upd (I10 107) p2.toNatClampNeg v10)) J10 S10 _
          refine w_st (i' := 61) (ls' := [.ref 99, .int p1, .int p2, .int p3]) (st' := [.ref 99]) (E' := E10) (I' := (u_I I10 107 (upd (I10 107) p2.toNatClampNeg v10))) (J' := J10) (S' := S10) am_e208 rfl rfl rfl rfl ?_
          refine w_st (i' := 62) (ls' := [.ref 99, .int p1, .int p2, .int p3]) (st' := [.ref 108]) (E' := E10) (I' := (u_I I10 107 (upd (I10 107) p2.toNatClampNeg v10))) (J' := J10) (S' := S10) am_e208 rfl rfl rfl rfl ?_
          refine w_st (i' := 63) (ls' := [.ref 99, .int p1, .int p2, .int p3]) (st' := [.int p2, .ref 108]) (E' := E10) (I' := (u_I I10 107 (upd (I10 107) p2.toNatClampNeg v10))) (J' := J10) (S' := S10) am_e208 rfl rfl rfl rfl ?_
          refine w_st (i' := 64) (ls' := [.ref 99, .int p1, .int p2, .int p3]) (st' := [.ref 99, .int p2, .ref 108]) (E' := E10) (I' := (u_I I10 107 (upd (I10 107) p2.toNatClampNeg v10))) (J' := J10) (S' := S10) am_e208 rfl rfl rfl rfl ?_
          refine w_cI am_e208 rfl rfl (as := [.ref 99]) (rest := [.int p2, .ref 108]) rfl rfl ?_
          show am_ww 209 0 [.ref 99] [] E10 (u_I I10 107 (upd (I10 107) p2.toNatClampNeg v10)) J10 S10 _
          refine w_st (i' := 1) (ls' := [.ref 99]) (st' := [.ref 99]) (E' := E10) (I' := (u_I I10 107 (upd (I10 107) p2.toNatClampNeg v10))) (J' := J10) (S' := S10) am_e209 rfl rfl rfl rfl ?_
          refine w_st (i' := 2) (ls' := [.ref 99]) (st' := [.int (nI 0), .ref 99]) (E' := E10) (I' := (u_I I10 107 (upd (I10 107) p2.toNatClampNeg v10))) (J' := J10) (S' := S10) am_e209 rfl rfl rfl rfl ?_
          refine w_st (i' := 3) (ls' := [.ref 99]) (st' := [.int (nI 3), .int (nI 0), .ref 99]) (E' := E10) (I' := (u_I I10 107 (upd (I10 107) p2.toNatClampNeg v10))) (J' := J10) (S' := S10) am_e209 rfl rfl rfl rfl ?_
          refine w_cI am_e209 rfl rfl (as := [.ref 99, .int (nI 0), .int (nI 3)]) (rest := []) rfl rfl (am_ww.mono h ?_)
          rintro _ E12 I12 J12 S12 ⟨v12, rfl, h⟩
          refine q_mkI ?_
          refine w_ri am_e209 rfl rfl (q_mkI ?_)
          show am_ww 208 65 [.ref 99, .int p1, .int p2, .int p3] [.int v12, .int p2, .ref 108] E12 I12 J12 S12 _
          refine w_is (k := 108) (n := 128) (jn := p2.toNatClampNeg) am_e208 rfl rfl (by decide) hf11 rfl ?_
          show am_ww 208 66 [.ref 99, .int p1, .int p2, .int p3] [] E12 (u_I I12 108 (upd (I12 108) p2.toNatClampNeg v12)) J12 S12 _
          refine w_st (i' := 124) (ls' := [.ref 99, .int p1, .int p2, .int p3]) (st' := []) (E' := E12) (I' := (u_I I12 108 (upd (I12 108) p2.toNatClampNeg v12))) (J' := J12) (S' := S12) am_e208 rfl rfl rfl rfl ?_
          exact w_end am_e208 rfl rfl rfl h
      · replace h := h.1 (Decidable.not_not.mp (of_decide_eq_false c))
        refine w_st (i' := 37) (ls' := [.ref 99, .int p1, .int p2, .int p3]) (st' := [.ref 99]) (E' := E) (I' := I) (J' := J) (S' := S) am_e208 rfl rfl rfl rfl ?_
        refine w_st (i' := 38) (ls' := [.ref 99, .int p1, .int p2, .int p3]) (st' := [.ref 107]) (E' := E) (I' := I) (J' := J) (S' := S) am_e208 rfl rfl rfl rfl ?_
        refine w_st (i' := 39) (ls' := [.ref 99, .int p1, .int p2, .int p3]) (st' := [.int p2, .ref 107]) (E' := E) (I' := I) (J' := J) (S' := S) am_e208 rfl rfl rfl rfl ?_
        refine w_st (i' := 40) (ls' := [.ref 99, .int p1, .int p2, .int p3]) (st' := [.ref 99, .int p2, .ref 107]) (E' := E) (I' := I) (J' := J) (S' := S) am_e208 rfl rfl rfl rfl ?_
        refine w_st (i' := 41) (ls' := [.ref 99, .int p1, .int p2, .int p3]) (st' := [.int (nI 0), .ref 99, .int p2, .ref 107]) (E' := E) (I' := I) (J' := J) (S' := S) am_e208 rfl rfl rfl rfl ?_
        refine w_st (i' := 42) (ls' := [.ref 99, .int p1, .int p2, .int p3]) (st' := [.int (nI 15), .int (nI 0), .ref 99, .int p2, .ref 107]) (E' := E) (I' := I) (J' := J) (S' := S) am_e208 rfl rfl rfl rfl ?_
        refine w_cI am_e208 rfl rfl (as := [.ref 99, .int (nI 0), .int (nI 15)]) (rest := [.int p2, .ref 107]) rfl rfl (am_ww.mono h ?_)
        rintro _ E13 I13 J13 S13 ⟨v13, rfl, h⟩
        refine q_mkI ?_
        have hf14 := h.1
        replace h := h.2
        refine w_is (k := 107) (n := 128) (jn := p2.toNatClampNeg) am_e208 rfl rfl (by decide) hf14 rfl ?_
        show am_ww 208 44 [.ref 99, .int p1, .int p2, .int p3] [] E13 (u_I I13 107 (upd (I13 107) p2.toNatClampNeg v13)) J13 S13 _
        refine w_st (i' := 45) (ls' := [.ref 99, .int p1, .int p2, .int p3]) (st' := [.ref 99]) (E' := E13) (I' := (u_I I13 107 (upd (I13 107) p2.toNatClampNeg v13))) (J' := J13) (S' := S13) am_e208 rfl rfl rfl rfl ?_
        refine w_st (i' := 46) (ls' := [.ref 99, .int p1, .int p2, .int p3]) (st' := [.ref 108]) (E' := E13) (I' := (u_I I13 107 (upd (I13 107) p2.toNatClampNeg v13))) (J' := J13) (S' := S13) am_e208 rfl rfl rfl rfl ?_
        refine w_st (i' := 47) (ls' := [.ref 99, .int p1, .int p2, .int p3]) (st' := [.int p2, .ref 108]) (E' := E13) (I' := (u_I I13 107 (upd (I13 107) p2.toNatClampNeg v13))) (J' := J13) (S' := S13) am_e208 rfl rfl rfl rfl ?_
        refine w_st (i' := 48) (ls' := [.ref 99, .int p1, .int p2, .int p3]) (st' := [.ref 99, .int p2, .ref 108]) (E' := E13) (I' := (u_I I13 107 (upd (I13 107) p2.toNatClampNeg v13))) (J' := J13) (S' := S13) am_e208 rfl rfl rfl rfl ?_
        refine w_cI am_e208 rfl rfl (as := [.ref 99]) (rest := [.int p2, .ref 108]) rfl rfl ?_
        show am_ww 209 0 [.ref 99] [] E13 (u_I I13 107 (upd (I13 107) p2.toNatClampNeg v13)) J13 S13 _
        refine w_st (i' := 1) (ls' := [.ref 99]) (st' := [.ref 99]) (E' := E13) (I' := (u_I I13 107 (upd (I13 107) p2.toNatClampNeg v13))) (J' := J13) (S' := S13) am_e209 rfl rfl rfl rfl ?_
        refine w_st (i' := 2) (ls' := [.ref 99]) (st' := [.int (nI 0), .ref 99]) (E' := E13) (I' := (u_I I13 107 (upd (I13 107) p2.toNatClampNeg v13))) (J' := J13) (S' := S13) am_e209 rfl rfl rfl rfl ?_
        refine w_st (i' := 3) (ls' := [.ref 99]) (st' := [.int (nI 3), .int (nI 0), .ref 99]) (E' := E13) (I' := (u_I I13 107 (upd (I13 107) p2.toNatClampNeg v13))) (J' := J13) (S' := S13) am_e209 rfl rfl rfl rfl ?_
        refine w_cI am_e209 rfl rfl (as := [.ref 99, .int (nI 0), .int (nI 3)]) (rest := []) rfl rfl (am_ww.mono h ?_)
        rintro _ E15 I15 J15 S15 ⟨v15, rfl, h⟩
        refine q_mkI ?_
        refine w_ri am_e209 rfl rfl (q_mkI ?_)
        show am_ww 208 49 [.ref 99, .int p1, .int p2, .int p3] [.int v15, .int p2, .ref 108] E15 I15 J15 S15 _
        refine w_is (k := 108) (n := 128) (jn := p2.toNatClampNeg) am_e208 rfl rfl (by decide) hf14 rfl ?_
        show am_ww 208 50 [.ref 99, .int p1, .int p2, .int p3] [] E15 (u_I I15 108 (upd (I15 108) p2.toNatClampNeg v15)) J15 S15 _
        refine w_st (i' := 124) (ls' := [.ref 99, .int p1, .int p2, .int p3]) (st' := []) (E' := E15) (I' := (u_I I15 108 (upd (I15 108) p2.toNatClampNeg v15))) (J' := J15) (S' := S15) am_e208 rfl rfl rfl rfl ?_
        exact w_end am_e208 rfl rfl rfl h
    · replace h := h.1 (Decidable.not_not.mp (of_decide_eq_false c))
      refine w_st (i' := 19) (ls' := [.ref 99, .int p1, .int p2, .int p3]) (st' := [.ref 99]) (E' := E) (I' := I) (J' := J) (S' := S) am_e208 rfl rfl rfl rfl ?_
      refine w_st (i' := 20) (ls' := [.ref 99, .int p1, .int p2, .int p3]) (st' := [.ref 107]) (E' := E) (I' := I) (J' := J) (S' := S) am_e208 rfl rfl rfl rfl ?_
      refine w_st (i' := 21) (ls' := [.ref 99, .int p1, .int p2, .int p3]) (st' := [.int p2, .ref 107]) (E' := E) (I' := I) (J' := J) (S' := S) am_e208 rfl rfl rfl rfl ?_
      refine w_st (i' := 22) (ls' := [.ref 99, .int p1, .int p2, .int p3]) (st' := [.ref 99, .int p2, .ref 107]) (E' := E) (I' := I) (J' := J) (S' := S) am_e208 rfl rfl rfl rfl ?_
      refine w_cI am_e208 rfl rfl (as := [.ref 99]) (rest := [.int p2, .ref 107]) rfl rfl ?_
      show am_ww 209 0 [.ref 99] [] E I J S _
      refine w_st (i' := 1) (ls' := [.ref 99]) (st' := [.ref 99]) (E' := E) (I' := I) (J' := J) (S' := S) am_e209 rfl rfl rfl rfl ?_
      refine w_st (i' := 2) (ls' := [.ref 99]) (st' := [.int (nI 0), .ref 99]) (E' := E) (I' := I) (J' := J) (S' := S) am_e209 rfl rfl rfl rfl ?_
      refine w_st (i' := 3) (ls' := [.ref 99]) (st' := [.int (nI 3), .int (nI 0), .ref 99]) (E' := E) (I' := I) (J' := J) (S' := S) am_e209 rfl rfl rfl rfl ?_
      refine w_cI am_e209 rfl rfl (as := [.ref 99, .int (nI 0), .int (nI 3)]) (rest := []) rfl rfl (am_ww.mono h ?_)
      rintro _ E16 I16 J16 S16 ⟨v16, rfl, h⟩
      refine q_mkI ?_
      refine w_ri am_e209 rfl rfl (q_mkI ?_)
      show am_ww 208 23 [.ref 99, .int p1, .int p2, .int p3] [.int v16, .int p2, .ref 107] E16 I16 J16 S16 _
      have hf17 := h.1
      replace h := h.2
      refine w_is (k := 107) (n := 128) (jn := p2.toNatClampNeg) am_e208 rfl rfl (by decide) hf17 rfl ?_
      show am_ww 208 24 [.ref 99, .int p1, .int p2, .int p3] [] E16 (u_I I16 107 (upd (I16 107) p2.toNatClampNeg v16)) J16 S16 _
      refine w_st (i' := 25) (ls' := [.ref 99, .int p1, .int p2, .int p3]) (st' := [.ref 99]) (E' := E16) (I' := (u_I I16 107 (upd (I16 107) p2.toNatClampNeg v16))) (J' := J16) (S' := S16) am_e208 rfl rfl rfl rfl ?_
      refine w_st (i' := 26) (ls' := [.ref 99, .int p1, .int p2, .int p3]) (st' := [.ref 108]) (E' := E16) (I' := (u_I I16 107 (upd (I16 107) p2.toNatClampNeg v16))) (J' := J16) (S' := S16) am_e208 rfl rfl rfl rfl ?_
      refine w_st (i' := 27) (ls' := [.ref 99, .int p1, .int p2, .int p3]) (st' := [.int p2, .ref 108]) (E' := E16) (I' := (u_I I16 107 (upd (I16 107) p2.toNatClampNeg v16))) (J' := J16) (S' := S16) am_e208 rfl rfl rfl rfl ?_
      refine w_st (i' := 28) (ls' := [.ref 99, .int p1, .int p2, .int p3]) (st' := [.ref 99, .int p2, .ref 108]) (E' := E16) (I' := (u_I I16 107 (upd (I16 107) p2.toNatClampNeg v16))) (J' := J16) (S' := S16) am_e208 rfl rfl rfl rfl ?_
      refine w_st (i' := 29) (ls' := [.ref 99, .int p1, .int p2, .int p3]) (st' := [.int (nI 0), .ref 99, .int p2, .ref 108]) (E' := E16) (I' := (u_I I16 107 (upd (I16 107) p2.toNatClampNeg v16))) (J' := J16) (S' := S16) am_e208 rfl rfl rfl rfl ?_
      refine w_st (i' := 30) (ls' := [.ref 99, .int p1, .int p2, .int p3]) (st' := [.int (nI 15), .int (nI 0), .ref 99, .int p2, .ref 108]) (E' := E16) (I' := (u_I I16 107 (upd (I16 107) p2.toNatClampNeg v16))) (J' := J16) (S' := S16) am_e208 rfl rfl rfl rfl ?_
      refine w_cI am_e208 rfl rfl (as := [.ref 99, .int (nI 0), .int (nI 15)]) (rest := [.int p2, .ref 108]) rfl rfl (am_ww.mono h ?_)
      rintro _ E18 I18 J18 S18 ⟨v18, rfl, h⟩
      refine q_mkI ?_
      refine w_is (k := 108) (n := 128) (jn := p2.toNatClampNeg) am_e208 rfl rfl (by decide) hf17 rfl ?_
      show am_ww 208 32 [.ref 99, .int p1, .int p2, .int p3] [] E18 (u_I I18 108 (upd (I18 108) p2.toNatClampNeg v18)) J18 S18 _
      refine w_st (i' := 124) (ls' := [.ref 99, .int p1, .int p2, .int p3]) (st' := []) (E' := E18) (I' := (u_I I18 108 (upd (I18 108) p2.toNatClampNeg v18))) (J' := J18) (S' := S18) am_e208 rfl rfl rfl rfl ?_
      exact w_end am_e208 rfl rfl rfl h
  · replace h := h.1 (Decidable.not_not.mp (of_decide_eq_false c))
    refine w_st (i' := 3) (ls' := [.ref 99, .int p1, .int p2, .int p3]) (st' := [.ref 99]) (E' := E) (I' := I) (J' := J) (S' := S) am_e208 rfl rfl rfl rfl ?_
    refine w_st (i' := 4) (ls' := [.ref 99, .int p1, .int p2, .int p3]) (st' := [.ref 107]) (E' := E) (I' := I) (J' := J) (S' := S) am_e208 rfl rfl rfl rfl ?_
    refine w_st (i' := 5) (ls' := [.ref 99, .int p1, .int p2, .int p3]) (st' := [.int p2, .ref 107]) (E' := E) (I' := I) (J' := J) (S' := S) am_e208 rfl rfl rfl rfl ?_
    refine w_st (i' := 6) (ls' := [.ref 99, .int p1, .int p2, .int p3]) (st' := [.ref 99, .int p2, .ref 107]) (E' := E) (I' := I) (J' := J) (S' := S) am_e208 rfl rfl rfl rfl ?_
    refine w_cI am_e208 rfl rfl (as := [.ref 99]) (rest := [.int p2, .ref 107]) rfl rfl ?_
    show am_ww 209 0 [.ref 99] [] E I J S _
    refine w_st (i' := 1) (ls' := [.ref 99]) (st' := [.ref 99]) (E' := E) (I' := I) (J' := J) (S' := S) am_e209 rfl rfl rfl rfl ?_
    refine w_st (i' := 2) (ls' := [.ref 99]) (st' := [.int (nI 0), .ref 99]) (E' := E) (I' := I) (J' := J) (S' := S) am_e209 rfl rfl rfl rfl ?_
    refine w_st (i' := 3) (ls' := [.ref 99]) (st' := [.int (nI 3), .int (nI 0), .ref 99]) (E' := E) (I' := I) (J' := J) (S' := S) am_e209 rfl rfl rfl rfl ?_
    refine w_cI am_e209 rfl rfl (as := [.ref 99, .int (nI 0), .int (nI 3)]) (rest := []) rfl rfl (am_ww.mono h ?_)
    rintro _ E19 I19 J19 S19 ⟨v19, rfl, h⟩
    refine q_mkI ?_
    refine w_ri am_e209 rfl rfl (q_mkI ?_)
    show am_ww 208 7 [.ref 99, .int p1, .int p2, .int p3] [.int v19, .int p2, .ref 107] E19 I19 J19 S19 _
    have hf20 := h.1
    replace h := h.2
    refine w_is (k := 107) (n := 128) (jn := p2.toNatClampNeg) am_e208 rfl rfl (by decide) hf20 rfl ?_
    show am_ww 208 8 [.ref 99, .int p1, .int p2, .int p3] [] E19 (u_I I19 107 (upd (I19 107) p2.toNatClampNeg v19)) J19 S19 _
    refine w_st (i' := 9) (ls' := [.ref 99, .int p1, .int p2, .int p3]) (st' := [.ref 99]) (E' := E19) (I' := (u_I I19 107 (upd (I19 107) p2.toNatClampNeg v19))) (J' := J19) (S' := S19) am_e208 rfl rfl rfl rfl ?_
    refine w_st (i' := 10) (ls' := [.ref 99, .int p1, .int p2, .int p3]) (st' := [.ref 108]) (E' := E19) (I' := (u_I I19 107 (upd (I19 107) p2.toNatClampNeg v19))) (J' := J19) (S' := S19) am_e208 rfl rfl rfl rfl ?_
    refine w_st (i' := 11) (ls' := [.ref 99, .int p1, .int p2, .int p3]) (st' := [.int p2, .ref 108]) (E' := E19) (I' := (u_I I19 107 (upd (I19 107) p2.toNatClampNeg v19))) (J' := J19) (S' := S19) am_e208 rfl rfl rfl rfl ?_
    refine w_st (i' := 12) (ls' := [.ref 99, .int p1, .int p2, .int p3]) (st' := [.ref 99, .int p2, .ref 108]) (E' := E19) (I' := (u_I I19 107 (upd (I19 107) p2.toNatClampNeg v19))) (J' := J19) (S' := S19) am_e208 rfl rfl rfl rfl ?_
    refine w_cI am_e208 rfl rfl (as := [.ref 99]) (rest := [.int p2, .ref 108]) rfl rfl (am_ww.mono h ?_)
    rintro _ E21 I21 J21 S21 ⟨v21, rfl, h⟩
    refine q_mkI ?_
    refine w_is (k := 108) (n := 128) (jn := p2.toNatClampNeg) am_e208 rfl rfl (by decide) hf20 rfl ?_
    show am_ww 208 14 [.ref 99, .int p1, .int p2, .int p3] [] E21 (u_I I21 108 (upd (I21 108) p2.toNatClampNeg v21)) J21 S21 _
    refine w_st (i' := 124) (ls' := [.ref 99, .int p1, .int p2, .int p3]) (st' := []) (E' := E21) (I' := (u_I I21 108 (upd (I21 108) p2.toNatClampNeg v21))) (J' := J21) (S' := S21) am_e208 rfl rfl rfl rfl ?_
    exact w_end am_e208 rfl rfl rfl h
theorem g208_109 {x1 : Int32} {x2 : Int32} {x3 : Int32} {E : am_Ev} {I : Nat → Nat → Int32} {J : Nat → Nat → Int64} {S : Nat → Nat → Option Nat} {Q : am_Qt}  (h : (x1 = (nI 11) → (am_cl 198 [.ref 99, .int (nI 0), .int (nI 3)] E I J S (q_I fun v2 E2 I2 J2 S2 => vp_in x2 128 ∧ (((nI 11) < x1 → (Q (.inl none) E2 (u_I I2 108 (upd (I2 108) x2.toNatClampNeg v2)) J2 S2)) ∧ (¬ (nI 11) < x1 → (am_cl 212 [.ref 99, .int x3] E2 (u_I I2 108 (upd (I2 108) x2.toNatClampNeg v2)) J2 S2 (q_V fun E4 I4 J4 S4 => Q (.inl none) E4 I4 J4 S4))))))) ∧ (¬ x1 = (nI 11) → (((nI 11) < x1 → (Q (.inl none) E I J S)) ∧ (¬ (nI 11) < x1 → (am_cl 212 [.ref 99, .int x3] E I J S (q_V fun E1 I1 J1 S1 => Q (.inl none) E1 I1 J1 S1)))))) : am_ww 208 109 [.ref 99, .int x1, .int x2, .int x3] [] E I J S Q := by
  refine w_st (i' := 110) (ls' := [.ref 99, .int x1, .int x2, .int x3]) (st' := [.int x1]) (E' := E) (I' := I) (J' := J) (S' := S) am_e208 rfl rfl rfl rfl ?_
  refine w_st (i' := 111) (ls' := [.ref 99, .int x1, .int x2, .int x3]) (st' := [.int (nI 11), .int x1]) (E' := E) (I' := I) (J' := J) (S' := S) am_e208 rfl rfl rfl rfl ?_
  refine w_if2 am_e208 rfl rfl (fun c => ?_) (fun c => ?_)
  · replace h := h.2 (of_decide_eq_true c)
    refine w_st (i' := 119) (ls' := [.ref 99, .int x1, .int x2, .int x3]) (st' := [.int x1]) (E' := E) (I' := I) (J' := J) (S' := S) am_e208 rfl rfl rfl rfl ?_
    refine w_st (i' := 120) (ls' := [.ref 99, .int x1, .int x2, .int x3]) (st' := [.int (nI 11), .int x1]) (E' := E) (I' := I) (J' := J) (S' := S) am_e208 rfl rfl rfl rfl ?_
    refine w_if2 am_e208 rfl rfl (fun c => ?_) (fun c => ?_)
    · replace h := h.1 (of_decide_eq_true c)
      exact w_end am_e208 rfl rfl rfl h
    · replace h := h.2 (of_decide_eq_false c)
      refine w_st (i' := 122) (ls' := [.ref 99, .int x1, .int x2, .int x3]) (st' := [.ref 99]) (E' := E) (I' := I) (J' := J) (S' := S) am_e208 rfl rfl rfl rfl ?_
      refine w_st (i' := 123) (ls' := [.ref 99, .int x1, .int x2, .int x3]) (st' := [.int x3, .ref 99]) (E' := E) (I' := I) (J' := J) (S' := S) am_e208 rfl rfl rfl rfl ?_
      refine w_cV am_e208 rfl rfl (as := [.ref 99, .int x3]) (rest := []) rfl rfl (am_ww.mono h ?_)
      rintro _ E1 I1 J1 S1 ⟨rfl, h⟩
      refine q_mkV ?_
      exact w_end am_e208 rfl rfl rfl h
  · replace h := h.1 (Decidable.not_not.mp (of_decide_eq_false c))
    refine w_st (i' := 113) (ls' := [.ref 99, .int x1, .int x2, .int x3]) (st' := [.ref 99]) (E' := E) (I' := I) (J' := J) (S' := S) am_e208 rfl rfl rfl rfl ?_
    refine w_st (i' := 114) (ls' := [.ref 99, .int x1, .int x2, .int x3]) (st' := [.ref 108]) (E' := E) (I' := I) (J' := J) (S' := S) am_e208 rfl rfl rfl rfl ?_
    refine w_st (i' := 115) (ls' := [.ref 99, .int x1, .int x2, .int x3]) (st' := [.int x2, .ref 108]) (E' := E) (I' := I) (J' := J) (S' := S) am_e208 rfl rfl rfl rfl ?_
    refine w_st (i' := 116) (ls' := [.ref 99, .int x1, .int x2, .int x3]) (st' := [.ref 99, .int x2, .ref 108]) (E' := E) (I' := I) (J' := J) (S' := S) am_e208 rfl rfl rfl rfl ?_
    refine w_cI am_e208 rfl rfl (as := [.ref 99]) (rest := [.int x2, .ref 108]) rfl rfl ?_
    show am_ww 209 0 [.ref 99] [] E I J S _
    refine w_st (i' := 1) (ls' := [.ref 99]) (st' := [.ref 99]) (E' := E) (I' := I) (J' := J) (S' := S) am_e209 rfl rfl rfl rfl ?_
    refine w_st (i' := 2) (ls' := [.ref 99]) (st' := [.int (nI 0), .ref 99]) (E' := E) (I' := I) (J' := J) (S' := S) am_e209 rfl rfl rfl rfl ?_
    refine w_st (i' := 3) (ls' := [.ref 99]) (st' := [.int (nI 3), .int (nI 0), .ref 99]) (E' := E) (I' := I) (J' := J) (S' := S) am_e209 rfl rfl rfl rfl ?_
    refine w_cI am_e209 rfl rfl (as := [.ref 99, .int (nI 0), .int (nI 3)]) (rest := []) rfl rfl (am_ww.mono h ?_)
    rintro _ E2 I2 J2 S2 ⟨v2, rfl, h⟩
    refine q_mkI ?_
    refine w_ri am_e209 rfl rfl (q_mkI ?_)
    show am_ww 208 117 [.ref 99, .int x1, .int x2, .int x3] [.int v2, .int x2, .ref 108] E2 I2 J2 S2 _
    have hf3 := h.1
    replace h := h.2
    refine w_is (k := 108) (n := 128) (jn := x2.toNatClampNeg) am_e208 rfl rfl (by decide) hf3 rfl ?_
    show am_ww 208 118 [.ref 99, .int x1, .int x2, .int x3] [] E2 (u_I I2 108 (upd (I2 108) x2.toNatClampNeg v2)) J2 S2 _
    refine w_st (i' := 119) (ls' := [.ref 99, .int x1, .int x2, .int x3]) (st' := [.int x1]) (E' := E2) (I' := (u_I I2 108 (upd (I2 108) x2.toNatClampNeg v2))) (J' := J2) (S' := S2) am_e208 rfl rfl rfl rfl ?_
    refine w_st (i' := 120) (ls' := [.ref 99, .int x1, .int x2, .int x3]) (st' := [.int (nI 11), .int x1]) (E' := E2) (I' := (u_I I2 108 (upd (I2 108) x2.toNatClampNeg v2))) (J' := J2) (S' := S2) am_e208 rfl rfl rfl rfl ?_
    refine w_if2 am_e208 rfl rfl (fun c => ?_) (fun c => ?_)
    · replace h := h.1 (of_decide_eq_true c)
      exact w_end am_e208 rfl rfl rfl h
    · replace h := h.2 (of_decide_eq_false c)
      refine w_st (i' := 122) (ls' := [.ref 99, .int x1, .int x2, .int x3]) (st' := [.ref 99]) (E' := E2) (I' := (u_I I2 108 (upd (I2 108) x2.toNatClampNeg v2))) (J' := J2) (S' := S2) am_e208 rfl rfl rfl rfl ?_
      refine w_st (i' := 123) (ls' := [.ref 99, .int x1, .int x2, .int x3]) (st' := [.int x3, .ref 99]) (E' := E2) (I' := (u_I I2 108 (upd (I2 108) x2.toNatClampNeg v2))) (J' := J2) (S' := S2) am_e208 rfl rfl rfl rfl ?_
      refine w_cV am_e208 rfl rfl (as := [.ref 99, .int x3]) (rest := []) rfl rfl (am_ww.mono h ?_)
      rintro _ E4 I4 J4 S4 ⟨rfl, h⟩
      refine q_mkV ?_
      exact w_end am_e208 rfl rfl rfl h
-- 201 readLine
theorem g201_0 {p1 : Int32} {p2 : Int32} {E : am_Ev} {I : Nat → Nat → Int32} {J : Nat → Nat → Int64} {S : Nat → Nat → Option Nat} {Q : am_Qt}  (h : (((I 99) 22) = 0 → ((((I 99) 18) = (nI 1) → ((p2 = (nI 16) → (am_cl 202 [.ref 99] E I J S (q_I fun v1 E1 I1 J1 S1 => (v1 = 0 → (am_ww 201 19 [.ref 99, .int p1, .int p2, am_U, am_U] [] E1 I1 J1 S1 Q)) ∧ (¬ v1 = 0 → (am_cl 195 [.ref 99, .ref 102] E1 I1 J1 S1 (q_I fun v2 E2 I2 J2 S2 => (v2 = (-1) → ((((I2 99) 22) = 0 → ((((I2 99) 18) = (nI 1) → ((p2 = (nI 16) → ((((I2 99) 22) = 0 → (am_ww 201 35 [.ref 99, .int p1, .int p2, am_U, am_U] [] E2 (u_I I2 99 (upd (upd (I2 99) 22 (nI 1)) 23 ((I2 99) 20))) J2 S2 Q)) ∧ (¬ ((I2 99) 22) = 0 → (am_ww 201 35 [.ref 99, .int p1, .int p2, am_U, am_U] [] E2 I2 J2 S2 Q)))) ∧ (¬ p2 = (nI 16) → (am_ww 201 35 [.ref 99, .int p1, .int p2, am_U, am_U] [] E2 I2 J2 S2 Q)))) ∧ (¬ ((I2 99) 18) = (nI 1) → ((((I2 99) 22) = 0 → (am_ww 201 35 [.ref 99, .int p1, .int p2, am_U, am_U] [] E2 (u_I I2 99 (upd (upd (I2 99) 22 (nI 1)) 23 ((I2 99) 20))) J2 S2 Q)) ∧ (¬ ((I2 99) 22) = 0 → (am_ww 201 35 [.ref 99, .int p1, .int p2, am_U, am_U] [] E2 I2 J2 S2 Q)))))) ∧ (¬ ((I2 99) 22) = 0 → (am_ww 201 35 [.ref 99, .int p1, .int p2, am_U, am_U] [] E2 I2 J2 S2 Q)))) ∧ (¬ v2 = (-1) → (am_ww 201 19 [.ref 99, .int p1, .int p2, am_U, am_U] [] E2 I2 J2 S2 Q)))))))) ∧ (¬ p2 = (nI 16) → ((((I 99) 22) = 0 → ((((I 99) 18) = (nI 1) → ((p2 = (nI 16) → ((((I 99) 22) = 0 → (am_ww 201 35 [.ref 99, .int p1, .int p2, am_U, am_U] [] E (u_I I 99 (upd (upd (I 99) 22 (nI 1)) 23 ((I 99) 20))) J S Q)) ∧ (¬ ((I 99) 22) = 0 → (am_ww 201 35 [.ref 99, .int p1, .int p2, am_U, am_U] [] E I J S Q)))) ∧ (¬ p2 = (nI 16) → (am_ww 201 35 [.ref 99, .int p1, .int p2, am_U, am_U] [] E I J S Q)))) ∧ (¬ ((I 99) 18) = (nI 1) → ((((I 99) 22) = 0 → (am_ww 201 35 [.ref 99, .int p1, .int p2, am_U, am_U] [] E (u_I I 99 (upd (upd (I 99) 22 (nI 1)) 23 ((I 99) 20))) J S Q)) ∧ (¬ ((I 99) 22) = 0 → (am_ww 201 35 [.ref 99, .int p1, .int p2, am_U, am_U] [] E I J S Q)))))) ∧ (¬ ((I 99) 22) = 0 → (am_ww 201 35 [.ref 99, .int p1, .int p2, am_U, am_U] [] E I J S Q)))))) ∧ (¬ ((I 99) 18) = (nI 1) → ((((I 99) 22) = 0 → ((((I 99) 18) = (nI 1) → ((p2 = (nI 16) → ((((I 99) 22) = 0 → (am_ww 201 35 [.ref 99, .int p1, .int p2, am_U, am_U] [] E (u_I I 99 (upd (upd (I 99) 22 (nI 1)) 23 ((I 99) 20))) J S Q)) ∧ (¬ ((I 99) 22) = 0 → (am_ww 201 35 [.ref 99, .int p1, .int p2, am_U, am_U] [] E I J S Q)))) ∧ (¬ p2 = (nI 16) → (am_ww 201 35 [.ref 99, .int p1, .int p2, am_U, am_U] [] E I J S Q)))) ∧ (¬ ((I 99) 18) = (nI 1) → ((((I 99) 22) = 0 → (am_ww 201 35 [.ref 99, .int p1, .int p2, am_U, am_U] [] E (u_I I 99 (upd (upd (I 99) 22 (nI 1)) 23 ((I 99) 20))) J S Q)) ∧ (¬ ((I 99) 22) = 0 → (am_ww 201 35 [.ref 99, .int p1, .int p2, am_U, am_U] [] E I J S Q)))))) ∧ (¬ ((I 99) 22) = 0 → (am_ww 201 35 [.ref 99, .int p1, .int p2, am_U, am_U] [] E I J S Q)))))) ∧ (¬ ((I 99) 22) = 0 → ((((I 99) 22) = 0 → ((((I 99) 18) = (nI 1) → ((p2 = (nI 16) → ((((I 99) 22) = 0 → (am_ww 201 35 [.ref 99, .int p1, .int p2, am_U, am_U] [] E (u_I I 99 (upd (upd (I 99) 22 (nI 1)) 23 ((I 99) 20))) J S Q)) ∧ (¬ ((I 99) 22) = 0 → (am_ww 201 35 [.ref 99, .int p1, .int p2, am_U, am_U] [] E I J S Q)))) ∧ (¬ p2 = (nI 16) → (am_ww 201 35 [.ref 99, .int p1, .int p2, am_U, am_U] [] E I J S Q)))) ∧ (¬ ((I 99) 18) = (nI 1) → ((((I 99) 22) = 0 → (am_ww 201 35 [.ref 99, .int p1, .int p2, am_U, am_U] [] E (u_I I 99 (upd (upd (I 99) 22 (nI 1)) 23 ((I 99) 20))) J S Q)) ∧ (¬ ((I 99) 22) = 0 → (am_ww 201 35 [.ref 99, .int p1, .int p2, am_U, am_U] [] E I J S Q)))))) ∧ (¬ ((I 99) 22) = 0 → (am_ww 201 35 [.ref 99, .int p1, .int p2, am_U, am_U] [] E I J S Q))))) : am_ww 201 0 [.ref 99, .int p1, .int p2, am_U, am_U] [] E I J S Q := by
  refine w_st (i' := 1) (ls' := [.ref 99, .int p1, .int p2, am_U, am_U]) (st' := [.ref 99]) (E' := E) (I' := I) (J' := J) (S' := S) am_e201 rfl rfl rfl rfl ?_
  refine w_st (i' := 2) (ls' := [.ref 99, .int p1, .int p2, am_U, am_U]) (st' := [.int ((I 99) 22)]) (E' := E) (I' := I) (J' := J) (S' := S) am_e201 rfl rfl rfl rfl ?_
  refine w_if1 am_e201 rfl rfl (fun c => ?_) (fun c => ?_)
  · replace h := h.2 (of_decide_eq_true c)
    refine w_st (i' := 23) (ls' := [.ref 99, .int p1, .int p2, am_U, am_U]) (st' := [.ref 99]) (E' := E) (I' := I) (J' := J) (S' := S) am_e201 rfl rfl rfl rfl ?_
    refine w_st (i' := 24) (ls' := [.ref 99, .int p1, .int p2, am_U, am_U]) (st' := [.int ((I 99) 22)]) (E' := E) (I' := I) (J' := J) (S' := S) am_e201 rfl rfl rfl rfl ?_
    refine w_if1 am_e201 rfl rfl (fun c => ?_) (fun c => ?_)
    · replace h := h.2 (of_decide_eq_true c)
      exact h
    · replace h := h.1 (Decidable.not_not.mp (of_decide_eq_false c))
      refine w_st (i' := 26) (ls' := [.ref 99, .int p1, .int p2, am_U, am_U]) (st' := [.ref 99]) (E' := E) (I' := I) (J' := J) (S' := S) am_e201 rfl rfl rfl rfl ?_
      refine w_st (i' := 27) (ls' := [.ref 99, .int p1, .int p2, am_U, am_U]) (st' := [.int ((I 99) 18)]) (E' := E) (I' := I) (J' := J) (S' := S) am_e201 rfl rfl rfl rfl ?_
      refine w_st (i' := 28) (ls' := [.ref 99, .int p1, .int p2, am_U, am_U]) (st' := [.int (nI 1), .int ((I 99) 18)]) (E' := E) (I' := I) (J' := J) (S' := S) am_e201 rfl rfl rfl rfl ?_
      refine w_if2 am_e201 rfl rfl (fun c => ?_) (fun c => ?_)
      · replace h := h.2 (of_decide_eq_true c)
        refine w_st (i' := 33) (ls' := [.ref 99, .int p1, .int p2, am_U, am_U]) (st' := [.ref 99]) (E' := E) (I' := I) (J' := J) (S' := S) am_e201 rfl rfl rfl rfl ?_
        refine w_st (i' := 34) (ls' := [.ref 99, .int p1, .int p2, am_U, am_U]) (st' := [.int (nI 1), .ref 99]) (E' := E) (I' := I) (J' := J) (S' := S) am_e201 rfl rfl rfl rfl ?_
        refine w_cV am_e201 rfl rfl (as := [.ref 99, .int (nI 1)]) (rest := []) rfl rfl ?_
        show am_ww 197 0 [.ref 99, .int (nI 1)] [] E I J S _
        refine w_st (i' := 1) (ls' := [.ref 99, .int (nI 1)]) (st' := [.ref 99]) (E' := E) (I' := I) (J' := J) (S' := S) am_e197 rfl rfl rfl rfl ?_
        refine w_st (i' := 2) (ls' := [.ref 99, .int (nI 1)]) (st' := [.int ((I 99) 22)]) (E' := E) (I' := I) (J' := J) (S' := S) am_e197 rfl rfl rfl rfl ?_
        refine w_if1 am_e197 rfl rfl (fun c => ?_) (fun c => ?_)
        · replace h := h.1 (of_decide_eq_true c)
          refine w_st (i' := 5) (ls' := [.ref 99, .int (nI 1)]) (st' := [.ref 99]) (E' := E) (I' := I) (J' := J) (S' := S) am_e197 rfl rfl rfl rfl ?_
          refine w_st (i' := 6) (ls' := [.ref 99, .int (nI 1)]) (st' := [.int (nI 1), .ref 99]) (E' := E) (I' := I) (J' := J) (S' := S) am_e197 rfl rfl rfl rfl ?_
          refine w_st (i' := 7) (ls' := [.ref 99, .int (nI 1)]) (st' := []) (E' := E) (I' := (u_I I 99 (upd (I 99) 22 (nI 1)))) (J' := J) (S' := S) am_e197 rfl rfl rfl rfl ?_
          refine w_st (i' := 8) (ls' := [.ref 99, .int (nI 1)]) (st' := [.ref 99]) (E' := E) (I' := (u_I I 99 (upd (I 99) 22 (nI 1)))) (J' := J) (S' := S) am_e197 rfl rfl rfl rfl ?_
          refine w_st (i' := 9) (ls' := [.ref 99, .int (nI 1)]) (st' := [.ref 99, .ref 99]) (E' := E) (I' := (u_I I 99 (upd (I 99) 22 (nI 1)))) (J' := J) (S' := S) am_e197 rfl rfl rfl rfl ?_
          refine w_st (i' := 10) (ls' := [.ref 99, .int (nI 1)]) (st' := [.int ((I 99) 20), .ref 99]) (E' := E) (I' := (u_I I 99 (upd (I 99) 22 (nI 1)))) (J' := J) (S' := S) am_e197 rfl rfl rfl rfl ?_
          refine w_st (i' := 11) (ls' := [.ref 99, .int (nI 1)]) (st' := []) (E' := E) (I' := (u_I (u_I I 99 (upd (I 99) 22 (nI 1))) 99 (upd (upd (I 99) 22 (nI 1)) 23 ((I 99) 20)))) (J' := J) (S' := S) am_e197 rfl rfl rfl rfl ?_
          refine w_eI (uI_0 ..) ?_
          show am_ww 197 11 [.ref 99, .int (nI 1)] [] E (u_I I 99 (upd (upd (I 99) 22 (nI 1)) 23 ((I 99) 20))) J S _
          refine w_end (E' := E) (I' := (u_I I 99 (upd (upd (I 99) 22 (nI 1)) 23 ((I 99) 20)))) (J' := J) (S' := S) am_e197 rfl rfl rfl (q_mkV ?_)
          show am_ww 201 35 [.ref 99, .int p1, .int p2, am_U, am_U] [] E (u_I I 99 (upd (upd (I 99) 22 (nI 1)) 23 ((I 99) 20))) J S _
          exact h
        · replace h := h.2 (of_decide_eq_false c)
          refine w_end (E' := E) (I' := I) (J' := J) (S' := S) am_e197 rfl rfl rfl (q_mkV ?_)
          show am_ww 201 35 [.ref 99, .int p1, .int p2, am_U, am_U] [] E I J S _
          exact h
      · replace h := h.1 (Decidable.not_not.mp (of_decide_eq_false c))
        refine w_st (i' := 30) (ls' := [.ref 99, .int p1, .int p2, am_U, am_U]) (st' := [.int p2]) (E' := E) (I' := I) (J' := J) (S' := S) am_e201 rfl rfl rfl rfl ?_
        refine w_st (i' := 31) (ls' := [.ref 99, .int p1, .int p2, am_U, am_U]) (st' := [.int (nI 16), .int p2]) (E' := E) (I' := I) (J' := J) (S' := S) am_e201 rfl rfl rfl rfl ?_
        refine w_if2 am_e201 rfl rfl (fun c => ?_) (fun c => ?_)
        · replace h := h.2 (of_decide_eq_true c)
          exact h
        · replace h := h.1 (Decidable.not_not.mp (of_decide_eq_false c))
          refine w_st (i' := 33) (ls' := [.ref 99, .int p1, .int p2, am_U, am_U]) (st' := [.ref 99]) (E' := E) (I' := I) (J' := J) (S' := S) am_e201 rfl rfl rfl rfl ?_
          refine w_st (i' := 34) (ls' := [.ref 99, .int p1, .int p2, am_U, am_U]) (st' := [.int (nI 1), .ref 99]) (E' := E) (I' := I) (J' := J) (S' := S) am_e201 rfl rfl rfl rfl ?_
          refine w_cV am_e201 rfl rfl (as := [.ref 99, .int (nI 1)]) (rest := []) rfl rfl ?_
          show am_ww 197 0 [.ref 99, .int (nI 1)] [] E I J S _
          refine w_st (i' := 1) (ls' := [.ref 99, .int (nI 1)]) (st' := [.ref 99]) (E' := E) (I' := I) (J' := J) (S' := S) am_e197 rfl rfl rfl rfl ?_
          refine w_st (i' := 2) (ls' := [.ref 99, .int (nI 1)]) (st' := [.int ((I 99) 22)]) (E' := E) (I' := I) (J' := J) (S' := S) am_e197 rfl rfl rfl rfl ?_
          refine w_if1 am_e197 rfl rfl (fun c => ?_) (fun c => ?_)
          · replace h := h.1 (of_decide_eq_true c)
            refine w_st (i' := 5) (ls' := [.ref 99, .int (nI 1)]) (st' := [.ref 99]) (E' := E) (I' := I) (J' := J) (S' := S) am_e197 rfl rfl rfl rfl ?_
            refine w_st (i' := 6) (ls' := [.ref 99, .int (nI 1)]) (st' := [.int (nI 1), .ref 99]) (E' := E) (I' := I) (J' := J) (S' := S) am_e197 rfl rfl rfl rfl ?_
            refine w_st (i' := 7) (ls' := [.ref 99, .int (nI 1)]) (st' := []) (E' := E) (I' := (u_I I 99 (upd (I 99) 22 (nI 1)))) (J' := J) (S' := S) am_e197 rfl rfl rfl rfl ?_
            refine w_st (i' := 8) (ls' := [.ref 99, .int (nI 1)]) (st' := [.ref 99]) (E' := E) (I' := (u_I I 99 (upd (I 99) 22 (nI 1)))) (J' := J) (S' := S) am_e197 rfl rfl rfl rfl ?_
            refine w_st (i' := 9) (ls' := [.ref 99, .int (nI 1)]) (st' := [.ref 99, .ref 99]) (E' := E) (I' := (u_I I 99 (upd (I 99) 22 (nI 1)))) (J' := J) (S' := S) am_e197 rfl rfl rfl rfl ?_
            refine w_st (i' := 10) (ls' := [.ref 99, .int (nI 1)]) (st' := [.int ((I 99) 20), .ref 99]) (E' := E) (I' := (u_I I 99 (upd (I 99) 22 (nI 1)))) (J' := J) (S' := S) am_e197 rfl rfl rfl rfl ?_
            refine w_st (i' := 11) (ls' := [.ref 99, .int (nI 1)]) (st' := []) (E' := E) (I' := (u_I (u_I I 99 (upd (I 99) 22 (nI 1))) 99 (upd (upd (I 99) 22 (nI 1)) 23 ((I 99) 20)))) (J' := J) (S' := S) am_e197 rfl rfl rfl rfl ?_
            refine w_eI (uI_0 ..) ?_
            show am_ww 197 11 [.ref 99, .int (nI 1)] [] E (u_I I 99 (upd (upd (I 99) 22 (nI 1)) 23 ((I 99) 20))) J S _
            refine w_end (E' := E) (I' := (u_I I 99 (upd (upd (I 99) 22 (nI 1)) 23 ((I 99) 20)))) (J' := J) (S' := S) am_e197 rfl rfl rfl (q_mkV ?_)
            show am_ww 201 35 [.ref 99, .int p1, .int p2, am_U, am_U] [] E (u_I I 99 (upd (upd (I 99) 22 (nI 1)) 23 ((I 99) 20))) J S _
            exact h
          · replace h := h.2 (of_decide_eq_false c)
            refine w_end (E' := E) (I' := I) (J' := J) (S' := S) am_e197 rfl rfl rfl (q_mkV ?_)
            show am_ww 201 35 [.ref 99, .int p1, .int p2, am_U, am_U] [] E I J S _
            exact h
  · replace h := h.1 (Decidable.not_not.mp (of_decide_eq_false c))
    refine w_st (i' := 4) (ls' := [.ref 99, .int p1, .int p2, am_U, am_U]) (st' := [.ref 99]) (E' := E) (I' := I) (J' := J) (S' := S) am_e201 rfl rfl rfl rfl ?_
    refine w_st (i' := 5) (ls' := [.ref 99, .int p1, .int p2, am_U, am_U]) (st' := [.int ((I 99) 18)]) (E' := E) (I' := I) (J' := J) (S' := S) am_e201 rfl rfl rfl rfl ?_
    refine w_st (i' := 6) (ls' := [.ref 99, .int p1, .int p2, am_U, am_U]) (st' := [.int (nI 1), .int ((I 99) 18)]) (E' := E) (I' := I) (J' := J) (S' := S) am_e201 rfl rfl rfl rfl ?_
    refine w_if2 am_e201 rfl rfl (fun c => ?_) (fun c => ?_)
    · replace h := h.2 (of_decide_eq_true c)
      refine w_st (i' := 23) (ls' := [.ref 99, .int p1, .int p2, am_U, am_U]) (st' := [.ref 99]) (E' := E) (I' := I) (J' := J) (S' := S) am_e201 rfl rfl rfl rfl ?_
      refine w_st (i' := 24) (ls' := [.ref 99, .int p1, .int p2, am_U, am_U]) (st' := [.int ((I 99) 22)]) (E' := E) (I' := I) (J' := J) (S' := S) am_e201 rfl rfl rfl rfl ?_
      refine w_if1 am_e201 rfl rfl (fun c => ?_) (fun c => ?_)
      · replace h := h.2 (of_decide_eq_true c)
        exact h
      · replace h := h.1 (Decidable.not_not.mp (of_decide_eq_false c))
        refine w_st (i' := 26) (ls' := [.ref 99, .int p1, .int p2, am_U, am_U]) (st' := [.ref 99]) (E' := E) (I' := I) (J' := J) (S' := S) am_e201 rfl rfl rfl rfl ?_
        refine w_st (i' := 27) (ls' := [.ref 99, .int p1, .int p2, am_U, am_U]) (st' := [.int ((I 99) 18)]) (E' := E) (I' := I) (J' := J) (S' := S) am_e201 rfl rfl rfl rfl ?_
        refine w_st (i' := 28) (ls' := [.ref 99, .int p1, .int p2, am_U, am_U]) (st' := [.int (nI 1), .int ((I 99) 18)]) (E' := E) (I' := I) (J' := J) (S' := S) am_e201 rfl rfl rfl rfl ?_
        refine w_if2 am_e201 rfl rfl (fun c => ?_) (fun c => ?_)
        · replace h := h.2 (of_decide_eq_true c)
          refine w_st (i' := 33) (ls' := [.ref 99, .int p1, .int p2, am_U, am_U]) (st' := [.ref 99]) (E' := E) (I' := I) (J' := J) (S' := S) am_e201 rfl rfl rfl rfl ?_
          refine w_st (i' := 34) (ls' := [.ref 99, .int p1, .int p2, am_U, am_U]) (st' := [.int (nI 1), .ref 99]) (E' := E) (I' := I) (J' := J) (S' := S) am_e201 rfl rfl rfl rfl ?_
          refine w_cV am_e201 rfl rfl (as := [.ref 99, .int (nI 1)]) (rest := []) rfl rfl ?_
          show am_ww 197 0 [.ref 99, .int (nI 1)] [] E I J S _
          refine w_st (i' := 1) (ls' := [.ref 99, .int (nI 1)]) (st' := [.ref 99]) (E' := E) (I' := I) (J' := J) (S' := S) am_e197 rfl rfl rfl rfl ?_
          refine w_st (i' := 2) (ls' := [.ref 99, .int (nI 1)]) (st' := [.int ((I 99) 22)]) (E' := E) (I' := I) (J' := J) (S' := S) am_e197 rfl rfl rfl rfl ?_
          refine w_if1 am_e197 rfl rfl (fun c => ?_) (fun c => ?_)
          · replace h := h.1 (of_decide_eq_true c)
            refine w_st (i' := 5) (ls' := [.ref 99, .int (nI 1)]) (st' := [.ref 99]) (E' := E) (I' := I) (J' := J) (S' := S) am_e197 rfl rfl rfl rfl ?_
            refine w_st (i' := 6) (ls' := [.ref 99, .int (nI 1)]) (st' := [.int (nI 1), .ref 99]) (E' := E) (I' := I) (J' := J) (S' := S) am_e197 rfl rfl rfl rfl ?_
            refine w_st (i' := 7) (ls' := [.ref 99, .int (nI 1)]) (st' := []) (E' := E) (I' := (u_I I 99 (upd (I 99) 22 (nI 1)))) (J' := J) (S' := S) am_e197 rfl rfl rfl rfl ?_
            refine w_st (i' := 8) (ls' := [.ref 99, .int (nI 1)]) (st' := [.ref 99]) (E' := E) (I' := (u_I I 99 (upd (I 99) 22 (nI 1)))) (J' := J) (S' := S) am_e197 rfl rfl rfl rfl ?_
            refine w_st (i' := 9) (ls' := [.ref 99, .int (nI 1)]) (st' := [.ref 99, .ref 99]) (E' := E) (I' := (u_I I 99 (upd (I 99) 22 (nI 1)))) (J' := J) (S' := S) am_e197 rfl rfl rfl rfl ?_
            refine w_st (i' := 10) (ls' := [.ref 99, .int (nI 1)]) (st' := [.int ((I 99) 20), .ref 99]) (E' := E) (I' := (u_I I 99 (upd (I 99) 22 (nI 1)))) (J' := J) (S' := S) am_e197 rfl rfl rfl rfl ?_
            refine w_st (i' := 11) (ls' := [.ref 99, .int (nI 1)]) (st' := []) (E' := E) (I' := (u_I (u_I I 99 (upd (I 99) 22 (nI 1))) 99 (upd (upd (I 99) 22 (nI 1)) 23 ((I 99) 20)))) (J' := J) (S' := S) am_e197 rfl rfl rfl rfl ?_
            refine w_eI (uI_0 ..) ?_
            show am_ww 197 11 [.ref 99, .int (nI 1)] [] E (u_I I 99 (upd (upd (I 99) 22 (nI 1)) 23 ((I 99) 20))) J S _
            refine w_end (E' := E) (I' := (u_I I 99 (upd (upd (I 99) 22 (nI 1)) 23 ((I 99) 20)))) (J' := J) (S' := S) am_e197 rfl rfl rfl (q_mkV ?_)
            show am_ww 201 35 [.ref 99, .int p1, .int p2, am_U, am_U] [] E (u_I I 99 (upd (upd (I 99) 22 (nI 1)) 23 ((I 99) 20))) J S _
            exact h
          · replace h := h.2 (of_decide_eq_false c)
            refine w_end (E' := E) (I' := I) (J' := J) (S' := S) am_e197 rfl rfl rfl (q_mkV ?_)
            show am_ww 201 35 [.ref 99, .int p1, .int p2, am_U, am_U] [] E I J S _
            exact h
        · replace h := h.1 (Decidable.not_not.mp (of_decide_eq_false c))
          refine w_st (i' := 30) (ls' := [.ref 99, .int p1, .int p2, am_U, am_U]) (st' := [.int p2]) (E' := E) (I' := I) (J' := J) (S' := S) am_e201 rfl rfl rfl rfl ?_
          refine w_st (i' := 31) (ls' := [.ref 99, .int p1, .int p2, am_U, am_U]) (st' := [.int (nI 16), .int p2]) (E' := E) (I' := I) (J' := J) (S' := S) am_e201 rfl rfl rfl rfl ?_
          refine w_if2 am_e201 rfl rfl (fun c => ?_) (fun c => ?_)
          · replace h := h.2 (of_decide_eq_true c)
            exact h
          · replace h := h.1 (Decidable.not_not.mp (of_decide_eq_false c))
            refine w_st (i' := 33) (ls' := [.ref 99, .int p1, .int p2, am_U, am_U]) (st' := [.ref 99]) (E' := E) (I' := I) (J' := J) (S' := S) am_e201 rfl rfl rfl rfl ?_
            refine w_st (i' := 34) (ls' := [.ref 99, .int p1, .int p2, am_U, am_U]) (st' := [.int (nI 1), .ref 99]) (E' := E) (I' := I) (J' := J) (S' := S) am_e201 rfl rfl rfl rfl ?_
            refine w_cV am_e201 rfl rfl (as := [.ref 99, .int (nI 1)]) (rest := []) rfl rfl ?_
            show am_ww 197 0 [.ref 99, .int (nI 1)] [] E I J S _
            refine w_st (i' := 1) (ls' := [.ref 99, .int (nI 1)]) (st' := [.ref 99]) (E' := E) (I' := I) (J' := J) (S' := S) am_e197 rfl rfl rfl rfl ?_
            refine w_st (i' := 2) (ls' := [.ref 99, .int (nI 1)]) (st' := [.int ((I 99) 22)]) (E' := E) (I' := I) (J' := J) (S' := S) am_e197 rfl rfl rfl rfl ?_
            refine w_if1 am_e197 rfl rfl (fun c => ?_) (fun c => ?_)
            · replace h := h.1 (of_decide_eq_true c)
              refine w_st (i' := 5) (ls' := [.ref 99, .int (nI 1)]) (st' := [.ref 99]) (E' := E) (I' := I) (J' := J) (S' := S) am_e197 rfl rfl rfl rfl ?_
              refine w_st (i' := 6) (ls' := [.ref 99, .int (nI 1)]) (st' := [.int (nI 1), .ref 99]) (E' := E) (I' := I) (J' := J) (S' := S) am_e197 rfl rfl rfl rfl ?_
              refine w_st (i' := 7) (ls' := [.ref 99, .int (nI 1)]) (st' := []) (E' := E) (I' := (u_I I 99 (upd (I 99) 22 (nI 1)))) (J' := J) (S' := S) am_e197 rfl rfl rfl rfl ?_
              refine w_st (i' := 8) (ls' := [.ref 99, .int (nI 1)]) (st' := [.ref 99]) (E' := E) (I' := (u_I I 99 (upd (I 99) 22 (nI 1)))) (J' := J) (S' := S) am_e197 rfl rfl rfl rfl ?_
              refine w_st (i' := 9) (ls' := [.ref 99, .int (nI 1)]) (st' := [.ref 99, .ref 99]) (E' := E) (I' := (u_I I 99 (upd (I 99) 22 (nI 1)))) (J' := J) (S' := S) am_e197 rfl rfl rfl rfl ?_
              refine w_st (i' := 10) (ls' := [.ref 99, .int (nI 1)]) (st' := [.int ((I 99) 20), .ref 99]) (E' := E) (I' := (u_I I 99 (upd (I 99) 22 (nI 1)))) (J' := J) (S' := S) am_e197 rfl rfl rfl rfl ?_
              refine w_st (i' := 11) (ls' := [.ref 99, .int (nI 1)]) (st' := []) (E' := E) (I' := (u_I (u_I I 99 (upd (I 99) 22 (nI 1))) 99 (upd (upd (I 99) 22 (nI 1)) 23 ((I 99) 20)))) (J' := J) (S' := S) am_e197 rfl rfl rfl rfl ?_
              refine w_eI (uI_0 ..) ?_
              show am_ww 197 11 [.ref 99, .int (nI 1)] [] E (u_I I 99 (upd (upd (I 99) 22 (nI 1)) 23 ((I 99) 20))) J S _
              refine w_end (E' := E) (I' := (u_I I 99 (upd (upd (I 99) 22 (nI 1)) 23 ((I 99) 20)))) (J' := J) (S' := S) am_e197 rfl rfl rfl (q_mkV ?_)
              show am_ww 201 35 [.ref 99, .int p1, .int p2, am_U, am_U] [] E (u_I I 99 (upd (upd (I 99) 22 (nI 1)) 23 ((I 99) 20))) J S _
              exact h
            · replace h := h.2 (of_decide_eq_false c)
              refine w_end (E' := E) (I' := I) (J' := J) (S' := S) am_e197 rfl rfl rfl (q_mkV ?_)
              show am_ww 201 35 [.ref 99, .int p1, .int p2, am_U, am_U] [] E I J S _
              exact h
    · replace h := h.1 (Decidable.not_not.mp (of_decide_eq_false c))
      refine w_st (i' := 8) (ls' := [.ref 99, .int p1, .int p2, am_U, am_U]) (st' := [.int p2]) (E' := E) (I' := I) (J' := J) (S' := S) am_e201 rfl rfl rfl rfl ?_
      refine w_st (i' := 9) (ls' := [.ref 99, .int p1, .int p2, am_U, am_U]) (st' := [.int (nI 16), .int p2]) (E' := E) (I' := I) (J' := J) (S' := S) am_e201 rfl rfl rfl rfl ?_
      refine w_if2 am_e201 rfl rfl (fun c => ?_) (fun c => ?_)
      · replace h := h.2 (of_decide_eq_true c)
        refine w_st (i' := 23) (ls' := [.ref 99, .int p1, .int p2, am_U, am_U]) (st' := [.ref 99]) (E' := E) (I' := I) (J' := J) (S' := S) am_e201 rfl rfl rfl rfl ?_
        refine w_st (i' := 24) (ls' := [.ref 99, .int p1, .int p2, am_U, am_U]) (st' := [.int ((I 99) 22)]) (E' := E) (I' := I) (J' := J) (S' := S) am_e201 rfl rfl rfl rfl ?_
        refine w_if1 am_e201 rfl rfl (fun c => ?_) (fun c => ?_)
        · replace h := h.2 (of_decide_eq_true c)
          exact h
        · replace h := h.1 (Decidable.not_not.mp (of_decide_eq_false c))
          refine w_st (i' := 26) (ls' := [.ref 99, .int p1, .int p2, am_U, am_U]) (st' := [.ref 99]) (E' := E) (I' := I) (J' := J) (S' := S) am_e201 rfl rfl rfl rfl ?_
          refine w_st (i' := 27) (ls' := [.ref 99, .int p1, .int p2, am_U, am_U]) (st' := [.int ((I 99) 18)]) (E' := E) (I' := I) (J' := J) (S' := S) am_e201 rfl rfl rfl rfl ?_
          refine w_st (i' := 28) (ls' := [.ref 99, .int p1, .int p2, am_U, am_U]) (st' := [.int (nI 1), .int ((I 99) 18)]) (E' := E) (I' := I) (J' := J) (S' := S) am_e201 rfl rfl rfl rfl ?_
          refine w_if2 am_e201 rfl rfl (fun c => ?_) (fun c => ?_)
          · replace h := h.2 (of_decide_eq_true c)
            refine w_st (i' := 33) (ls' := [.ref 99, .int p1, .int p2, am_U, am_U]) (st' := [.ref 99]) (E' := E) (I' := I) (J' := J) (S' := S) am_e201 rfl rfl rfl rfl ?_
            refine w_st (i' := 34) (ls' := [.ref 99, .int p1, .int p2, am_U, am_U]) (st' := [.int (nI 1), .ref 99]) (E' := E) (I' := I) (J' := J) (S' := S) am_e201 rfl rfl rfl rfl ?_
            refine w_cV am_e201 rfl rfl (as := [.ref 99, .int (nI 1)]) (rest := []) rfl rfl ?_
            show am_ww 197 0 [.ref 99, .int (nI 1)] [] E I J S _
            refine w_st (i' := 1) (ls' := [.ref 99, .int (nI 1)]) (st' := [.ref 99]) (E' := E) (I' := I) (J' := J) (S' := S) am_e197 rfl rfl rfl rfl ?_
            refine w_st (i' := 2) (ls' := [.ref 99, .int (nI 1)]) (st' := [.int ((I 99) 22)]) (E' := E) (I' := I) (J' := J) (S' := S) am_e197 rfl rfl rfl rfl ?_
            refine w_if1 am_e197 rfl rfl (fun c => ?_) (fun c => ?_)
            · replace h := h.1 (of_decide_eq_true c)
              refine w_st (i' := 5) (ls' := [.ref 99, .int (nI 1)]) (st' := [.ref 99]) (E' := E) (I' := I) (J' := J) (S' := S) am_e197 rfl rfl rfl rfl ?_
              refine w_st (i' := 6) (ls' := [.ref 99, .int (nI 1)]) (st' := [.int (nI 1), .ref 99]) (E' := E) (I' := I) (J' := J) (S' := S) am_e197 rfl rfl rfl rfl ?_
              refine w_st (i' := 7) (ls' := [.ref 99, .int (nI 1)]) (st' := []) (E' := E) (I' := (u_I I 99 (upd (I 99) 22 (nI 1)))) (J' := J) (S' := S) am_e197 rfl rfl rfl rfl ?_
              refine w_st (i' := 8) (ls' := [.ref 99, .int (nI 1)]) (st' := [.ref 99]) (E' := E) (I' := (u_I I 99 (upd (I 99) 22 (nI 1)))) (J' := J) (S' := S) am_e197 rfl rfl rfl rfl ?_
              refine w_st (i' := 9) (ls' := [.ref 99, .int (nI 1)]) (st' := [.ref 99, .ref 99]) (E' := E) (I' := (u_I I 99 (upd (I 99) 22 (nI 1)))) (J' := J) (S' := S) am_e197 rfl rfl rfl rfl ?_
              refine w_st (i' := 10) (ls' := [.ref 99, .int (nI 1)]) (st' := [.int ((I 99) 20), .ref 99]) (E' := E) (I' := (u_I I 99 (upd (I 99) 22 (nI 1)))) (J' := J) (S' := S) am_e197 rfl rfl rfl rfl ?_
              refine w_st (i' := 11) (ls' := [.ref 99, .int (nI 1)]) (st' := []) (E' := E) (I' := (u_I (u_I I 99 (upd (I 99) 22 (nI 1))) 99 (upd (upd (I 99) 22 (nI 1)) 23 ((I 99) 20)))) (J' := J) (S' := S) am_e197 rfl rfl rfl rfl ?_
              refine w_eI (uI_0 ..) ?_
              show am_ww 197 11 [.ref 99, .int (nI 1)] [] E (u_I I 99 (upd (upd (I 99) 22 (nI 1)) 23 ((I 99) 20))) J S _
              refine w_end (E' := E) (I' := (u_I I 99 (upd (upd (I 99) 22 (nI 1)) 23 ((I 99) 20)))) (J' := J) (S' := S) am_e197 rfl rfl rfl (q_mkV ?_)
              show am_ww 201 35 [.ref 99, .int p1, .int p2, am_U, am_U] [] E (u_I I 99 (upd (upd (I 99) 22 (nI 1)) 23 ((I 99) 20))) J S _
              exact h
            · replace h := h.2 (of_decide_eq_false c)
              refine w_end (E' := E) (I' := I) (J' := J) (S' := S) am_e197 rfl rfl rfl (q_mkV ?_)
              show am_ww 201 35 [.ref 99, .int p1, .int p2, am_U, am_U] [] E I J S _
              exact h
          · replace h := h.1 (Decidable.not_not.mp (of_decide_eq_false c))
            refine w_st (i' := 30) (ls' := [.ref 99, .int p1, .int p2, am_U, am_U]) (st' := [.int p2]) (E' := E) (I' := I) (J' := J) (S' := S) am_e201 rfl rfl rfl rfl ?_
            refine w_st (i' := 31) (ls' := [.ref 99, .int p1, .int p2, am_U, am_U]) (st' := [.int (nI 16), .int p2]) (E' := E) (I' := I) (J' := J) (S' := S) am_e201 rfl rfl rfl rfl ?_
            refine w_if2 am_e201 rfl rfl (fun c => ?_) (fun c => ?_)
            · replace h := h.2 (of_decide_eq_true c)
              exact h
            · replace h := h.1 (Decidable.not_not.mp (of_decide_eq_false c))
              refine w_st (i' := 33) (ls' := [.ref 99, .int p1, .int p2, am_U, am_U]) (st' := [.ref 99]) (E' := E) (I' := I) (J' := J) (S' := S) am_e201 rfl rfl rfl rfl ?_
              refine w_st (i' := 34) (ls' := [.ref 99, .int p1, .int p2, am_U, am_U]) (st' := [.int (nI 1), .ref 99]) (E' := E) (I' := I) (J' := J) (S' := S) am_e201 rfl rfl rfl rfl ?_
              refine w_cV am_e201 rfl rfl (as := [.ref 99, .int (nI 1)]) (rest := []) rfl rfl ?_
              show am_ww 197 0 [.ref 99, .int (nI 1)] [] E I J S _
              refine w_st (i' := 1) (ls' := [.ref 99, .int (nI 1)]) (st' := [.ref 99]) (E' := E) (I' := I) (J' := J) (S' := S) am_e197 rfl rfl rfl rfl ?_
              refine w_st (i' := 2) (ls' := [.ref 99, .int (nI 1)]) (st' := [.int ((I 99) 22)]) (E' := E) (I' := I) (J' := J) (S' := S) am_e197 rfl rfl rfl rfl ?_
              refine w_if1 am_e197 rfl rfl (fun c => ?_) (fun c => ?_)
              · replace h := h.1 (of_decide_eq_true c)
                refine w_st (i' := 5) (ls' := [.ref 99, .int (nI 1)]) (st' := [.ref 99]) (E' := E) (I' := I) (J' := J) (S' := S) am_e197 rfl rfl rfl rfl ?_
                refine w_st (i' := 6) (ls' := [.ref 99, .int (nI 1)]) (st' := [.int (nI 1), .ref 99]) (E' := E) (I' := I) (J' := J) (S' := S) am_e197 rfl rfl rfl rfl ?_
                refine w_st (i' := 7) (ls' := [.ref 99, .int (nI 1)]) (st' := []) (E' := E) (I' := (u_I I 99 (upd (I 99) 22 (nI 1)))) (J' := J) (S' := S) am_e197 rfl rfl rfl rfl ?_
                refine w_st (i' := 8) (ls' := [.ref 99, .int (nI 1)]) (st' := [.ref 99]) (E' := E) (I' := (u_I I 99 (upd (I 99) 22 (nI 1)))) (J' := J) (S' := S) am_e197 rfl rfl rfl rfl ?_
                refine w_st (i' := 9) (ls' := [.ref 99, .int (nI 1)]) (st' := [.ref 99, .ref 99]) (E' := E) (I' := (u_I I 99 (upd (I 99) 22 (nI 1)))) (J' := J) (S' := S) am_e197 rfl rfl rfl rfl ?_
                refine w_st (i' := 10) (ls' := [.ref 99, .int (nI 1)]) (st' := [.int ((I 99) 20), .ref 99]) (E' := E) (I' := (u_I I 99 (upd (I 99) 22 (nI 1)))) (J' := J) (S' := S) am_e197 rfl rfl rfl rfl ?_
                refine w_st (i' := 11) (ls' := [.ref 99, .int (nI 1)]) (st' := []) (E' := E) (I' := (u_I (u_I I 99 (upd (I 99) 22 (nI 1))) 99 (upd (upd (I 99) 22 (nI 1)) 23 ((I 99) 20)))) (J' := J) (S' := S) am_e197 rfl rfl rfl rfl ?_
                refine w_eI (uI_0 ..) ?_
                show am_ww 197 11 [.ref 99, .int (nI 1)] [] E (u_I I 99 (upd (upd (I 99) 22 (nI 1)) 23 ((I 99) 20))) J S _
                refine w_end (E' := E) (I' := (u_I I 99 (upd (upd (I 99) 22 (nI 1)) 23 ((I 99) 20)))) (J' := J) (S' := S) am_e197 rfl rfl rfl (q_mkV ?_)
                show am_ww 201 35 [.ref 99, .int p1, .int p2, am_U, am_U] [] E (u_I I 99 (upd (upd (I 99) 22 (nI 1)) 23 ((I 99) 20))) J S _
                exact h
              · replace h := h.2 (of_decide_eq_false c)
                refine w_end (E' := E) (I' := I) (J' := J) (S' := S) am_e197 rfl rfl rfl (q_mkV ?_)
                show am_ww 201 35 [.ref 99, .int p1, .int p2, am_U, am_U] [] E I J S _
                exact h
      · replace h := h.1 (Decidable.not_not.mp (of_decide_eq_false c))
        refine w_st (i' := 11) (ls' := [.ref 99, .int p1, .int p2, am_U, am_U]) (st' := [.ref 99]) (E' := E) (I' := I) (J' := J) (S' := S) am_e201 rfl rfl rfl rfl ?_
        refine w_cI am_e201 rfl rfl (as := [.ref 99]) (rest := []) rfl rfl (am_ww.mono h ?_)
        rintro _ E1 I1 J1 S1 ⟨v1, rfl, h⟩
        refine q_mkI ?_
        refine w_if1 am_e201 rfl rfl (fun c => ?_) (fun c => ?_)
        · replace h := h.1 (of_decide_eq_true c)
          exact h
        · replace h := h.2 (of_decide_eq_false c)
          refine w_st (i' := 14) (ls' := [.ref 99, .int p1, .int p2, am_U, am_U]) (st' := [.ref 99]) (E' := E1) (I' := I1) (J' := J1) (S' := S1) am_e201 rfl rfl rfl rfl ?_
          refine w_st (i' := 15) (ls' := [.ref 99, .int p1, .int p2, am_U, am_U]) (st' := [.ref 99, .ref 99]) (E' := E1) (I' := I1) (J' := J1) (S' := S1) am_e201 rfl rfl rfl rfl ?_
          refine w_st (i' := 16) (ls' := [.ref 99, .int p1, .int p2, am_U, am_U]) (st' := [.ref 102, .ref 99]) (E' := E1) (I' := I1) (J' := J1) (S' := S1) am_e201 rfl rfl rfl rfl ?_
          refine w_cI am_e201 rfl rfl (as := [.ref 99, .ref 102]) (rest := []) rfl rfl (am_ww.mono h ?_)
          rintro _ E2 I2 J2 S2 ⟨v2, rfl, h⟩
          refine q_mkI ?_
          refine w_st (i' := 18) (ls' := [.ref 99, .int p1, .int p2, am_U, am_U]) (st' := [.int (-1), .int v2]) (E' := E2) (I' := I2) (J' := J2) (S' := S2) am_e201 rfl rfl rfl rfl ?_
          refine w_if2 am_e201 rfl rfl (fun c => ?_) (fun c => ?_)
          · replace h := h.1 (of_decide_eq_true c)
            refine w_st (i' := 23) (ls' := [.ref 99, .int p1, .int p2, am_U, am_U]) (st' := [.ref 99]) (E' := E2) (I' := I2) (J' := J2) (S' := S2) am_e201 rfl rfl rfl rfl ?_
            refine w_st (i' := 24) (ls' := [.ref 99, .int p1, .int p2, am_U, am_U]) (st' := [.int ((I2 99) 22)]) (E' := E2) (I' := I2) (J' := J2) (S' := S2) am_e201 rfl rfl rfl rfl ?_
            refine w_if1 am_e201 rfl rfl (fun c => ?_) (fun c => ?_)
            · replace h := h.2 (of_decide_eq_true c)
              exact h
            · replace h := h.1 (Decidable.not_not.mp (of_decide_eq_false c))
              refine w_st (i' := 26) (ls' := [.ref 99, .int p1, .int p2, am_U, am_U]) (st' := [.ref 99]) (E' := E2) (I' := I2) (J' := J2) (S' := S2) am_e201 rfl rfl rfl rfl ?_
              refine w_st (i' := 27) (ls' := [.ref 99, .int p1, .int p2, am_U, am_U]) (st' := [.int ((I2 99) 18)]) (E' := E2) (I' := I2) (J' := J2) (S' := S2) am_e201 rfl rfl rfl rfl ?_
              refine w_st (i' := 28) (ls' := [.ref 99, .int p1, .int p2, am_U, am_U]) (st' := [.int (nI 1), .int ((I2 99) 18)]) (E' := E2) (I' := I2) (J' := J2) (S' := S2) am_e201 rfl rfl rfl rfl ?_
              refine w_if2 am_e201 rfl rfl (fun c => ?_) (fun c => ?_)
              · replace h := h.2 (of_decide_eq_true c)
                refine w_st (i' := 33) (ls' := [.ref 99, .int p1, .int p2, am_U, am_U]) (st' := [.ref 99]) (E' := E2) (I' := I2) (J' := J2) (S' := S2) am_e201 rfl rfl rfl rfl ?_
                refine w_st (i' := 34) (ls' := [.ref 99, .int p1, .int p2, am_U, am_U]) (st' := [.int (nI 1), .ref 99]) (E' := E2) (I' := I2) (J' := J2) (S' := S2) am_e201 rfl rfl rfl rfl ?_
                refine w_cV am_e201 rfl rfl (as := [.ref 99, .int (nI 1)]) (rest := []) rfl rfl ?_
                show am_ww 197 0 [.ref 99, .int (nI 1)] [] E2 I2 J2 S2 _
                refine w_st (i' := 1) (ls' := [.ref 99, .int (nI 1)]) (st' := [.ref 99]) (E' := E2) (I' := I2) (J' := J2) (S' := S2) am_e197 rfl rfl rfl rfl ?_
                refine w_st (i' := 2) (ls' := [.ref 99, .int (nI 1)]) (st' := [.int ((I2 99) 22)]) (E' := E2) (I' := I2) (J' := J2) (S' := S2) am_e197 rfl rfl rfl rfl ?_
                refine w_if1 am_e197 rfl rfl (fun c => ?_) (fun c => ?_)
                · replace h := h.1 (of_decide_eq_true c)
                  refine w_st (i' := 5) (ls' := [.ref 99, .int (nI 1)]) (st' := [.ref 99]) (E' := E2) (I' := I2) (J' := J2) (S' := S2) am_e197 rfl rfl rfl rfl ?_
                  refine w_st (i' := 6) (ls' := [.ref 99, .int (nI 1)]) (st' := [.int (nI 1), .ref 99]) (E' := E2) (I' := I2) (J' := J2) (S' := S2) am_e197 rfl rfl rfl rfl ?_
                  refine w_st (i' := 7) (ls' := [.ref 99, .int (nI 1)]) (st' := []) (E' := E2) (I' := (u_I I2 99 (upd (I2 99) 22 (nI 1)))) (J' := J2) (S' := S2) am_e197 rfl rfl rfl rfl ?_
                  refine w_st (i' := 8) (ls' := [.ref 99, .int (nI 1)]) (st' := [.ref 99]) (E' := E2) (I' := (u_I I2 99 (upd (I2 99) 22 (nI 1)))) (J' := J2) (S' := S2) am_e197 rfl rfl rfl rfl ?_
                  refine w_st (i' := 9) (ls' := [.ref 99, .int (nI 1)]) (st' := [.ref 99, .ref 99]) (E' := E2) (I' := (u_I I2 99 (upd (I2 99) 22 (nI 1)))) (J' := J2) (S' := S2) am_e197 rfl rfl rfl rfl ?_
                  refine w_st (i' := 10) (ls' := [.ref 99, .int (nI 1)]) (st' := [.int ((I2 99) 20), .ref 99]) (E' := E2) (I' := (u_I I2 99 (upd (I2 99) 22 (nI 1)))) (J' := J2) (S' := S2) am_e197 rfl rfl rfl rfl ?_
                  refine w_st (i' := 11) (ls' := [.ref 99, .int (nI 1)]) (st' := []) (E' := E2) (I' := (u_I (u_I I2 99 (upd (I2 99) 22 (nI 1))) 99 (upd (upd (I2 99) 22 (nI 1)) 23 ((I2 99) 20)))) (J' := J2) (S' := S2) am_e197 rfl rfl rfl rfl ?_
                  refine w_eI (uI_0 ..) ?_
                  show am_ww 197 11 [.ref 99, .int (nI 1)] [] E2 (u_I I2 99 (upd (upd (I2 99) 22 (nI 1)) 23 ((I2 99) 20))) J2 S2 _
                  refine w_end (E' := E2) (I' := (u_I I2 99 (upd (upd (I2 99) 22 (nI 1)) 23 ((I2 99) 20)))) (J' := J2) (S' := S2) am_e197 rfl rfl rfl (q_mkV ?_)
                  show am_ww 201 35 [.ref 99, .int p1, .int p2, am_U, am_U] [] E2 (u_I I2 99 (upd (upd (I2 99) 22 (nI 1)) 23 ((I2 99) 20))) J2 S2 _
                  exact h
                · replace h := h.2 (of_decide_eq_false c)
                  refine w_end (E' := E2) (I' := I2) (J' := J2) (S' := S2) am_e197 rfl rfl rfl (q_mkV ?_)
                  show am_ww 201 35 [.ref 99, .int p1, .int p2, am_U, am_U] [] E2 I2 J2 S2 _
                  exact h
              · replace h := h.1 (Decidable.not_not.mp (of_decide_eq_false c))
                refine w_st (i' := 30) (ls' := [.ref 99, .int p1, .int p2, am_U, am_U]) (st' := [.int p2]) (E' := E2) (I' := I2) (J' := J2) (S' := S2) am_e201 rfl rfl rfl rfl ?_
                refine w_st (i' := 31) (ls' := [.ref 99, .int p1, .int p2, am_U, am_U]) (st' := [.int (nI 16), .int p2]) (E' := E2) (I' := I2) (J' := J2) (S' := S2) am_e201 rfl rfl rfl rfl ?_
                refine w_if2 am_e201 rfl rfl (fun c => ?_) (fun c => ?_)
                · replace h := h.2 (of_decide_eq_true c)
                  exact h
                · replace h := h.1 (Decidable.not_not.mp (of_decide_eq_false c))
                  refine w_st (i' := 33) (ls' := [.ref 99, .int p1, .int p2, am_U, am_U]) (st' := [.ref 99]) (E' := E2) (I' := I2) (J' := J2) (S' := S2) am_e201 rfl rfl rfl rfl ?_
                  refine w_st (i' := 34) (ls' := [.ref 99, .int p1, .int p2, am_U, am_U]) (st' := [.int (nI 1), .ref 99]) (E' := E2) (I' := I2) (J' := J2) (S' := S2) am_e201 rfl rfl rfl rfl ?_
                  refine w_cV am_e201 rfl rfl (as := [.ref 99, .int (nI 1)]) (rest := []) rfl rfl ?_
                  show am_ww 197 0 [.ref 99, .int (nI 1)] [] E2 I2 J2 S2 _
                  refine w_st (i' := 1) (ls' := [.ref 99, .int (nI 1)]) (st' := [.ref 99]) (E' := E2) (I' := I2) (J' := J2) (S' := S2) am_e197 rfl rfl rfl rfl ?_
                  refine w_st (i' := 2) (ls' := [.ref 99, .int (nI 1)]) (st' := [.int ((I2 99) 22)]) (E' := E2) (I' := I2) (J' := J2) (S' := S2) am_e197 rfl rfl rfl rfl ?_
                  refine w_if1 am_e197 rfl rfl (fun c => ?_) (fun c => ?_)
                  · replace h := h.1 (of_decide_eq_true c)
                    refine w_st (i' := 5) (ls' := [.ref 99, .int (nI 1)]) (st' := [.ref 99]) (E' := E2) (I' := I2) (J' := J2) (S' := S2) am_e197 rfl rfl rfl rfl ?_
                    refine w_st (i' := 6) (ls' := [.ref 99, .int (nI 1)]) (st' := [.int (nI 1), .ref 99]) (E' := E2) (I' := I2) (J' := J2) (S' := S2) am_e197 rfl rfl rfl rfl ?_
                    refine w_st (i' := 7) (ls' := [.ref 99, .int (nI 1)]) (st' := []) (E' := E2) (I' := (u_I I2 99 (upd (I2 99) 22 (nI 1)))) (J' := J2) (S' := S2) am_e197 rfl rfl rfl rfl ?_
                    refine w_st (i' := 8) (ls' := [.ref 99, .int (nI 1)]) (st' := [.ref 99]) (E' := E2) (I' := (u_I I2 99 (upd (I2 99) 22 (nI 1)))) (J' := J2) (S' := S2) am_e197 rfl rfl rfl rfl ?_
                    refine w_st (i' := 9) (ls' := [.ref 99, .int (nI 1)]) (st' := [.ref 99, .ref 99]) (E' := E2) (I' := (u_I I2 99 (upd (I2 99) 22 (nI 1)))) (J' := J2) (S' := S2) am_e197 rfl rfl rfl rfl ?_
                    refine w_st (i' := 10) (ls' := [.ref 99, .int (nI 1)]) (st' := [.int ((I2 99) 20), .ref 99]) (E' := E2) (I' := (u_I I2 99 (upd (I2 99) 22 (nI 1)))) (J' := J2) (S' := S2) am_e197 rfl rfl rfl rfl ?_
                    refine w_st (i' := 11) (ls' := [.ref 99, .int (nI 1)]) (st' := []) (E' := E2) (I' := (u_I (u_I I2 99 (upd (I2 99) 22 (nI 1))) 99 (upd (upd (I2 99) 22 (nI 1)) 23 ((I2 99) 20)))) (J' := J2) (S' := S2) am_e197 rfl rfl rfl rfl ?_
                    refine w_eI (uI_0 ..) ?_
                    show am_ww 197 11 [.ref 99, .int (nI 1)] [] E2 (u_I I2 99 (upd (upd (I2 99) 22 (nI 1)) 23 ((I2 99) 20))) J2 S2 _
                    refine w_end (E' := E2) (I' := (u_I I2 99 (upd (upd (I2 99) 22 (nI 1)) 23 ((I2 99) 20)))) (J' := J2) (S' := S2) am_e197 rfl rfl rfl (q_mkV ?_)
                    show am_ww 201 35 [.ref 99, .int p1, .int p2, am_U, am_U] [] E2 (u_I I2 99 (upd (upd (I2 99) 22 (nI 1)) 23 ((I2 99) 20))) J2 S2 _
                    exact h
                  · replace h := h.2 (of_decide_eq_false c)
                    refine w_end (E' := E2) (I' := I2) (J' := J2) (S' := S2) am_e197 rfl rfl rfl (q_mkV ?_)
                    show am_ww 201 35 [.ref 99, .int p1, .int p2, am_U, am_U] [] E2 I2 J2 S2 _
                    exact h
          · replace h := h.2 (of_decide_eq_false c)
            exact h
theorem g201_35 {x1 : Int32} {x2 : Int32} {d3 : Value} {d4 : Value} {E : am_Ev} {I : Nat → Nat → Int32} {J : Nat → Nat → Int64} {S : Nat → Nat → Option Nat} {Q : am_Qt} (hd3 : am_isL d3 = false) (hd4 : am_isL d4 = false) (h : (((I 99) 22) = 0 → (vp_in x2 16 ∧ (am_cl 195 [.ref 99, .ref 102] E (u_I (u_I I 113 (upd (I 113) x2.toNatClampNeg (nI 0))) 115 (upd (I 115) x2.toNatClampNeg (nI 0))) J S (q_I fun v2 E2 I2 J2 S2 => (v2 = (-1) → (am_cl 203 [.ref 99, .int x2] E2 I2 J2 S2 (q_V fun E4 I4 J4 S4 => am_cl 195 [.ref 99, .ref 102] E4 I4 J4 S4 (q_I fun v5 E5 I5 J5 S5 => (((I5 99) 22) = 0 → ((v5 = (-1) → ((((I5 99) 22) = 0 → (am_ww 201 72 [.ref 99, .int x1, .int x2, .int v5, d4] [] E5 (u_I I5 99 (upd (upd (I5 99) 22 (nI 1)) 23 ((I5 99) 20))) J5 S5 Q)) ∧ (¬ ((I5 99) 22) = 0 → (am_ww 201 72 [.ref 99, .int x1, .int x2, .int v5, d4] [] E5 I5 J5 S5 Q)))) ∧ (¬ v5 = (-1) → (am_ww 201 72 [.ref 99, .int x1, .int x2, .int v5, d4] [] E5 I5 J5 S5 Q)))) ∧ (¬ ((I5 99) 22) = 0 → (am_ww 201 72 [.ref 99, .int x1, .int x2, .int v5, d4] [] E5 I5 J5 S5 Q)))))) ∧ (¬ v2 = (-1) → (am_cl 195 [.ref 99, .ref 102] E2 I2 J2 S2 (q_I fun v3 E3 I3 J3 S3 => (((I3 99) 22) = 0 → ((v3 = (-1) → ((((I3 99) 22) = 0 → (am_ww 201 72 [.ref 99, .int x1, .int x2, .int v3, d4] [] E3 (u_I I3 99 (upd (upd (I3 99) 22 (nI 1)) 23 ((I3 99) 20))) J3 S3 Q)) ∧ (¬ ((I3 99) 22) = 0 → (am_ww 201 72 [.ref 99, .int x1, .int x2, .int v3, d4] [] E3 I3 J3 S3 Q)))) ∧ (¬ v3 = (-1) → (am_ww 201 72 [.ref 99, .int x1, .int x2, .int v3, d4] [] E3 I3 J3 S3 Q)))) ∧ (¬ ((I3 99) 22) = 0 → (am_ww 201 72 [.ref 99, .int x1, .int x2, .int v3, d4] [] E3 I3 J3 S3 Q))))))))) ∧ (¬ ((I 99) 22) = 0 → (Q (.inl none) E I J S))) : am_ww 201 35 [.ref 99, .int x1, .int x2, d3, d4] [] E I J S Q := by
  refine w_st (i' := 36) (ls' := [.ref 99, .int x1, .int x2, d3, d4]) (st' := [.ref 99]) (E' := E) (I' := I) (J' := J) (S' := S) am_e201 rfl rfl rfl rfl ?_
  refine w_st (i' := 37) (ls' := [.ref 99, .int x1, .int x2, d3, d4]) (st' := [.int ((I 99) 22)]) (E' := E) (I' := I) (J' := J) (S' := S) am_e201 rfl rfl rfl rfl ?_
  refine w_if1 am_e201 rfl rfl (fun c => ?_) (fun c => ?_)
  · replace h := h.1 (of_decide_eq_true c)
    refine w_st (i' := 40) (ls' := [.ref 99, .int x1, .int x2, d3, d4]) (st' := [.ref 99]) (E' := E) (I' := I) (J' := J) (S' := S) am_e201 rfl rfl rfl rfl ?_
    refine w_st (i' := 41) (ls' := [.ref 99, .int x1, .int x2, d3, d4]) (st' := [.ref 113]) (E' := E) (I' := I) (J' := J) (S' := S) am_e201 rfl rfl rfl rfl ?_
    refine w_st (i' := 42) (ls' := [.ref 99, .int x1, .int x2, d3, d4]) (st' := [.int x2, .ref 113]) (E' := E) (I' := I) (J' := J) (S' := S) am_e201 rfl rfl rfl rfl ?_
    refine w_st (i' := 43) (ls' := [.ref 99, .int x1, .int x2, d3, d4]) (st' := [.int (nI 0), .int x2, .ref 113]) (E' := E) (I' := I) (J' := J) (S' := S) am_e201 rfl rfl rfl rfl ?_
    have hf1 := h.1
    replace h := h.2
    refine w_is (k := 113) (n := 16) (jn := x2.toNatClampNeg) am_e201 rfl rfl (by decide) hf1 rfl ?_
    show am_ww 201 44 [.ref 99, .int x1, .int x2, d3, d4] [] E (u_I I 113 (upd (I 113) x2.toNatClampNeg (nI 0))) J S _
    refine w_st (i' := 45) (ls' := [.ref 99, .int x1, .int x2, d3, d4]) (st' := [.ref 99]) (E' := E) (I' := (u_I I 113 (upd (I 113) x2.toNatClampNeg (nI 0)))) (J' := J) (S' := S) am_e201 rfl rfl rfl rfl ?_
    refine w_st (i' := 46) (ls' := [.ref 99, .int x1, .int x2, d3, d4]) (st' := [.ref 115]) (E' := E) (I' := (u_I I 113 (upd (I 113) x2.toNatClampNeg (nI 0)))) (J' := J) (S' := S) am_e201 rfl rfl rfl rfl ?_
    refine w_st (i' := 47) (ls' := [.ref 99, .int x1, .int x2, d3, d4]) (st' := [.int x2, .ref 115]) (E' := E) (I' := (u_I I 113 (upd (I 113) x2.toNatClampNeg (nI 0)))) (J' := J) (S' := S) am_e201 rfl rfl rfl rfl ?_
    refine w_st (i' := 48) (ls' := [.ref 99, .int x1, .int x2, d3, d4]) (st' := [.int (nI 0), .int x2, .ref 115]) (E' := E) (I' := (u_I I 113 (upd (I 113) x2.toNatClampNeg (nI 0)))) (J' := J) (S' := S) am_e201 rfl rfl rfl rfl ?_
    refine w_is (k := 115) (n := 16) (jn := x2.toNatClampNeg) am_e201 rfl rfl (by decide) hf1 rfl ?_
    show am_ww 201 49 [.ref 99, .int x1, .int x2, d3, d4] [] E (u_I (u_I I 113 (upd (I 113) x2.toNatClampNeg (nI 0))) 115 (upd (I 115) x2.toNatClampNeg (nI 0))) J S _
    refine w_st (i' := 50) (ls' := [.ref 99, .int x1, .int x2, d3, d4]) (st' := [.ref 99]) (E' := E) (I' := (u_I (u_I I 113 (upd (I 113) x2.toNatClampNeg (nI 0))) 115 (upd (I 115) x2.toNatClampNeg (nI 0)))) (J' := J) (S' := S) am_e201 rfl rfl rfl rfl ?_
    refine w_st (i' := 51) (ls' := [.ref 99, .int x1, .int x2, d3, d4]) (st' := [.ref 99, .ref 99]) (E' := E) (I' := (u_I (u_I I 113 (upd (I 113) x2.toNatClampNeg (nI 0))) 115 (upd (I 115) x2.toNatClampNeg (nI 0)))) (J' := J) (S' := S) am_e201 rfl rfl rfl rfl ?_
    refine w_st (i' := 52) (ls' := [.ref 99, .int x1, .int x2, d3, d4]) (st' := [.ref 102, .ref 99]) (E' := E) (I' := (u_I (u_I I 113 (upd (I 113) x2.toNatClampNeg (nI 0))) 115 (upd (I 115) x2.toNatClampNeg (nI 0)))) (J' := J) (S' := S) am_e201 rfl rfl rfl rfl ?_
    refine w_cI am_e201 rfl rfl (as := [.ref 99, .ref 102]) (rest := []) rfl rfl (am_ww.mono h ?_)
    rintro _ E2 I2 J2 S2 ⟨v2, rfl, h⟩
    refine q_mkI ?_
    refine w_st (i' := 54) (ls' := [.ref 99, .int x1, .int x2, d3, d4]) (st' := [.int (-1), .int v2]) (E' := E2) (I' := I2) (J' := J2) (S' := S2) am_e201 rfl rfl rfl rfl ?_
    refine w_if2 am_e201 rfl rfl (fun c => ?_) (fun c => ?_)
    · replace h := h.2 (of_decide_eq_true c)
      refine w_st (i' := 59) (ls' := [.ref 99, .int x1, .int x2, d3, d4]) (st' := [.ref 99]) (E' := E2) (I' := I2) (J' := J2) (S' := S2) am_e201 rfl rfl rfl rfl ?_
      refine w_st (i' := 60) (ls' := [.ref 99, .int x1, .int x2, d3, d4]) (st' := [.ref 99, .ref 99]) (E' := E2) (I' := I2) (J' := J2) (S' := S2) am_e201 rfl rfl rfl rfl ?_
      refine w_st (i' := 61) (ls' := [.ref 99, .int x1, .int x2, d3, d4]) (st' := [.ref 102, .ref 99]) (E' := E2) (I' := I2) (J' := J2) (S' := S2) am_e201 rfl rfl rfl rfl ?_
      refine w_cI am_e201 rfl rfl (as := [.ref 99, .ref 102]) (rest := []) rfl rfl (am_ww.mono h ?_)
      rintro _ E3 I3 J3 S3 ⟨v3, rfl, h⟩
      refine q_mkI ?_
      refine w_st (i' := 63) (ls' := [.ref 99, .int x1, .int x2, .int v3, d4]) (st' := []) (E' := E3) (I' := I3) (J' := J3) (S' := S3) am_e201 rfl rfl rfl rfl ?_
      refine w_st (i' := 64) (ls' := [.ref 99, .int x1, .int x2, .int v3, d4]) (st' := [.ref 99]) (E' := E3) (I' := I3) (J' := J3) (S' := S3) am_e201 rfl rfl rfl rfl ?_
      refine w_st (i' := 65) (ls' := [.ref 99, .int x1, .int x2, .int v3, d4]) (st' := [.int ((I3 99) 22)]) (E' := E3) (I' := I3) (J' := J3) (S' := S3) am_e201 rfl rfl rfl rfl ?_
      refine w_if1 am_e201 rfl rfl (fun c => ?_) (fun c => ?_)
      · replace h := h.2 (of_decide_eq_true c)
        exact h
      · replace h := h.1 (Decidable.not_not.mp (of_decide_eq_false c))
        refine w_st (i' := 67) (ls' := [.ref 99, .int x1, .int x2, .int v3, d4]) (st' := [.int v3]) (E' := E3) (I' := I3) (J' := J3) (S' := S3) am_e201 rfl rfl rfl rfl ?_
        refine w_st (i' := 68) (ls' := [.ref 99, .int x1, .int x2, .int v3, d4]) (st' := [.int (-1), .int v3]) (E' := E3) (I' := I3) (J' := J3) (S' := S3) am_e201 rfl rfl rfl rfl ?_
        refine w_if2 am_e201 rfl rfl (fun c => ?_) (fun c => ?_)
        · replace h := h.2 (of_decide_eq_true c)
          exact h
        · replace h := h.1 (Decidable.not_not.mp (of_decide_eq_false c))
          refine w_st (i' := 70) (ls' := [.ref 99, .int x1, .int x2, .int v3, d4]) (st' := [.ref 99]) (E' := E3) (I' := I3) (J' := J3) (S' := S3) am_e201 rfl rfl rfl rfl ?_
          refine w_st (i' := 71) (ls' := [.ref 99, .int x1, .int x2, .int v3, d4]) (st' := [.int (nI 1), .ref 99]) (E' := E3) (I' := I3) (J' := J3) (S' := S3) am_e201 rfl rfl rfl rfl ?_
          refine w_cV am_e201 rfl rfl (as := [.ref 99, .int (nI 1)]) (rest := []) rfl rfl ?_
          show am_ww 197 0 [.ref 99, .int (nI 1)] [] E3 I3 J3 S3 _
          refine w_st (i' := 1) (ls' := [.ref 99, .int (nI 1)]) (st' := [.ref 99]) (E' := E3) (I' := I3) (J' := J3) (S' := S3) am_e197 rfl rfl rfl rfl ?_
          refine w_st (i' := 2) (ls' := [.ref 99, .int (nI 1)]) (st' := [.int ((I3 99) 22)]) (E' := E3) (I' := I3) (J' := J3) (S' := S3) am_e197 rfl rfl rfl rfl ?_
          refine w_if1 am_e197 rfl rfl (fun c => ?_) (fun c => ?_)
          · replace h := h.1 (of_decide_eq_true c)
            refine w_st (i' := 5) (ls' := [.ref 99, .int (nI 1)]) (st' := [.ref 99]) (E' := E3) (I' := I3) (J' := J3) (S' := S3) am_e197 rfl rfl rfl rfl ?_
            refine w_st (i' := 6) (ls' := [.ref 99, .int (nI 1)]) (st' := [.int (nI 1), .ref 99]) (E' := E3) (I' := I3) (J' := J3) (S' := S3) am_e197 rfl rfl rfl rfl ?_
            refine w_st (i' := 7) (ls' := [.ref 99, .int (nI 1)]) (st' := []) (E' := E3) (I' := (u_I I3 99 (upd (I3 99) 22 (nI 1)))) (J' := J3) (S' := S3) am_e197 rfl rfl rfl rfl ?_
            refine w_st (i' := 8) (ls' := [.ref 99, .int (nI 1)]) (st' := [.ref 99]) (E' := E3) (I' := (u_I I3 99 (upd (I3 99) 22 (nI 1)))) (J' := J3) (S' := S3) am_e197 rfl rfl rfl rfl ?_
            refine w_st (i' := 9) (ls' := [.ref 99, .int (nI 1)]) (st' := [.ref 99, .ref 99]) (E' := E3) (I' := (u_I I3 99 (upd (I3 99) 22 (nI 1)))) (J' := J3) (S' := S3) am_e197 rfl rfl rfl rfl ?_
            refine w_st (i' := 10) (ls' := [.ref 99, .int (nI 1)]) (st' := [.int ((I3 99) 20), .ref 99]) (E' := E3) (I' := (u_I I3 99 (upd (I3 99) 22 (nI 1)))) (J' := J3) (S' := S3) am_e197 rfl rfl rfl rfl ?_
            refine w_st (i' := 11) (ls' := [.ref 99, .int (nI 1)]) (st' := []) (E' := E3) (I' := (u_I (u_I I3 99 (upd (I3 99) 22 (nI 1))) 99 (upd (upd (I3 99) 22 (nI 1)) 23 ((I3 99) 20)))) (J' := J3) (S' := S3) am_e197 rfl rfl rfl rfl ?_
            refine w_eI (uI_0 ..) ?_
            show am_ww 197 11 [.ref 99, .int (nI 1)] [] E3 (u_I I3 99 (upd (upd (I3 99) 22 (nI 1)) 23 ((I3 99) 20))) J3 S3 _
            refine w_end (E' := E3) (I' := (u_I I3 99 (upd (upd (I3 99) 22 (nI 1)) 23 ((I3 99) 20)))) (J' := J3) (S' := S3) am_e197 rfl rfl rfl (q_mkV ?_)
            show am_ww 201 72 [.ref 99, .int x1, .int x2, .int v3, d4] [] E3 (u_I I3 99 (upd (upd (I3 99) 22 (nI 1)) 23 ((I3 99) 20))) J3 S3 _
            exact h
          · replace h := h.2 (of_decide_eq_false c)
            refine w_end (E' := E3) (I' := I3) (J' := J3) (S' := S3) am_e197 rfl rfl rfl (q_mkV ?_)
            show am_ww 201 72 [.ref 99, .int x1, .int x2, .int v3, d4] [] E3 I3 J3 S3 _
            exact h
    · replace h := h.1 (Decidable.not_not.mp (of_decide_eq_false c))
      refine w_st (i' := 56) (ls' := [.ref 99, .int x1, .int x2, d3, d4]) (st' := [.ref 99]) (E' := E2) (I' := I2) (J' := J2) (S' := S2) am_e201 rfl rfl rfl rfl ?_
      refine w_st (i' := 57) (ls' := [.ref 99, .int x1, .int x2, d3, d4]) (st' := [.int x2, .ref 99]) (E' := E2) (I' := I2) (J' := J2) (S' := S2) am_e201 rfl rfl rfl rfl ?_
      refine w_cV am_e201 rfl rfl (as := [.ref 99, .int x2]) (rest := []) rfl rfl (am_ww.mono h ?_)
      rintro _ E4 I4 J4 S4 ⟨rfl, h⟩
      refine q_mkV ?_
      refine w_st (i' := 59) (ls' := [.ref 99, .int x1, .int x2, d3, d4]) (st' := [.ref 99]) (E' := E4) (I' := I4) (J' := J4) (S' := S4) am_e201 rfl rfl rfl rfl ?_
      refine w_st (i' := 60) (ls' := [.ref 99, .int x1, .int x2, d3, d4]) (st' := [.ref 99, .ref 99]) (E' := E4) (I' := I4) (J' := J4) (S' := S4) am_e201 rfl rfl rfl rfl ?_
      refine w_st (i' := 61) (ls' := [.ref 99, .int x1, .int x2, d3, d4]) (st' := [.ref 102, .ref 99]) (E' := E4) (I' := I4) (J' := J4) (S' := S4) am_e201 rfl rfl rfl rfl ?_
      refine w_cI am_e201 rfl rfl (as := [.ref 99, .ref 102]) (rest := []) rfl rfl (am_ww.mono h ?_)
      rintro _ E5 I5 J5 S5 ⟨v5, rfl, h⟩
      refine q_mkI ?_
      refine w_st (i' := 63) (ls' := [.ref 99, .int x1, .int x2, .int v5, d4]) (st' := []) (E' := E5) (I' := I5) (J' := J5) (S' := S5) am_e201 rfl rfl rfl rfl ?_
      refine w_st (i' := 64) (ls' := [.ref 99, .int x1, .int x2, .int v5, d4]) (st' := [.ref 99]) (E' := E5) (I' := I5) (J' := J5) (S' := S5) am_e201 rfl rfl rfl rfl ?_
      refine w_st (i' := 65) (ls' := [.ref 99, .int x1, .int x2, .int v5, d4]) (st' := [.int ((I5 99) 22)]) (E' := E5) (I' := I5) (J' := J5) (S' := S5) am_e201 rfl rfl rfl rfl ?_
      refine w_if1 am_e201 rfl rfl (fun c => ?_) (fun c => ?_)
      · replace h := h.2 (of_decide_eq_true c)
        exact h
      · replace h := h.1 (Decidable.not_not.mp (of_decide_eq_false c))
        refine w_st (i' := 67) (ls' := [.ref 99, .int x1, .int x2, .int v5, d4]) (st' := [.int v5]) (E' := E5) (I' := I5) (J' := J5) (S' := S5) am_e201 rfl rfl rfl rfl ?_
        refine w_st (i' := 68) (ls' := [.ref 99, .int x1, .int x2, .int v5, d4]) (st' := [.int (-1), .int v5]) (E' := E5) (I' := I5) (J' := J5) (S' := S5) am_e201 rfl rfl rfl rfl ?_
        refine w_if2 am_e201 rfl rfl (fun c => ?_) (fun c => ?_)
        · replace h := h.2 (of_decide_eq_true c)
          exact h
        · replace h := h.1 (Decidable.not_not.mp (of_decide_eq_false c))
          refine w_st (i' := 70) (ls' := [.ref 99, .int x1, .int x2, .int v5, d4]) (st' := [.ref 99]) (E' := E5) (I' := I5) (J' := J5) (S' := S5) am_e201 rfl rfl rfl rfl ?_
          refine w_st (i' := 71) (ls' := [.ref 99, .int x1, .int x2, .int v5, d4]) (st' := [.int (nI 1), .ref 99]) (E' := E5) (I' := I5) (J' := J5) (S' := S5) am_e201 rfl rfl rfl rfl ?_
          refine w_cV am_e201 rfl rfl (as := [.ref 99, .int (nI 1)]) (rest := []) rfl rfl ?_
          show am_ww 197 0 [.ref 99, .int (nI 1)] [] E5 I5 J5 S5 _
          refine w_st (i' := 1) (ls' := [.ref 99, .int (nI 1)]) (st' := [.ref 99]) (E' := E5) (I' := I5) (J' := J5) (S' := S5) am_e197 rfl rfl rfl rfl ?_
          refine w_st (i' := 2) (ls' := [.ref 99, .int (nI 1)]) (st' := [.int ((I5 99) 22)]) (E' := E5) (I' := I5) (J' := J5) (S' := S5) am_e197 rfl rfl rfl rfl ?_
          refine w_if1 am_e197 rfl rfl (fun c => ?_) (fun c => ?_)
          · replace h := h.1 (of_decide_eq_true c)
            refine w_st (i' := 5) (ls' := [.ref 99, .int (nI 1)]) (st' := [.ref 99]) (E' := E5) (I' := I5) (J' := J5) (S' := S5) am_e197 rfl rfl rfl rfl ?_
            refine w_st (i' := 6) (ls' := [.ref 99, .int (nI 1)]) (st' := [.int (nI 1), .ref 99]) (E' := E5) (I' := I5) (J' := J5) (S' := S5) am_e197 rfl rfl rfl rfl ?_
            refine w_st (i' := 7) (ls' := [.ref 99, .int (nI 1)]) (st' := []) (E' := E5) (I' := (u_I I5 99 (upd (I5 99) 22 (nI 1)))) (J' := J5) (S' := S5) am_e197 rfl rfl rfl rfl ?_
            refine w_st (i' := 8) (ls' := [.ref 99, .int (nI 1)]) (st' := [.ref 99]) (E' := E5) (I' := (u_I I5 99 (upd (I5 99) 22 (nI 1)))) (J' := J5) (S' := S5) am_e197 rfl rfl rfl rfl ?_
            refine w_st (i' := 9) (ls' := [.ref 99, .int (nI 1)]) (st' := [.ref 99, .ref 99]) (E' := E5) (I' := (u_I I5 99 (upd (I5 99) 22 (nI 1)))) (J' := J5) (S' := S5) am_e197 rfl rfl rfl rfl ?_
            refine w_st (i' := 10) (ls' := [.ref 99, .int (nI 1)]) (st' := [.int ((I5 99) 20), .ref 99]) (E' := E5) (I' := (u_I I5 99 (upd (I5 99) 22 (nI 1)))) (J' := J5) (S' := S5) am_e197 rfl rfl rfl rfl ?_
            refine w_st (i' := 11) (ls' := [.ref 99, .int (nI 1)]) (st' := []) (E' := E5) (I' := (u_I (u_I I5 99 (upd (I5 99) 22 (nI 1))) 99 (upd (upd (I5 99) 22 (nI 1)) 23 ((I5 99) 20)))) (J' := J5) (S' := S5) am_e197 rfl rfl rfl rfl ?_
            refine w_eI (uI_0 ..) ?_
            show am_ww 197 11 [.ref 99, .int (nI 1)] [] E5 (u_I I5 99 (upd (upd (I5 99) 22 (nI 1)) 23 ((I5 99) 20))) J5 S5 _
            refine w_end (E' := E5) (I' := (u_I I5 99 (upd (upd (I5 99) 22 (nI 1)) 23 ((I5 99) 20)))) (J' := J5) (S' := S5) am_e197 rfl rfl rfl (q_mkV ?_)
            show am_ww 201 72 [.ref 99, .int x1, .int x2, .int v5, d4] [] E5 (u_I I5 99 (upd (upd (I5 99) 22 (nI 1)) 23 ((I5 99) 20))) J5 S5 _
            exact h
          · replace h := h.2 (of_decide_eq_false c)
            refine w_end (E' := E5) (I' := I5) (J' := J5) (S' := S5) am_e197 rfl rfl rfl (q_mkV ?_)
            show am_ww 201 72 [.ref 99, .int x1, .int x2, .int v5, d4] [] E5 I5 J5 S5 _
            exact h
  · replace h := h.2 (of_decide_eq_false c)
    exact w_end am_e201 rfl rfl rfl h
theorem g201_19 {x1 : Int32} {x2 : Int32} {d3 : Value} {d4 : Value} {E : am_Ev} {I : Nat → Nat → Int32} {J : Nat → Nat → Int64} {S : Nat → Nat → Option Nat} {Q : am_Qt} (hd3 : am_isL d3 = false) (hd4 : am_isL d4 = false) (h : (((I 99) 22) = 0 → (am_ww 201 35 [.ref 99, .int x1, .int x2, d3, d4] [] E (u_I I 99 (upd (upd (I 99) 22 (nI 2)) 23 ((I 99) 20))) J S Q)) ∧ (¬ ((I 99) 22) = 0 → ((((I 99) 22) = 0 → ((((I 99) 18) = (nI 1) → ((x2 = (nI 16) → ((((I 99) 22) = 0 → (am_ww 201 35 [.ref 99, .int x1, .int x2, d3, d4] [] E (u_I I 99 (upd (upd (I 99) 22 (nI 1)) 23 ((I 99) 20))) J S Q)) ∧ (¬ ((I 99) 22) = 0 → (am_ww 201 35 [.ref 99, .int x1, .int x2, d3, d4] [] E I J S Q)))) ∧ (¬ x2 = (nI 16) → (am_ww 201 35 [.ref 99, .int x1, .int x2, d3, d4] [] E I J S Q)))) ∧ (¬ ((I 99) 18) = (nI 1) → ((((I 99) 22) = 0 → (am_ww 201 35 [.ref 99, .int x1, .int x2, d3, d4] [] E (u_I I 99 (upd (upd (I 99) 22 (nI 1)) 23 ((I 99) 20))) J S Q)) ∧ (¬ ((I 99) 22) = 0 → (am_ww 201 35 [.ref 99, .int x1, .int x2, d3, d4] [] E I J S Q)))))) ∧ (¬ ((I 99) 22) = 0 → (am_ww 201 35 [.ref 99, .int x1, .int x2, d3, d4] [] E I J S Q))))) : am_ww 201 19 [.ref 99, .int x1, .int x2, d3, d4] [] E I J S Q := by
  refine w_st (i' := 20) (ls' := [.ref 99, .int x1, .int x2, d3, d4]) (st' := [.ref 99]) (E' := E) (I' := I) (J' := J) (S' := S) am_e201 rfl rfl rfl rfl ?_
  refine w_st (i' := 21) (ls' := [.ref 99, .int x1, .int x2, d3, d4]) (st' := [.int (nI 2), .ref 99]) (E' := E) (I' := I) (J' := J) (S' := S) am_e201 rfl rfl rfl rfl ?_
  refine w_cV am_e201 rfl rfl (as := [.ref 99, .int (nI 2)]) (rest := []) rfl rfl ?_
  show am_ww 197 0 [.ref 99, .int (nI 2)] [] E I J S _
  refine w_st (i' := 1) (ls' := [.ref 99, .int (nI 2)]) (st' := [.ref 99]) (E' := E) (I' := I) (J' := J) (S' := S) am_e197 rfl rfl rfl rfl ?_
  refine w_st (i' := 2) (ls' := [.ref 99, .int (nI 2)]) (st' := [.int ((I 99) 22)]) (E' := E) (I' := I) (J' := J) (S' := S) am_e197 rfl rfl rfl rfl ?_
  refine w_if1 am_e197 rfl rfl (fun c => ?_) (fun c => ?_)
  · replace h := h.1 (of_decide_eq_true c)
    refine w_st (i' := 5) (ls' := [.ref 99, .int (nI 2)]) (st' := [.ref 99]) (E' := E) (I' := I) (J' := J) (S' := S) am_e197 rfl rfl rfl rfl ?_
    refine w_st (i' := 6) (ls' := [.ref 99, .int (nI 2)]) (st' := [.int (nI 2), .ref 99]) (E' := E) (I' := I) (J' := J) (S' := S) am_e197 rfl rfl rfl rfl ?_
    refine w_st (i' := 7) (ls' := [.ref 99, .int (nI 2)]) (st' := []) (E' := E) (I' := (u_I I 99 (upd (I 99) 22 (nI 2)))) (J' := J) (S' := S) am_e197 rfl rfl rfl rfl ?_
    refine w_st (i' := 8) (ls' := [.ref 99, .int (nI 2)]) (st' := [.ref 99]) (E' := E) (I' := (u_I I 99 (upd (I 99) 22 (nI 2)))) (J' := J) (S' := S) am_e197 rfl rfl rfl rfl ?_
    refine w_st (i' := 9) (ls' := [.ref 99, .int (nI 2)]) (st' := [.ref 99, .ref 99]) (E' := E) (I' := (u_I I 99 (upd (I 99) 22 (nI 2)))) (J' := J) (S' := S) am_e197 rfl rfl rfl rfl ?_
    refine w_st (i' := 10) (ls' := [.ref 99, .int (nI 2)]) (st' := [.int ((I 99) 20), .ref 99]) (E' := E) (I' := (u_I I 99 (upd (I 99) 22 (nI 2)))) (J' := J) (S' := S) am_e197 rfl rfl rfl rfl ?_
    refine w_st (i' := 11) (ls' := [.ref 99, .int (nI 2)]) (st' := []) (E' := E) (I' := (u_I (u_I I 99 (upd (I 99) 22 (nI 2))) 99 (upd (upd (I 99) 22 (nI 2)) 23 ((I 99) 20)))) (J' := J) (S' := S) am_e197 rfl rfl rfl rfl ?_
    refine w_eI (uI_0 ..) ?_
    show am_ww 197 11 [.ref 99, .int (nI 2)] [] E (u_I I 99 (upd (upd (I 99) 22 (nI 2)) 23 ((I 99) 20))) J S _
    refine w_end (E' := E) (I' := (u_I I 99 (upd (upd (I 99) 22 (nI 2)) 23 ((I 99) 20)))) (J' := J) (S' := S) am_e197 rfl rfl rfl (q_mkV ?_)
    show am_ww 201 22 [.ref 99, .int x1, .int x2, d3, d4] [] E (u_I I 99 (upd (upd (I 99) 22 (nI 2)) 23 ((I 99) 20))) J S _
    refine w_st (i' := 23) (ls' := [.ref 99, .int x1, .int x2, d3, d4]) (st' := [.ref 99]) (E' := E) (I' := (u_I I 99 (upd (upd (I 99) 22 (nI 2)) 23 ((I 99) 20)))) (J' := J) (S' := S) am_e201 rfl rfl rfl rfl ?_
    refine w_st (i' := 24) (ls' := [.ref 99, .int x1, .int x2, d3, d4]) (st' := [.int (nI 2)]) (E' := E) (I' := (u_I I 99 (upd (upd (I 99) 22 (nI 2)) 23 ((I 99) 20)))) (J' := J) (S' := S) am_e201 rfl rfl rfl rfl ?_
    refine w_st (i' := 35) (ls' := [.ref 99, .int x1, .int x2, d3, d4]) (st' := []) (E' := E) (I' := (u_I I 99 (upd (upd (I 99) 22 (nI 2)) 23 ((I 99) 20)))) (J' := J) (S' := S) am_e201 rfl rfl rfl rfl ?_
    exact h
  · replace h := h.2 (of_decide_eq_false c)
    refine w_end (E' := E) (I' := I) (J' := J) (S' := S) am_e197 rfl rfl rfl (q_mkV ?_)
    show am_ww 201 22 [.ref 99, .int x1, .int x2, d3, d4] [] E I J S _
    refine w_st (i' := 23) (ls' := [.ref 99, .int x1, .int x2, d3, d4]) (st' := [.ref 99]) (E' := E) (I' := I) (J' := J) (S' := S) am_e201 rfl rfl rfl rfl ?_
    refine w_st (i' := 24) (ls' := [.ref 99, .int x1, .int x2, d3, d4]) (st' := [.int ((I 99) 22)]) (E' := E) (I' := I) (J' := J) (S' := S) am_e201 rfl rfl rfl rfl ?_
    refine w_if1 am_e201 rfl rfl (fun c => ?_) (fun c => ?_)
    · replace h := h.2 (of_decide_eq_true c)
      exact h
    · replace h := h.1 (Decidable.not_not.mp (of_decide_eq_false c))
      refine w_st (i' := 26) (ls' := [.ref 99, .int x1, .int x2, d3, d4]) (st' := [.ref 99]) (E' := E) (I' := I) (J' := J) (S' := S) am_e201 rfl rfl rfl rfl ?_
      refine w_st (i' := 27) (ls' := [.ref 99, .int x1, .int x2, d3, d4]) (st' := [.int ((I 99) 18)]) (E' := E) (I' := I) (J' := J) (S' := S) am_e201 rfl rfl rfl rfl ?_
      refine w_st (i' := 28) (ls' := [.ref 99, .int x1, .int x2, d3, d4]) (st' := [.int (nI 1), .int ((I 99) 18)]) (E' := E) (I' := I) (J' := J) (S' := S) am_e201 rfl rfl rfl rfl ?_
      refine w_if2 am_e201 rfl rfl (fun c => ?_) (fun c => ?_)
      · replace h := h.2 (of_decide_eq_true c)
        refine w_st (i' := 33) (ls' := [.ref 99, .int x1, .int x2, d3, d4]) (st' := [.ref 99]) (E' := E) (I' := I) (J' := J) (S' := S) am_e201 rfl rfl rfl rfl ?_
        refine w_st (i' := 34) (ls' := [.ref 99, .int x1, .int x2, d3, d4]) (st' := [.int (nI 1), .ref 99]) (E' := E) (I' := I) (J' := J) (S' := S) am_e201 rfl rfl rfl rfl ?_
        refine w_cV am_e201 rfl rfl (as := [.ref 99, .int (nI 1)]) (rest := []) rfl rfl ?_
        show am_ww 197 0 [.ref 99, .int (nI 1)] [] E I J S _
        refine w_st (i' := 1) (ls' := [.ref 99, .int (nI 1)]) (st' := [.ref 99]) (E' := E) (I' := I) (J' := J) (S' := S) am_e197 rfl rfl rfl rfl ?_
        refine w_st (i' := 2) (ls' := [.ref 99, .int (nI 1)]) (st' := [.int ((I 99) 22)]) (E' := E) (I' := I) (J' := J) (S' := S) am_e197 rfl rfl rfl rfl ?_
        refine w_if1 am_e197 rfl rfl (fun c => ?_) (fun c => ?_)
        · replace h := h.1 (of_decide_eq_true c)
          refine w_st (i' := 5) (ls' := [.ref 99, .int (nI 1)]) (st' := [.ref 99]) (E' := E) (I' := I) (J' := J) (S' := S) am_e197 rfl rfl rfl rfl ?_
          refine w_st (i' := 6) (ls' := [.ref 99, .int (nI 1)]) (st' := [.int (nI 1), .ref 99]) (E' := E) (I' := I) (J' := J) (S' := S) am_e197 rfl rfl rfl rfl ?_
          refine w_st (i' := 7) (ls' := [.ref 99, .int (nI 1)]) (st' := []) (E' := E) (I' := (u_I I 99 (upd (I 99) 22 (nI 1)))) (J' := J) (S' := S) am_e197 rfl rfl rfl rfl ?_
          refine w_st (i' := 8) (ls' := [.ref 99, .int (nI 1)]) (st' := [.ref 99]) (E' := E) (I' := (u_I I 99 (upd (I 99) 22 (nI 1)))) (J' := J) (S' := S) am_e197 rfl rfl rfl rfl ?_
          refine w_st (i' := 9) (ls' := [.ref 99, .int (nI 1)]) (st' := [.ref 99, .ref 99]) (E' := E) (I' := (u_I I 99 (upd (I 99) 22 (nI 1)))) (J' := J) (S' := S) am_e197 rfl rfl rfl rfl ?_
          refine w_st (i' := 10) (ls' := [.ref 99, .int (nI 1)]) (st' := [.int ((I 99) 20), .ref 99]) (E' := E) (I' := (u_I I 99 (upd (I 99) 22 (nI 1)))) (J' := J) (S' := S) am_e197 rfl rfl rfl rfl ?_
          refine w_st (i' := 11) (ls' := [.ref 99, .int (nI 1)]) (st' := []) (E' := E) (I' := (u_I (u_I I 99 (upd (I 99) 22 (nI 1))) 99 (upd (upd (I 99) 22 (nI 1)) 23 ((I 99) 20)))) (J' := J) (S' := S) am_e197 rfl rfl rfl rfl ?_
          refine w_eI (uI_0 ..) ?_
          show am_ww 197 11 [.ref 99, .int (nI 1)] [] E (u_I I 99 (upd (upd (I 99) 22 (nI 1)) 23 ((I 99) 20))) J S _
          refine w_end (E' := E) (I' := (u_I I 99 (upd (upd (I 99) 22 (nI 1)) 23 ((I 99) 20)))) (J' := J) (S' := S) am_e197 rfl rfl rfl (q_mkV ?_)
          show am_ww 201 35 [.ref 99, .int x1, .int x2, d3, d4] [] E (u_I I 99 (upd (upd (I 99) 22 (nI 1)) 23 ((I 99) 20))) J S _
          exact h
        · replace h := h.2 (of_decide_eq_false c)
          refine w_end (E' := E) (I' := I) (J' := J) (S' := S) am_e197 rfl rfl rfl (q_mkV ?_)
          show am_ww 201 35 [.ref 99, .int x1, .int x2, d3, d4] [] E I J S _
          exact h
      · replace h := h.1 (Decidable.not_not.mp (of_decide_eq_false c))
        refine w_st (i' := 30) (ls' := [.ref 99, .int x1, .int x2, d3, d4]) (st' := [.int x2]) (E' := E) (I' := I) (J' := J) (S' := S) am_e201 rfl rfl rfl rfl ?_
        refine w_st (i' := 31) (ls' := [.ref 99, .int x1, .int x2, d3, d4]) (st' := [.int (nI 16), .int x2]) (E' := E) (I' := I) (J' := J) (S' := S) am_e201 rfl rfl rfl rfl ?_
        refine w_if2 am_e201 rfl rfl (fun c => ?_) (fun c => ?_)
        · replace h := h.2 (of_decide_eq_true c)
          exact h
        · replace h := h.1 (Decidable.not_not.mp (of_decide_eq_false c))
          refine w_st (i' := 33) (ls' := [.ref 99, .int x1, .int x2, d3, d4]) (st' := [.ref 99]) (E' := E) (I' := I) (J' := J) (S' := S) am_e201 rfl rfl rfl rfl ?_
          refine w_st (i' := 34) (ls' := [.ref 99, .int x1, .int x2, d3, d4]) (st' := [.int (nI 1), .ref 99]) (E' := E) (I' := I) (J' := J) (S' := S) am_e201 rfl rfl rfl rfl ?_
          refine w_cV am_e201 rfl rfl (as := [.ref 99, .int (nI 1)]) (rest := []) rfl rfl ?_
          show am_ww 197 0 [.ref 99, .int (nI 1)] [] E I J S _
          refine w_st (i' := 1) (ls' := [.ref 99, .int (nI 1)]) (st' := [.ref 99]) (E' := E) (I' := I) (J' := J) (S' := S) am_e197 rfl rfl rfl rfl ?_
          refine w_st (i' := 2) (ls' := [.ref 99, .int (nI 1)]) (st' := [.int ((I 99) 22)]) (E' := E) (I' := I) (J' := J) (S' := S) am_e197 rfl rfl rfl rfl ?_
          refine w_if1 am_e197 rfl rfl (fun c => ?_) (fun c => ?_)
          · replace h := h.1 (of_decide_eq_true c)
            refine w_st (i' := 5) (ls' := [.ref 99, .int (nI 1)]) (st' := [.ref 99]) (E' := E) (I' := I) (J' := J) (S' := S) am_e197 rfl rfl rfl rfl ?_
            refine w_st (i' := 6) (ls' := [.ref 99, .int (nI 1)]) (st' := [.int (nI 1), .ref 99]) (E' := E) (I' := I) (J' := J) (S' := S) am_e197 rfl rfl rfl rfl ?_
            refine w_st (i' := 7) (ls' := [.ref 99, .int (nI 1)]) (st' := []) (E' := E) (I' := (u_I I 99 (upd (I 99) 22 (nI 1)))) (J' := J) (S' := S) am_e197 rfl rfl rfl rfl ?_
            refine w_st (i' := 8) (ls' := [.ref 99, .int (nI 1)]) (st' := [.ref 99]) (E' := E) (I' := (u_I I 99 (upd (I 99) 22 (nI 1)))) (J' := J) (S' := S) am_e197 rfl rfl rfl rfl ?_
            refine w_st (i' := 9) (ls' := [.ref 99, .int (nI 1)]) (st' := [.ref 99, .ref 99]) (E' := E) (I' := (u_I I 99 (upd (I 99) 22 (nI 1)))) (J' := J) (S' := S) am_e197 rfl rfl rfl rfl ?_
            refine w_st (i' := 10) (ls' := [.ref 99, .int (nI 1)]) (st' := [.int ((I 99) 20), .ref 99]) (E' := E) (I' := (u_I I 99 (upd (I 99) 22 (nI 1)))) (J' := J) (S' := S) am_e197 rfl rfl rfl rfl ?_
            refine w_st (i' := 11) (ls' := [.ref 99, .int (nI 1)]) (st' := []) (E' := E) (I' := (u_I (u_I I 99 (upd (I 99) 22 (nI 1))) 99 (upd (upd (I 99) 22 (nI 1)) 23 ((I 99) 20)))) (J' := J) (S' := S) am_e197 rfl rfl rfl rfl ?_
            refine w_eI (uI_0 ..) ?_
            show am_ww 197 11 [.ref 99, .int (nI 1)] [] E (u_I I 99 (upd (upd (I 99) 22 (nI 1)) 23 ((I 99) 20))) J S _
            refine w_end (E' := E) (I' := (u_I I 99 (upd (upd (I 99) 22 (nI 1)) 23 ((I 99) 20)))) (J' := J) (S' := S) am_e197 rfl rfl rfl (q_mkV ?_)
            show am_ww 201 35 [.ref 99, .int x1, .int x2, d3, d4] [] E (u_I I 99 (upd (upd (I 99) 22 (nI 1)) 23 ((I 99) 20))) J S _
            exact h
          · replace h := h.2 (of_decide_eq_false c)
            refine w_end (E' := E) (I' := I) (J' := J) (S' := S) am_e197 rfl rfl rfl (q_mkV ?_)
            show am_ww 201 35 [.ref 99, .int x1, .int x2, d3, d4] [] E I J S _
            exact h
theorem g201_72 {x1 : Int32} {x2 : Int32} {x3 : Int32} {d4 : Value} {E : am_Ev} {I : Nat → Nat → Int32} {J : Nat → Nat → Int64} {S : Nat → Nat → Option Nat} {Q : am_Qt} (hd4 : am_isL d4 = false) (h : (((I 99) 22) = 0 → (am_cl 190 [.ref 99] E I J S (q_V fun E1 I1 J1 S1 => ∀ w2 : Int32, w2 = (((nI 16) * ((nI 4) + x1)) + x2) → (vp_in w2 128 ∧ (am_cl 208 [.ref 99, .int x3, .int w2, .int x2] E1 (u_I I1 106 (upd (I1 106) w2.toNatClampNeg x3)) J1 S1 (q_V fun E4 I4 J4 S4 => Q (.inl none) E4 I4 J4 S4)))))) ∧ (¬ ((I 99) 22) = 0 → (Q (.inl none) E I J S))) : am_ww 201 72 [.ref 99, .int x1, .int x2, .int x3, d4] [] E I J S Q := by
  refine w_st (i' := 73) (ls' := [.ref 99, .int x1, .int x2, .int x3, d4]) (st' := [.ref 99]) (E' := E) (I' := I) (J' := J) (S' := S) am_e201 rfl rfl rfl rfl ?_
  refine w_st (i' := 74) (ls' := [.ref 99, .int x1, .int x2, .int x3, d4]) (st' := [.int ((I 99) 22)]) (E' := E) (I' := I) (J' := J) (S' := S) am_e201 rfl rfl rfl rfl ?_
  refine w_if1 am_e201 rfl rfl (fun c => ?_) (fun c => ?_)
  · replace h := h.1 (of_decide_eq_true c)
    refine w_st (i' := 77) (ls' := [.ref 99, .int x1, .int x2, .int x3, d4]) (st' := [.ref 99]) (E' := E) (I' := I) (J' := J) (S' := S) am_e201 rfl rfl rfl rfl ?_
    refine w_cV am_e201 rfl rfl (as := [.ref 99]) (rest := []) rfl rfl (am_ww.mono h ?_)
    rintro _ E1 I1 J1 S1 ⟨rfl, h⟩
    refine q_mkV ?_
    refine w_st (i' := 79) (ls' := [.ref 99, .int x1, .int x2, .int x3, d4]) (st' := [.int (nI 16)]) (E' := E1) (I' := I1) (J' := J1) (S' := S1) am_e201 rfl rfl rfl rfl ?_
    refine w_st (i' := 80) (ls' := [.ref 99, .int x1, .int x2, .int x3, d4]) (st' := [.int (nI 4), .int (nI 16)]) (E' := E1) (I' := I1) (J' := J1) (S' := S1) am_e201 rfl rfl rfl rfl ?_
    refine w_st (i' := 81) (ls' := [.ref 99, .int x1, .int x2, .int x3, d4]) (st' := [.int x1, .int (nI 4), .int (nI 16)]) (E' := E1) (I' := I1) (J' := J1) (S' := S1) am_e201 rfl rfl rfl rfl ?_
    refine w_st (i' := 82) (ls' := [.ref 99, .int x1, .int x2, .int x3, d4]) (st' := [.int ((nI 4) + x1), .int (nI 16)]) (E' := E1) (I' := I1) (J' := J1) (S' := S1) am_e201 rfl rfl rfl rfl ?_
    refine w_st (i' := 83) (ls' := [.ref 99, .int x1, .int x2, .int x3, d4]) (st' := [.int ((nI 16) * ((nI 4) + x1))]) (E' := E1) (I' := I1) (J' := J1) (S' := S1) am_e201 rfl rfl rfl rfl ?_
    refine w_st (i' := 84) (ls' := [.ref 99, .int x1, .int x2, .int x3, d4]) (st' := [.int x2, .int ((nI 16) * ((nI 4) + x1))]) (E' := E1) (I' := I1) (J' := J1) (S' := S1) am_e201 rfl rfl rfl rfl ?_
    refine w_st (i' := 85) (ls' := [.ref 99, .int x1, .int x2, .int x3, d4]) (st' := [.int (((nI 16) * ((nI 4) + x1)) + x2)]) (E' := E1) (I' := I1) (J' := J1) (S' := S1) am_e201 rfl rfl rfl rfl ?_
    refine w_st (i' := 86) (ls' := [.ref 99, .int x1, .int x2, .int x3, .int (((nI 16) * ((nI 4) + x1)) + x2)]) (st' := []) (E' := E1) (I' := I1) (J' := J1) (S' := S1) am_e201 rfl rfl rfl rfl ?_
    refine w_var (fun w2 => am_ww 201 86 [.ref 99, .int x1, .int x2, .int x3, .int w2] [] E1 I1 J1 S1 _) (((nI 16) * ((nI 4) + x1)) + x2) (fun w2 hw2 => ?_)
    replace h := h w2 hw2
    refine w_st (i' := 87) (ls' := [.ref 99, .int x1, .int x2, .int x3, .int w2]) (st' := [.ref 99]) (E' := E1) (I' := I1) (J' := J1) (S' := S1) am_e201 rfl rfl rfl rfl ?_
    refine w_st (i' := 88) (ls' := [.ref 99, .int x1, .int x2, .int x3, .int w2]) (st' := [.ref 106]) (E' := E1) (I' := I1) (J' := J1) (S' := S1) am_e201 rfl rfl rfl rfl ?_
    refine w_st (i' := 89) (ls' := [.ref 99, .int x1, .int x2, .int x3, .int w2]) (st' := [.int w2, .ref 106]) (E' := E1) (I' := I1) (J' := J1) (S' := S1) am_e201 rfl rfl rfl rfl ?_
    refine w_st (i' := 90) (ls' := [.ref 99, .int x1, .int x2, .int x3, .int w2]) (st' := [.int x3, .int w2, .ref 106]) (E' := E1) (I' := I1) (J' := J1) (S' := S1) am_e201 rfl rfl rfl rfl ?_
    have hf3 := h.1
    replace h := h.2
    refine w_is (k := 106) (n := 128) (jn := w2.toNatClampNeg) am_e201 rfl rfl (by decide) hf3 rfl ?_
    show am_ww 201 91 [.ref 99, .int x1, .int x2, .int x3, .int w2] [] E1 (u_I I1 106 (upd (I1 106) w2.toNatClampNeg x3)) J1 S1 _
    refine w_st (i' := 92) (ls' := [.ref 99, .int x1, .int x2, .int x3, .int w2]) (st' := [.ref 99]) (E' := E1) (I' := (u_I I1 106 (upd (I1 106) w2.toNatClampNeg x3))) (J' := J1) (S' := S1) am_e201 rfl rfl rfl rfl ?_
    refine w_st (i' := 93) (ls' := [.ref 99, .int x1, .int x2, .int x3, .int w2]) (st' := [.int x3, .ref 99]) (E' := E1) (I' := (u_I I1 106 (upd (I1 106) w2.toNatClampNeg x3))) (J' := J1) (S' := S1) am_e201 rfl rfl rfl rfl ?_
    refine w_st (i' := 94) (ls' := [.ref 99, .int x1, .int x2, .int x3, .int w2]) (st' := [.int w2, .int x3, .ref 99]) (E' := E1) (I' := (u_I I1 106 (upd (I1 106) w2.toNatClampNeg x3))) (J' := J1) (S' := S1) am_e201 rfl rfl rfl rfl ?_
    refine w_st (i' := 95) (ls' := [.ref 99, .int x1, .int x2, .int x3, .int w2]) (st' := [.int x2, .int w2, .int x3, .ref 99]) (E' := E1) (I' := (u_I I1 106 (upd (I1 106) w2.toNatClampNeg x3))) (J' := J1) (S' := S1) am_e201 rfl rfl rfl rfl ?_
    refine w_cV am_e201 rfl rfl (as := [.ref 99, .int x3, .int w2, .int x2]) (rest := []) rfl rfl (am_ww.mono h ?_)
    rintro _ E4 I4 J4 S4 ⟨rfl, h⟩
    refine q_mkV ?_
    exact w_end am_e201 rfl rfl rfl h
  · replace h := h.2 (of_decide_eq_false c)
    exact w_end am_e201 rfl rfl rfl h
-- 200 readThread
theorem g200_0  {E : am_Ev} {I : Nat → Nat → Int32} {J : Nat → Nat → Int64} {S : Nat → Nat → Option Nat} {Q : am_Qt}  (h : (((I 103) 9) = (nI 4) → ((((I 99) 22) = 0 → (am_ww 200 9 [.ref 99, am_U, am_U, am_U, am_U] [] E (u_I I 99 (upd (upd (I 99) 22 (nI 2)) 23 ((I 99) 20))) J S Q)) ∧ (¬ ((I 99) 22) = 0 → (am_ww 200 9 [.ref 99, am_U, am_U, am_U, am_U] [] E I J S Q)))) ∧ (¬ ((I 103) 9) = (nI 4) → (am_ww 200 9 [.ref 99, am_U, am_U, am_U, am_U] [] E I J S Q))) : am_ww 200 0 [.ref 99, am_U, am_U, am_U, am_U] [] E I J S Q := by
  refine w_st (i' := 1) (ls' := [.ref 99, am_U, am_U, am_U, am_U]) (st' := [.ref 99]) (E' := E) (I' := I) (J' := J) (S' := S) am_e200 rfl rfl rfl rfl ?_
  refine w_st (i' := 2) (ls' := [.ref 99, am_U, am_U, am_U, am_U]) (st' := [.ref 103]) (E' := E) (I' := I) (J' := J) (S' := S) am_e200 rfl rfl rfl rfl ?_
  refine w_st (i' := 3) (ls' := [.ref 99, am_U, am_U, am_U, am_U]) (st' := [.int (nI 9), .ref 103]) (E' := E) (I' := I) (J' := J) (S' := S) am_e200 rfl rfl rfl rfl ?_
  refine w_ia (k := 103) (n := 10) (jn := 9) am_e200 rfl rfl (by decide) (vp_in_nI (by decide) (by decide)) rfl ?_
  show am_ww 200 4 [.ref 99, am_U, am_U, am_U, am_U] [.int ((I 103) 9)] E I J S _
  refine w_st (i' := 5) (ls' := [.ref 99, am_U, am_U, am_U, am_U]) (st' := [.int (nI 4), .int ((I 103) 9)]) (E' := E) (I' := I) (J' := J) (S' := S) am_e200 rfl rfl rfl rfl ?_
  refine w_if2 am_e200 rfl rfl (fun c => ?_) (fun c => ?_)
  · replace h := h.2 (of_decide_eq_true c)
    exact h
  · replace h := h.1 (Decidable.not_not.mp (of_decide_eq_false c))
    refine w_st (i' := 7) (ls' := [.ref 99, am_U, am_U, am_U, am_U]) (st' := [.ref 99]) (E' := E) (I' := I) (J' := J) (S' := S) am_e200 rfl rfl rfl rfl ?_
    refine w_st (i' := 8) (ls' := [.ref 99, am_U, am_U, am_U, am_U]) (st' := [.int (nI 2), .ref 99]) (E' := E) (I' := I) (J' := J) (S' := S) am_e200 rfl rfl rfl rfl ?_
    refine w_cV am_e200 rfl rfl (as := [.ref 99, .int (nI 2)]) (rest := []) rfl rfl ?_
    show am_ww 197 0 [.ref 99, .int (nI 2)] [] E I J S _
    refine w_st (i' := 1) (ls' := [.ref 99, .int (nI 2)]) (st' := [.ref 99]) (E' := E) (I' := I) (J' := J) (S' := S) am_e197 rfl rfl rfl rfl ?_
    refine w_st (i' := 2) (ls' := [.ref 99, .int (nI 2)]) (st' := [.int ((I 99) 22)]) (E' := E) (I' := I) (J' := J) (S' := S) am_e197 rfl rfl rfl rfl ?_
    refine w_if1 am_e197 rfl rfl (fun c => ?_) (fun c => ?_)
    · replace h := h.1 (of_decide_eq_true c)
      refine w_st (i' := 5) (ls' := [.ref 99, .int (nI 2)]) (st' := [.ref 99]) (E' := E) (I' := I) (J' := J) (S' := S) am_e197 rfl rfl rfl rfl ?_
      refine w_st (i' := 6) (ls' := [.ref 99, .int (nI 2)]) (st' := [.int (nI 2), .ref 99]) (E' := E) (I' := I) (J' := J) (S' := S) am_e197 rfl rfl rfl rfl ?_
      refine w_st (i' := 7) (ls' := [.ref 99, .int (nI 2)]) (st' := []) (E' := E) (I' := (u_I I 99 (upd (I 99) 22 (nI 2)))) (J' := J) (S' := S) am_e197 rfl rfl rfl rfl ?_
      refine w_st (i' := 8) (ls' := [.ref 99, .int (nI 2)]) (st' := [.ref 99]) (E' := E) (I' := (u_I I 99 (upd (I 99) 22 (nI 2)))) (J' := J) (S' := S) am_e197 rfl rfl rfl rfl ?_
      refine w_st (i' := 9) (ls' := [.ref 99, .int (nI 2)]) (st' := [.ref 99, .ref 99]) (E' := E) (I' := (u_I I 99 (upd (I 99) 22 (nI 2)))) (J' := J) (S' := S) am_e197 rfl rfl rfl rfl ?_
      refine w_st (i' := 10) (ls' := [.ref 99, .int (nI 2)]) (st' := [.int ((I 99) 20), .ref 99]) (E' := E) (I' := (u_I I 99 (upd (I 99) 22 (nI 2)))) (J' := J) (S' := S) am_e197 rfl rfl rfl rfl ?_
      refine w_st (i' := 11) (ls' := [.ref 99, .int (nI 2)]) (st' := []) (E' := E) (I' := (u_I (u_I I 99 (upd (I 99) 22 (nI 2))) 99 (upd (upd (I 99) 22 (nI 2)) 23 ((I 99) 20)))) (J' := J) (S' := S) am_e197 rfl rfl rfl rfl ?_
      refine w_eI (uI_0 ..) ?_
      show am_ww 197 11 [.ref 99, .int (nI 2)] [] E (u_I I 99 (upd (upd (I 99) 22 (nI 2)) 23 ((I 99) 20))) J S _
      refine w_end (E' := E) (I' := (u_I I 99 (upd (upd (I 99) 22 (nI 2)) 23 ((I 99) 20)))) (J' := J) (S' := S) am_e197 rfl rfl rfl (q_mkV ?_)
      show am_ww 200 9 [.ref 99, am_U, am_U, am_U, am_U] [] E (u_I I 99 (upd (upd (I 99) 22 (nI 2)) 23 ((I 99) 20))) J S _
      exact h
    · replace h := h.2 (of_decide_eq_false c)
      refine w_end (E' := E) (I' := I) (J' := J) (S' := S) am_e197 rfl rfl rfl (q_mkV ?_)
      show am_ww 200 9 [.ref 99, am_U, am_U, am_U, am_U] [] E I J S _
      exact h
theorem g200_9 {d1 : Value} {d2 : Value} {d3 : Value} {d4 : Value} {E : am_Ev} {I : Nat → Nat → Int32} {J : Nat → Nat → Int64} {S : Nat → Nat → Option Nat} {Q : am_Qt} (hd1 : am_isL d1 = false) (hd2 : am_isL d2 = false) (hd3 : am_isL d3 = false) (hd4 : am_isL d4 = false) (h : (((I 99) 22) = 0 → (am_cl 190 [.ref 99] E I J S (q_V fun E1 I1 J1 S1 => am_ww 200 24 [.ref 99, .int ((I1 103) 9), .int (nI 0), .int (nI 1), d4] [] E1 I1 J1 S1 Q))) ∧ (¬ ((I 99) 22) = 0 → (Q (.inl none) E I J S))) : am_ww 200 9 [.ref 99, d1, d2, d3, d4] [] E I J S Q := by
  refine w_st (i' := 10) (ls' := [.ref 99, d1, d2, d3, d4]) (st' := [.ref 99]) (E' := E) (I' := I) (J' := J) (S' := S) am_e200 rfl rfl rfl rfl ?_
  refine w_st (i' := 11) (ls' := [.ref 99, d1, d2, d3, d4]) (st' := [.int ((I 99) 22)]) (E' := E) (I' := I) (J' := J) (S' := S) am_e200 rfl rfl rfl rfl ?_
  refine w_if1 am_e200 rfl rfl (fun c => ?_) (fun c => ?_)
  · replace h := h.1 (of_decide_eq_true c)
    refine w_st (i' := 14) (ls' := [.ref 99, d1, d2, d3, d4]) (st' := [.ref 99]) (E' := E) (I' := I) (J' := J) (S' := S) am_e200 rfl rfl rfl rfl ?_
    refine w_cV am_e200 rfl rfl (as := [.ref 99]) (rest := []) rfl rfl (am_ww.mono h ?_)
    rintro _ E1 I1 J1 S1 ⟨rfl, h⟩
    refine q_mkV ?_
    refine w_st (i' := 16) (ls' := [.ref 99, d1, d2, d3, d4]) (st' := [.ref 99]) (E' := E1) (I' := I1) (J' := J1) (S' := S1) am_e200 rfl rfl rfl rfl ?_
    refine w_st (i' := 17) (ls' := [.ref 99, d1, d2, d3, d4]) (st' := [.ref 103]) (E' := E1) (I' := I1) (J' := J1) (S' := S1) am_e200 rfl rfl rfl rfl ?_
    refine w_st (i' := 18) (ls' := [.ref 99, d1, d2, d3, d4]) (st' := [.int (nI 9), .ref 103]) (E' := E1) (I' := I1) (J' := J1) (S' := S1) am_e200 rfl rfl rfl rfl ?_
    refine w_ia (k := 103) (n := 10) (jn := 9) am_e200 rfl rfl (by decide) (vp_in_nI (by decide) (by decide)) rfl ?_
    show am_ww 200 19 [.ref 99, d1, d2, d3, d4] [.int ((I1 103) 9)] E1 I1 J1 S1 _
    refine w_st (i' := 20) (ls' := [.ref 99, .int ((I1 103) 9), d2, d3, d4]) (st' := []) (E' := E1) (I' := I1) (J' := J1) (S' := S1) am_e200 rfl rfl rfl rfl ?_
    refine w_st (i' := 21) (ls' := [.ref 99, .int ((I1 103) 9), d2, d3, d4]) (st' := [.int (nI 0)]) (E' := E1) (I' := I1) (J' := J1) (S' := S1) am_e200 rfl rfl rfl rfl ?_
    refine w_st (i' := 22) (ls' := [.ref 99, .int ((I1 103) 9), .int (nI 0), d3, d4]) (st' := []) (E' := E1) (I' := I1) (J' := J1) (S' := S1) am_e200 rfl rfl rfl rfl ?_
    refine w_st (i' := 23) (ls' := [.ref 99, .int ((I1 103) 9), .int (nI 0), d3, d4]) (st' := [.int (nI 1)]) (E' := E1) (I' := I1) (J' := J1) (S' := S1) am_e200 rfl rfl rfl rfl ?_
    refine w_st (i' := 24) (ls' := [.ref 99, .int ((I1 103) 9), .int (nI 0), .int (nI 1), d4]) (st' := []) (E' := E1) (I' := I1) (J' := J1) (S' := S1) am_e200 rfl rfl rfl rfl ?_
    exact h
  · replace h := h.2 (of_decide_eq_false c)
    exact w_end am_e200 rfl rfl rfl h
theorem g200_24 {x1 : Int32} {x2 : Int32} {x3 : Int32} {d4 : Value} {E : am_Ev} {I : Nat → Nat → Int32} {J : Nat → Nat → Int64} {S : Nat → Nat → Option Nat} {Q : am_Qt} (hd4 : am_isL d4 = false) (h : (x3 = 0 → (am_ww 200 41 [.ref 99, .int x1, .int x2, .int x3, .int (nI 0)] [] E I J S Q)) ∧ (¬ x3 = 0 → ((((I 99) 22) = 0 → (am_cl 201 [.ref 99, .int x1, .int x2] E I J S (q_V fun E1 I1 J1 S1 => am_cl 211 [.ref 99, .int (nI 44)] E1 I1 J1 S1 (q_I fun v2 E2 I2 J2 S2 => am_ww 200 24 [.ref 99, .int x1, .int (x2 + nI 1), .int v2, d4] [] E2 I2 J2 S2 Q)))) ∧ (¬ ((I 99) 22) = 0 → (am_ww 200 41 [.ref 99, .int x1, .int x2, .int x3, .int (nI 0)] [] E I J S Q))))) : am_ww 200 24 [.ref 99, .int x1, .int x2, .int x3, d4] [] E I J S Q := by
  refine w_st (i' := 25) (ls' := [.ref 99, .int x1, .int x2, .int x3, d4]) (st' := [.int x3]) (E' := E) (I' := I) (J' := J) (S' := S) am_e200 rfl rfl rfl rfl ?_
  refine w_if1 am_e200 rfl rfl (fun c => ?_) (fun c => ?_)
  · replace h := h.1 (of_decide_eq_true c)
    refine w_st (i' := 40) (ls' := [.ref 99, .int x1, .int x2, .int x3, d4]) (st' := [.int (nI 0)]) (E' := E) (I' := I) (J' := J) (S' := S) am_e200 rfl rfl rfl rfl ?_
    refine w_st (i' := 41) (ls' := [.ref 99, .int x1, .int x2, .int x3, .int (nI 0)]) (st' := []) (E' := E) (I' := I) (J' := J) (S' := S) am_e200 rfl rfl rfl rfl ?_
    exact h
  · replace h := h.2 (of_decide_eq_false c)
    refine w_st (i' := 27) (ls' := [.ref 99, .int x1, .int x2, .int x3, d4]) (st' := [.ref 99]) (E' := E) (I' := I) (J' := J) (S' := S) am_e200 rfl rfl rfl rfl ?_
    refine w_st (i' := 28) (ls' := [.ref 99, .int x1, .int x2, .int x3, d4]) (st' := [.int ((I 99) 22)]) (E' := E) (I' := I) (J' := J) (S' := S) am_e200 rfl rfl rfl rfl ?_
    refine w_if1 am_e200 rfl rfl (fun c => ?_) (fun c => ?_)
    · replace h := h.2 (of_decide_eq_true c)
      refine w_st (i' := 40) (ls' := [.ref 99, .int x1, .int x2, .int x3, d4]) (st' := [.int (nI 0)]) (E' := E) (I' := I) (J' := J) (S' := S) am_e200 rfl rfl rfl rfl ?_
      refine w_st (i' := 41) (ls' := [.ref 99, .int x1, .int x2, .int x3, .int (nI 0)]) (st' := []) (E' := E) (I' := I) (J' := J) (S' := S) am_e200 rfl rfl rfl rfl ?_
      exact h
    · replace h := h.1 (Decidable.not_not.mp (of_decide_eq_false c))
      refine w_st (i' := 30) (ls' := [.ref 99, .int x1, .int x2, .int x3, d4]) (st' := [.ref 99]) (E' := E) (I' := I) (J' := J) (S' := S) am_e200 rfl rfl rfl rfl ?_
      refine w_st (i' := 31) (ls' := [.ref 99, .int x1, .int x2, .int x3, d4]) (st' := [.int x1, .ref 99]) (E' := E) (I' := I) (J' := J) (S' := S) am_e200 rfl rfl rfl rfl ?_
      refine w_st (i' := 32) (ls' := [.ref 99, .int x1, .int x2, .int x3, d4]) (st' := [.int x2, .int x1, .ref 99]) (E' := E) (I' := I) (J' := J) (S' := S) am_e200 rfl rfl rfl rfl ?_
      refine w_cV am_e200 rfl rfl (as := [.ref 99, .int x1, .int x2]) (rest := []) rfl rfl (am_ww.mono h ?_)
      rintro _ E1 I1 J1 S1 ⟨rfl, h⟩
      refine q_mkV ?_
      refine w_st (i' := 34) (ls' := [.ref 99, .int x1, .int (x2 + nI 1), .int x3, d4]) (st' := []) (E' := E1) (I' := I1) (J' := J1) (S' := S1) am_e200 rfl rfl rfl rfl ?_
      refine w_st (i' := 35) (ls' := [.ref 99, .int x1, .int (x2 + nI 1), .int x3, d4]) (st' := [.ref 99]) (E' := E1) (I' := I1) (J' := J1) (S' := S1) am_e200 rfl rfl rfl rfl ?_
      refine w_st (i' := 36) (ls' := [.ref 99, .int x1, .int (x2 + nI 1), .int x3, d4]) (st' := [.int (nI 44), .ref 99]) (E' := E1) (I' := I1) (J' := J1) (S' := S1) am_e200 rfl rfl rfl rfl ?_
      refine w_cI am_e200 rfl rfl (as := [.ref 99, .int (nI 44)]) (rest := []) rfl rfl (am_ww.mono h ?_)
      rintro _ E2 I2 J2 S2 ⟨v2, rfl, h⟩
      refine q_mkI ?_
      refine w_st (i' := 38) (ls' := [.ref 99, .int x1, .int (x2 + nI 1), .int v2, d4]) (st' := []) (E' := E2) (I' := I2) (J' := J2) (S' := S2) am_e200 rfl rfl rfl rfl ?_
      refine w_st (i' := 24) (ls' := [.ref 99, .int x1, .int (x2 + nI 1), .int v2, d4]) (st' := []) (E' := E2) (I' := I2) (J' := J2) (S' := S2) am_e200 rfl rfl rfl rfl ?_
      exact h
theorem g200_41 {x1 : Int32} {x2 : Int32} {d3 : Value} {x4 : Int32} {E : am_Ev} {I : Nat → Nat → Int32} {J : Nat → Nat → Int64} {S : Nat → Nat → Option Nat} {Q : am_Qt} (hd3 : am_isL d3 = false) (h : (x2 ≤ x4 → (am_ww 200 104 [.ref 99, .int x1, .int x2, d3, .int x4] [] E I J S Q)) ∧ (¬ x2 ≤ x4 → ((((I 99) 22) = 0 → (vp_in x4 16 ∧ ((((I 115) x4.toNatClampNeg) = 0 → (am_ww 200 74 [.ref 99, .int x1, .int x2, d3, .int x4] [.int (-1), .int (((nI 16) * ((nI 4) + x1)) + x4), .ref 109] E I J S Q)) ∧ (¬ ((I 115) x4.toNatClampNeg) = 0 → (am_cl 205 [.ref 99, .int ((I 114) x4.toNatClampNeg), .int ((I 115) x4.toNatClampNeg), .int x2] E I J S (q_I fun v2 E2 I2 J2 S2 => am_ww 200 74 [.ref 99, .int x1, .int x2, d3, .int x4] [.int v2, .int (((nI 16) * ((nI 4) + x1)) + x4), .ref 109] E2 I2 J2 S2 Q)))))) ∧ (¬ ((I 99) 22) = 0 → (am_ww 200 104 [.ref 99, .int x1, .int x2, d3, .int x4] [] E I J S Q))))) : am_ww 200 41 [.ref 99, .int x1, .int x2, d3, .int x4] [] E I J S Q := by
  refine w_st (i' := 42) (ls' := [.ref 99, .int x1, .int x2, d3, .int x4]) (st' := [.int x4]) (E' := E) (I' := I) (J' := J) (S' := S) am_e200 rfl rfl rfl rfl ?_
  refine w_st (i' := 43) (ls' := [.ref 99, .int x1, .int x2, d3, .int x4]) (st' := [.int x2, .int x4]) (E' := E) (I' := I) (J' := J) (S' := S) am_e200 rfl rfl rfl rfl ?_
  refine w_if2 am_e200 rfl rfl (fun c => ?_) (fun c => ?_)
  · replace h := h.1 (of_decide_eq_true c)
    exact h
  · replace h := h.2 (of_decide_eq_false c)
    refine w_st (i' := 45) (ls' := [.ref 99, .int x1, .int x2, d3, .int x4]) (st' := [.ref 99]) (E' := E) (I' := I) (J' := J) (S' := S) am_e200 rfl rfl rfl rfl ?_
    refine w_st (i' := 46) (ls' := [.ref 99, .int x1, .int x2, d3, .int x4]) (st' := [.int ((I 99) 22)]) (E' := E) (I' := I) (J' := J) (S' := S) am_e200 rfl rfl rfl rfl ?_
    refine w_if1 am_e200 rfl rfl (fun c => ?_) (fun c => ?_)
    · replace h := h.2 (of_decide_eq_true c)
      exact h
    · replace h := h.1 (Decidable.not_not.mp (of_decide_eq_false c))
      refine w_st (i' := 48) (ls' := [.ref 99, .int x1, .int x2, d3, .int x4]) (st' := [.ref 99]) (E' := E) (I' := I) (J' := J) (S' := S) am_e200 rfl rfl rfl rfl ?_
      refine w_st (i' := 49) (ls' := [.ref 99, .int x1, .int x2, d3, .int x4]) (st' := [.ref 109]) (E' := E) (I' := I) (J' := J) (S' := S) am_e200 rfl rfl rfl rfl ?_
      refine w_st (i' := 50) (ls' := [.ref 99, .int x1, .int x2, d3, .int x4]) (st' := [.int (nI 16), .ref 109]) (E' := E) (I' := I) (J' := J) (S' := S) am_e200 rfl rfl rfl rfl ?_
      refine w_st (i' := 51) (ls' := [.ref 99, .int x1, .int x2, d3, .int x4]) (st' := [.int (nI 4), .int (nI 16), .ref 109]) (E' := E) (I' := I) (J' := J) (S' := S) am_e200 rfl rfl rfl rfl ?_
      refine w_st (i' := 52) (ls' := [.ref 99, .int x1, .int x2, d3, .int x4]) (st' := [.int x1, .int (nI 4), .int (nI 16), .ref 109]) (E' := E) (I' := I) (J' := J) (S' := S) am_e200 rfl rfl rfl rfl ?_
      refine w_st (i' := 53) (ls' := [.ref 99, .int x1, .int x2, d3, .int x4]) (st' := [.int ((nI 4) + x1), .int (nI 16), .ref 109]) (E' := E) (I' := I) (J' := J) (S' := S) am_e200 rfl rfl rfl rfl ?_
      refine w_st (i' := 54) (ls' := [.ref 99, .int x1, .int x2, d3, .int x4]) (st' := [.int ((nI 16) * ((nI 4) + x1)), .ref 109]) (E' := E) (I' := I) (J' := J) (S' := S) am_e200 rfl rfl rfl rfl ?_
      refine w_st (i' := 55) (ls' := [.ref 99, .int x1, .int x2, d3, .int x4]) (st' := [.int x4, .int ((nI 16) * ((nI 4) + x1)), .ref 109]) (E' := E) (I' := I) (J' := J) (S' := S) am_e200 rfl rfl rfl rfl ?_
      refine w_st (i' := 56) (ls' := [.ref 99, .int x1, .int x2, d3, .int x4]) (st' := [.int (((nI 16) * ((nI 4) + x1)) + x4), .ref 109]) (E' := E) (I' := I) (J' := J) (S' := S) am_e200 rfl rfl rfl rfl ?_
      refine w_st (i' := 57) (ls' := [.ref 99, .int x1, .int x2, d3, .int x4]) (st' := [.ref 99, .int (((nI 16) * ((nI 4) + x1)) + x4), .ref 109]) (E' := E) (I' := I) (J' := J) (S' := S) am_e200 rfl rfl rfl rfl ?_
      refine w_st (i' := 58) (ls' := [.ref 99, .int x1, .int x2, d3, .int x4]) (st' := [.ref 115, .int (((nI 16) * ((nI 4) + x1)) + x4), .ref 109]) (E' := E) (I' := I) (J' := J) (S' := S) am_e200 rfl rfl rfl rfl ?_
      refine w_st (i' := 59) (ls' := [.ref 99, .int x1, .int x2, d3, .int x4]) (st' := [.int x4, .ref 115, .int (((nI 16) * ((nI 4) + x1)) + x4), .ref 109]) (E' := E) (I' := I) (J' := J) (S' := S) am_e200 rfl rfl rfl rfl ?_
      have hf1 := h.1
      replace h := h.2
      refine w_ia (k := 115) (n := 16) (jn := x4.toNatClampNeg) am_e200 rfl rfl (by decide) hf1 rfl ?_
      refine w_if1 am_e200 rfl rfl (fun c => ?_) (fun c => ?_)
      · replace h := h.2 (of_decide_eq_true c)
        refine w_st (i' := 64) (ls' := [.ref 99, .int x1, .int x2, d3, .int x4]) (st' := [.ref 99, .int (((nI 16) * ((nI 4) + x1)) + x4), .ref 109]) (E' := E) (I' := I) (J' := J) (S' := S) am_e200 rfl rfl rfl rfl ?_
        refine w_st (i' := 65) (ls' := [.ref 99, .int x1, .int x2, d3, .int x4]) (st' := [.ref 99, .ref 99, .int (((nI 16) * ((nI 4) + x1)) + x4), .ref 109]) (E' := E) (I' := I) (J' := J) (S' := S) am_e200 rfl rfl rfl rfl ?_
        refine w_st (i' := 66) (ls' := [.ref 99, .int x1, .int x2, d3, .int x4]) (st' := [.ref 114, .ref 99, .int (((nI 16) * ((nI 4) + x1)) + x4), .ref 109]) (E' := E) (I' := I) (J' := J) (S' := S) am_e200 rfl rfl rfl rfl ?_
        refine w_st (i' := 67) (ls' := [.ref 99, .int x1, .int x2, d3, .int x4]) (st' := [.int x4, .ref 114, .ref 99, .int (((nI 16) * ((nI 4) + x1)) + x4), .ref 109]) (E' := E) (I' := I) (J' := J) (S' := S) am_e200 rfl rfl rfl rfl ?_
        refine w_ia (k := 114) (n := 16) (jn := x4.toNatClampNeg) am_e200 rfl rfl (by decide) hf1 rfl ?_
        refine w_st (i' := 69) (ls' := [.ref 99, .int x1, .int x2, d3, .int x4]) (st' := [.ref 99, .int ((I 114) x4.toNatClampNeg), .ref 99, .int (((nI 16) * ((nI 4) + x1)) + x4), .ref 109]) (E' := E) (I' := I) (J' := J) (S' := S) am_e200 rfl rfl rfl rfl ?_
        refine w_st (i' := 70) (ls' := [.ref 99, .int x1, .int x2, d3, .int x4]) (st' := [.ref 115, .int ((I 114) x4.toNatClampNeg), .ref 99, .int (((nI 16) * ((nI 4) + x1)) + x4), .ref 109]) (E' := E) (I' := I) (J' := J) (S' := S) am_e200 rfl rfl rfl rfl ?_
        refine w_st (i' := 71) (ls' := [.ref 99, .int x1, .int x2, d3, .int x4]) (st' := [.int x4, .ref 115, .int ((I 114) x4.toNatClampNeg), .ref 99, .int (((nI 16) * ((nI 4) + x1)) + x4), .ref 109]) (E' := E) (I' := I) (J' := J) (S' := S) am_e200 rfl rfl rfl rfl ?_
        refine w_ia (k := 115) (n := 16) (jn := x4.toNatClampNeg) am_e200 rfl rfl (by decide) hf1 rfl ?_
        refine w_st (i' := 73) (ls' := [.ref 99, .int x1, .int x2, d3, .int x4]) (st' := [.int x2, .int ((I 115) x4.toNatClampNeg), .int ((I 114) x4.toNatClampNeg), .ref 99, .int (((nI 16) * ((nI 4) + x1)) + x4), .ref 109]) (E' := E) (I' := I) (J' := J) (S' := S) am_e200 rfl rfl rfl rfl ?_
        refine w_cI am_e200 rfl rfl (as := [.ref 99, .int ((I 114) x4.toNatClampNeg), .int ((I 115) x4.toNatClampNeg), .int x2]) (rest := [.int (((nI 16) * ((nI 4) + x1)) + x4), .ref 109]) rfl rfl (am_ww.mono h ?_)
        rintro _ E2 I2 J2 S2 ⟨v2, rfl, h⟩
        refine q_mkI ?_
        exact h
      · replace h := h.1 (Decidable.not_not.mp (of_decide_eq_false c))
        refine w_st (i' := 62) (ls' := [.ref 99, .int x1, .int x2, d3, .int x4]) (st' := [.int (-1), .int (((nI 16) * ((nI 4) + x1)) + x4), .ref 109]) (E' := E) (I' := I) (J' := J) (S' := S) am_e200 rfl rfl rfl rfl ?_
        refine w_st (i' := 74) (ls' := [.ref 99, .int x1, .int x2, d3, .int x4]) (st' := [.int (-1), .int (((nI 16) * ((nI 4) + x1)) + x4), .ref 109]) (E' := E) (I' := I) (J' := J) (S' := S) am_e200 rfl rfl rfl rfl ?_
        exact h
theorem g200_104 {x1 : Int32} {x2 : Int32} {d3 : Value} {d4 : Value} {E : am_Ev} {I : Nat → Nat → Int32} {J : Nat → Nat → Int64} {S : Nat → Nat → Option Nat} {Q : am_Qt} (hd3 : am_isL d3 = false) (hd4 : am_isL d4 = false) (h : vp_in ((nI 4) + x1) 8 ∧ (Q (.inl none) E (u_I (u_I I 105 (upd (I 105) (((nI 4) + x1).toNatClampNeg) x2)) 103 (upd (I 103) 9 (((I 103) 9) + (nI 1)))) J S)) : am_ww 200 104 [.ref 99, .int x1, .int x2, d3, d4] [] E I J S Q := by
  refine w_st (i' := 105) (ls' := [.ref 99, .int x1, .int x2, d3, d4]) (st' := [.ref 99]) (E' := E) (I' := I) (J' := J) (S' := S) am_e200 rfl rfl rfl rfl ?_
  refine w_st (i' := 106) (ls' := [.ref 99, .int x1, .int x2, d3, d4]) (st' := [.ref 105]) (E' := E) (I' := I) (J' := J) (S' := S) am_e200 rfl rfl rfl rfl ?_
  refine w_st (i' := 107) (ls' := [.ref 99, .int x1, .int x2, d3, d4]) (st' := [.int (nI 4), .ref 105]) (E' := E) (I' := I) (J' := J) (S' := S) am_e200 rfl rfl rfl rfl ?_
  refine w_st (i' := 108) (ls' := [.ref 99, .int x1, .int x2, d3, d4]) (st' := [.int x1, .int (nI 4), .ref 105]) (E' := E) (I' := I) (J' := J) (S' := S) am_e200 rfl rfl rfl rfl ?_
  refine w_st (i' := 109) (ls' := [.ref 99, .int x1, .int x2, d3, d4]) (st' := [.int ((nI 4) + x1), .ref 105]) (E' := E) (I' := I) (J' := J) (S' := S) am_e200 rfl rfl rfl rfl ?_
  refine w_st (i' := 110) (ls' := [.ref 99, .int x1, .int x2, d3, d4]) (st' := [.int x2, .int ((nI 4) + x1), .ref 105]) (E' := E) (I' := I) (J' := J) (S' := S) am_e200 rfl rfl rfl rfl ?_
  have hf1 := h.1
  replace h := h.2
  refine w_is (k := 105) (n := 8) (jn := ((nI 4) + x1).toNatClampNeg) am_e200 rfl rfl (by decide) hf1 rfl ?_
  show am_ww 200 111 [.ref 99, .int x1, .int x2, d3, d4] [] E (u_I I 105 (upd (I 105) (((nI 4) + x1).toNatClampNeg) x2)) J S _
  refine w_st (i' := 112) (ls' := [.ref 99, .int x1, .int x2, d3, d4]) (st' := [.ref 99]) (E' := E) (I' := (u_I I 105 (upd (I 105) (((nI 4) + x1).toNatClampNeg) x2))) (J' := J) (S' := S) am_e200 rfl rfl rfl rfl ?_
  refine w_st (i' := 113) (ls' := [.ref 99, .int x1, .int x2, d3, d4]) (st' := [.ref 103]) (E' := E) (I' := (u_I I 105 (upd (I 105) (((nI 4) + x1).toNatClampNeg) x2))) (J' := J) (S' := S) am_e200 rfl rfl rfl rfl ?_
  refine w_st (i' := 114) (ls' := [.ref 99, .int x1, .int x2, d3, d4]) (st' := [.int (nI 9), .ref 103]) (E' := E) (I' := (u_I I 105 (upd (I 105) (((nI 4) + x1).toNatClampNeg) x2))) (J' := J) (S' := S) am_e200 rfl rfl rfl rfl ?_
  refine w_st (i' := 115) (ls' := [.ref 99, .int x1, .int x2, d3, d4]) (st' := [.int (nI 9), .ref 103, .int (nI 9), .ref 103]) (E' := E) (I' := (u_I I 105 (upd (I 105) (((nI 4) + x1).toNatClampNeg) x2))) (J' := J) (S' := S) am_e200 rfl rfl rfl rfl ?_
  refine w_ia (k := 103) (n := 10) (jn := 9) am_e200 rfl rfl (by decide) (vp_in_nI (by decide) (by decide)) rfl ?_
  show am_ww 200 116 [.ref 99, .int x1, .int x2, d3, d4] [.int ((I 103) 9), .int (nI 9), .ref 103] E (u_I I 105 (upd (I 105) (((nI 4) + x1).toNatClampNeg) x2)) J S _
  refine w_st (i' := 117) (ls' := [.ref 99, .int x1, .int x2, d3, d4]) (st' := [.int (nI 1), .int ((I 103) 9), .int (nI 9), .ref 103]) (E' := E) (I' := (u_I I 105 (upd (I 105) (((nI 4) + x1).toNatClampNeg) x2))) (J' := J) (S' := S) am_e200 rfl rfl rfl rfl ?_
  refine w_st (i' := 118) (ls' := [.ref 99, .int x1, .int x2, d3, d4]) (st' := [.int (((I 103) 9) + (nI 1)), .int (nI 9), .ref 103]) (E' := E) (I' := (u_I I 105 (upd (I 105) (((nI 4) + x1).toNatClampNeg) x2))) (J' := J) (S' := S) am_e200 rfl rfl rfl rfl ?_
  refine w_is (k := 103) (n := 10) (jn := 9) am_e200 rfl rfl (by decide) (vp_in_nI (by decide) (by decide)) rfl ?_
  show am_ww 200 119 [.ref 99, .int x1, .int x2, d3, d4] [] E (u_I (u_I I 105 (upd (I 105) (((nI 4) + x1).toNatClampNeg) x2)) 103 (upd (I 103) 9 (((I 103) 9) + (nI 1)))) J S _
  exact w_end am_e200 rfl rfl rfl h
theorem g200_74 {x1 : Int32} {x2 : Int32} {d3 : Value} {x4 : Int32} {y0 : Int32} {y1 : Int32} {E : am_Ev} {I : Nat → Nat → Int32} {J : Nat → Nat → Int64} {S : Nat → Nat → Option Nat} {Q : am_Qt} (hd3 : am_isL d3 = false) (h : vp_in y1 128 ∧ (vp_in x4 16 ∧ ((((I 115) x4.toNatClampNeg) ≤ 0 → (am_ww 200 41 [.ref 99, .int x1, .int x2, d3, .int (x4 + nI 1)] [] E (u_I I 109 (upd (I 109) y1.toNatClampNeg y0)) J S Q)) ∧ (¬ ((I 115) x4.toNatClampNeg) ≤ 0 → (vp_in (((nI 16) * ((nI 4) + x1)) + x4) 128 ∧ ((((upd (I 109) y1.toNatClampNeg y0) ((((nI 16) * ((nI 4) + x1)) + x4).toNatClampNeg)) = (-1) → ((((I 99) 29) = (-1) → (am_ww 200 41 [.ref 99, .int x1, .int x2, d3, .int (x4 + nI 1)] [] E (u_I (u_I I 109 (upd (I 109) y1.toNatClampNeg y0)) 99 (upd (I 99) 29 ((I 114) x4.toNatClampNeg))) J S Q)) ∧ (¬ ((I 99) 29) = (-1) → (am_ww 200 41 [.ref 99, .int x1, .int x2, d3, .int (x4 + nI 1)] [] E (u_I I 109 (upd (I 109) y1.toNatClampNeg y0)) J S Q)))) ∧ (¬ ((upd (I 109) y1.toNatClampNeg y0) ((((nI 16) * ((nI 4) + x1)) + x4).toNatClampNeg)) = (-1) → (am_ww 200 41 [.ref 99, .int x1, .int x2, d3, .int (x4 + nI 1)] [] E (u_I I 109 (upd (I 109) y1.toNatClampNeg y0)) J S Q)))))))) : am_ww 200 74 [.ref 99, .int x1, .int x2, d3, .int x4] [.int y0, .int y1, .ref 109] E I J S Q := by
  have hf1 := h.1
  replace h := h.2
  refine w_is (k := 109) (n := 128) (jn := y1.toNatClampNeg) am_e200 rfl rfl (by decide) hf1 rfl ?_
  show am_ww 200 75 [.ref 99, .int x1, .int x2, d3, .int x4] [] E (u_I I 109 (upd (I 109) y1.toNatClampNeg y0)) J S _
  refine w_st (i' := 76) (ls' := [.ref 99, .int x1, .int x2, d3, .int x4]) (st' := [.ref 99]) (E' := E) (I' := (u_I I 109 (upd (I 109) y1.toNatClampNeg y0))) (J' := J) (S' := S) am_e200 rfl rfl rfl rfl ?_
  refine w_st (i' := 77) (ls' := [.ref 99, .int x1, .int x2, d3, .int x4]) (st' := [.ref 115]) (E' := E) (I' := (u_I I 109 (upd (I 109) y1.toNatClampNeg y0))) (J' := J) (S' := S) am_e200 rfl rfl rfl rfl ?_
  refine w_st (i' := 78) (ls' := [.ref 99, .int x1, .int x2, d3, .int x4]) (st' := [.int x4, .ref 115]) (E' := E) (I' := (u_I I 109 (upd (I 109) y1.toNatClampNeg y0))) (J' := J) (S' := S) am_e200 rfl rfl rfl rfl ?_
  have hf2 := h.1
  replace h := h.2
  refine w_ia (k := 115) (n := 16) (jn := x4.toNatClampNeg) am_e200 rfl rfl (by decide) hf2 rfl ?_
  show am_ww 200 79 [.ref 99, .int x1, .int x2, d3, .int x4] [.int ((I 115) x4.toNatClampNeg)] E (u_I I 109 (upd (I 109) y1.toNatClampNeg y0)) J S _
  refine w_if1 am_e200 rfl rfl (fun c => ?_) (fun c => ?_)
  · replace h := h.1 (of_decide_eq_true c)
    refine w_st (i' := 103) (ls' := [.ref 99, .int x1, .int x2, d3, .int (x4 + nI 1)]) (st' := []) (E' := E) (I' := (u_I I 109 (upd (I 109) y1.toNatClampNeg y0))) (J' := J) (S' := S) am_e200 rfl rfl rfl (by simp [am_step, am_sto, am_inc, hd3]) ?_
    refine w_st (i' := 41) (ls' := [.ref 99, .int x1, .int x2, d3, .int (x4 + nI 1)]) (st' := []) (E' := E) (I' := (u_I I 109 (upd (I 109) y1.toNatClampNeg y0))) (J' := J) (S' := S) am_e200 rfl rfl rfl rfl ?_
    exact h
  · replace h := h.2 (of_decide_eq_false c)
    refine w_st (i' := 81) (ls' := [.ref 99, .int x1, .int x2, d3, .int x4]) (st' := [.ref 99]) (E' := E) (I' := (u_I I 109 (upd (I 109) y1.toNatClampNeg y0))) (J' := J) (S' := S) am_e200 rfl rfl rfl rfl ?_
    refine w_st (i' := 82) (ls' := [.ref 99, .int x1, .int x2, d3, .int x4]) (st' := [.ref 109]) (E' := E) (I' := (u_I I 109 (upd (I 109) y1.toNatClampNeg y0))) (J' := J) (S' := S) am_e200 rfl rfl rfl rfl ?_
    refine w_st (i' := 83) (ls' := [.ref 99, .int x1, .int x2, d3, .int x4]) (st' := [.int (nI 16), .ref 109]) (E' := E) (I' := (u_I I 109 (upd (I 109) y1.toNatClampNeg y0))) (J' := J) (S' := S) am_e200 rfl rfl rfl rfl ?_
    refine w_st (i' := 84) (ls' := [.ref 99, .int x1, .int x2, d3, .int x4]) (st' := [.int (nI 4), .int (nI 16), .ref 109]) (E' := E) (I' := (u_I I 109 (upd (I 109) y1.toNatClampNeg y0))) (J' := J) (S' := S) am_e200 rfl rfl rfl rfl ?_
    refine w_st (i' := 85) (ls' := [.ref 99, .int x1, .int x2, d3, .int x4]) (st' := [.int x1, .int (nI 4), .int (nI 16), .ref 109]) (E' := E) (I' := (u_I I 109 (upd (I 109) y1.toNatClampNeg y0))) (J' := J) (S' := S) am_e200 rfl rfl rfl rfl ?_
    refine w_st (i' := 86) (ls' := [.ref 99, .int x1, .int x2, d3, .int x4]) (st' := [.int ((nI 4) + x1), .int (nI 16), .ref 109]) (E' := E) (I' := (u_I I 109 (upd (I 109) y1.toNatClampNeg y0))) (J' := J) (S' := S) am_e200 rfl rfl rfl rfl ?_
    refine w_st (i' := 87) (ls' := [.ref 99, .int x1, .int x2, d3, .int x4]) (st' := [.int ((nI 16) * ((nI 4) + x1)), .ref 109]) (E' := E) (I' := (u_I I 109 (upd (I 109) y1.toNatClampNeg y0))) (J' := J) (S' := S) am_e200 rfl rfl rfl rfl ?_
    refine w_st (i' := 88) (ls' := [.ref 99, .int x1, .int x2, d3, .int x4]) (st' := [.int x4, .int ((nI 16) * ((nI 4) + x1)), .ref 109]) (E' := E) (I' := (u_I I 109 (upd (I 109) y1.toNatClampNeg y0))) (J' := J) (S' := S) am_e200 rfl rfl rfl rfl ?_
    refine w_st (i' := 89) (ls' := [.ref 99, .int x1, .int x2, d3, .int x4]) (st' := [.int (((nI 16) * ((nI 4) + x1)) + x4), .ref 109]) (E' := E) (I' := (u_I I 109 (upd (I 109) y1.toNatClampNeg y0))) (J' := J) (S' := S) am_e200 rfl rfl rfl rfl ?_
    have hf3 := h.1
    replace h := h.2
    refine w_ia (k := 109) (n := 128) (jn := (((nI 16) * ((nI 4) + x1)) + x4).toNatClampNeg) am_e200 rfl rfl (by decide) hf3 rfl ?_
    show am_ww 200 90 [.ref 99, .int x1, .int x2, d3, .int x4] [.int ((upd (I 109) y1.toNatClampNeg y0) ((((nI 16) * ((nI 4) + x1)) + x4).toNatClampNeg))] E (u_I I 109 (upd (I 109) y1.toNatClampNeg y0)) J S _
    refine w_st (i' := 91) (ls' := [.ref 99, .int x1, .int x2, d3, .int x4]) (st' := [.int (-1), .int ((upd (I 109) y1.toNatClampNeg y0) ((((nI 16) * ((nI 4) + x1)) + x4).toNatClampNeg))]) (E' := E) (I' := (u_I I 109 (upd (I 109) y1.toNatClampNeg y0))) (J' := J) (S' := S) am_e200 rfl rfl rfl rfl ?_
    refine w_if2 am_e200 rfl rfl (fun c => ?_) (fun c => ?_)
    · replace h := h.2 (of_decide_eq_true c)
      refine w_st (i' := 103) (ls' := [.ref 99, .int x1, .int x2, d3, .int (x4 + nI 1)]) (st' := []) (E' := E) (I' := (u_I I 109 (upd (I 109) y1.toNatClampNeg y0))) (J' := J) (S' := S) am_e200 rfl rfl rfl (by simp [am_step, am_sto, am_inc, hd3]) ?_
      refine w_st (i' := 41) (ls' := [.ref 99, .int x1, .int x2, d3, .int (x4 + nI 1)]) (st' := []) (E' := E) (I' := (u_I I 109 (upd (I 109) y1.toNatClampNeg y0))) (J' := J) (S' := S) am_e200 rfl rfl rfl rfl ?_
      exact h
    · replace h := h.1 (Decidable.not_not.mp (of_decide_eq_false c))
      refine w_st (i' := 93) (ls' := [.ref 99, .int x1, .int x2, d3, .int x4]) (st' := [.ref 99]) (E' := E) (I' := (u_I I 109 (upd (I 109) y1.toNatClampNeg y0))) (J' := J) (S' := S) am_e200 rfl rfl rfl rfl ?_
      refine w_st (i' := 94) (ls' := [.ref 99, .int x1, .int x2, d3, .int x4]) (st' := [.int ((I 99) 29)]) (E' := E) (I' := (u_I I 109 (upd (I 109) y1.toNatClampNeg y0))) (J' := J) (S' := S) am_e200 rfl rfl rfl rfl ?_
      refine w_st (i' := 95) (ls' := [.ref 99, .int x1, .int x2, d3, .int x4]) (st' := [.int (-1), .int ((I 99) 29)]) (E' := E) (I' := (u_I I 109 (upd (I 109) y1.toNatClampNeg y0))) (J' := J) (S' := S) am_e200 rfl rfl rfl rfl ?_
      refine w_if2 am_e200 rfl rfl (fun c => ?_) (fun c => ?_)
      · replace h := h.2 (of_decide_eq_true c)
        refine w_st (i' := 103) (ls' := [.ref 99, .int x1, .int x2, d3, .int (x4 + nI 1)]) (st' := []) (E' := E) (I' := (u_I I 109 (upd (I 109) y1.toNatClampNeg y0))) (J' := J) (S' := S) am_e200 rfl rfl rfl (by simp [am_step, am_sto, am_inc, hd3]) ?_
        refine w_st (i' := 41) (ls' := [.ref 99, .int x1, .int x2, d3, .int (x4 + nI 1)]) (st' := []) (E' := E) (I' := (u_I I 109 (upd (I 109) y1.toNatClampNeg y0))) (J' := J) (S' := S) am_e200 rfl rfl rfl rfl ?_
        exact h
      · replace h := h.1 (Decidable.not_not.mp (of_decide_eq_false c))
        refine w_st (i' := 97) (ls' := [.ref 99, .int x1, .int x2, d3, .int x4]) (st' := [.ref 99]) (E' := E) (I' := (u_I I 109 (upd (I 109) y1.toNatClampNeg y0))) (J' := J) (S' := S) am_e200 rfl rfl rfl rfl ?_
        refine w_st (i' := 98) (ls' := [.ref 99, .int x1, .int x2, d3, .int x4]) (st' := [.ref 99, .ref 99]) (E' := E) (I' := (u_I I 109 (upd (I 109) y1.toNatClampNeg y0))) (J' := J) (S' := S) am_e200 rfl rfl rfl rfl ?_
        refine w_st (i' := 99) (ls' := [.ref 99, .int x1, .int x2, d3, .int x4]) (st' := [.ref 114, .ref 99]) (E' := E) (I' := (u_I I 109 (upd (I 109) y1.toNatClampNeg y0))) (J' := J) (S' := S) am_e200 rfl rfl rfl rfl ?_
        refine w_st (i' := 100) (ls' := [.ref 99, .int x1, .int x2, d3, .int x4]) (st' := [.int x4, .ref 114, .ref 99]) (E' := E) (I' := (u_I I 109 (upd (I 109) y1.toNatClampNeg y0))) (J' := J) (S' := S) am_e200 rfl rfl rfl rfl ?_
        refine w_ia (k := 114) (n := 16) (jn := x4.toNatClampNeg) am_e200 rfl rfl (by decide) hf2 rfl ?_
        show am_ww 200 101 [.ref 99, .int x1, .int x2, d3, .int x4] [.int ((I 114) x4.toNatClampNeg), .ref 99] E (u_I I 109 (upd (I 109) y1.toNatClampNeg y0)) J S _
        refine w_st (i' := 102) (ls' := [.ref 99, .int x1, .int x2, d3, .int x4]) (st' := []) (E' := E) (I' := (u_I (u_I I 109 (upd (I 109) y1.toNatClampNeg y0)) 99 (upd (I 99) 29 ((I 114) x4.toNatClampNeg)))) (J' := J) (S' := S) am_e200 rfl rfl rfl rfl ?_
        refine w_st (i' := 103) (ls' := [.ref 99, .int x1, .int x2, d3, .int (x4 + nI 1)]) (st' := []) (E' := E) (I' := (u_I (u_I I 109 (upd (I 109) y1.toNatClampNeg y0)) 99 (upd (I 99) 29 ((I 114) x4.toNatClampNeg)))) (J' := J) (S' := S) am_e200 rfl rfl rfl (by simp [am_step, am_sto, am_inc, hd3]) ?_
        refine w_st (i' := 41) (ls' := [.ref 99, .int x1, .int x2, d3, .int (x4 + nI 1)]) (st' := []) (E' := E) (I' := (u_I (u_I I 109 (upd (I 109) y1.toNatClampNeg y0)) 99 (upd (I 99) 29 ((I 114) x4.toNatClampNeg)))) (J' := J) (S' := S) am_e200 rfl rfl rfl rfl ?_
        exact h
-- 194 readClause
theorem g194_0 {p1 : Int32} {E : am_Ev} {I : Nat → Nat → Int32} {J : Nat → Nat → Int64} {S : Nat → Nat → Option Nat} {Q : am_Qt}  (h : am_cl 195 [.ref 99, .ref 100] E I J S (q_I fun v1 E1 I1 J1 S1 => ∀ w3 : Int32, w3 = (if v1 = (-1) then nI 0 else ((nI 1) <<< (v1 &&& 31))) → ((((I1 99) 18) = (nI 1) → (((p1 &&& w3) = 0 → (am_ww 194 28 [.ref 99, .int p1, .int v1, .int w3, am_U] [] E1 I1 J1 S1 Q)) ∧ (¬ (p1 &&& w3) = 0 → ((((I1 99) 22) = 0 → (am_ww 194 28 [.ref 99, .int p1, .int v1, .int w3, am_U] [] E1 (u_I I1 99 (upd (upd (I1 99) 22 (nI 5)) 23 ((I1 99) 20))) J1 S1 Q)) ∧ (¬ ((I1 99) 22) = 0 → (am_ww 194 28 [.ref 99, .int p1, .int v1, .int w3, am_U] [] E1 I1 J1 S1 Q)))))) ∧ (¬ ((I1 99) 18) = (nI 1) → ((((I1 99) 22) = 0 → (((p1 &&& w3) = 0 → (am_ww 194 28 [.ref 99, .int p1, .int v1, .int w3, am_U] [] E1 (u_I I1 99 (upd (upd (I1 99) 22 (nI 1)) 23 ((I1 99) 20))) J1 S1 Q)) ∧ (¬ (p1 &&& w3) = 0 → (am_ww 194 28 [.ref 99, .int p1, .int v1, .int w3, am_U] [] E1 (u_I I1 99 (upd (upd (I1 99) 22 (nI 1)) 23 ((I1 99) 20))) J1 S1 Q)))) ∧ (¬ ((I1 99) 22) = 0 → (((p1 &&& w3) = 0 → (am_ww 194 28 [.ref 99, .int p1, .int v1, .int w3, am_U] [] E1 I1 J1 S1 Q)) ∧ (¬ (p1 &&& w3) = 0 → ((((I1 99) 22) = 0 → (am_ww 194 28 [.ref 99, .int p1, .int v1, .int w3, am_U] [] E1 (u_I I1 99 (upd (upd (I1 99) 22 (nI 5)) 23 ((I1 99) 20))) J1 S1 Q)) ∧ (¬ ((I1 99) 22) = 0 → (am_ww 194 28 [.ref 99, .int p1, .int v1, .int w3, am_U] [] E1 I1 J1 S1 Q))))))))))) : am_ww 194 0 [.ref 99, .int p1, am_U, am_U, am_U] [] E I J S Q := by
  refine w_st (i' := 1) (ls' := [.ref 99, .int p1, am_U, am_U, am_U]) (st' := [.ref 99]) (E' := E) (I' := I) (J' := J) (S' := S) am_e194 rfl rfl rfl rfl ?_
  refine w_st (i' := 2) (ls' := [.ref 99, .int p1, am_U, am_U, am_U]) (st' := [.ref 99, .ref 99]) (E' := E) (I' := I) (J' := J) (S' := S) am_e194 rfl rfl rfl rfl ?_
  refine w_st (i' := 3) (ls' := [.ref 99, .int p1, am_U, am_U, am_U]) (st' := [.ref 100, .ref 99]) (E' := E) (I' := I) (J' := J) (S' := S) am_e194 rfl rfl rfl rfl ?_
  refine w_cI am_e194 rfl rfl (as := [.ref 99, .ref 100]) (rest := []) rfl rfl (am_ww.mono h ?_)
  rintro _ E1 I1 J1 S1 ⟨v1, rfl, h⟩
  refine q_mkI ?_
  refine w_st (i' := 5) (ls' := [.ref 99, .int p1, .int v1, am_U, am_U]) (st' := []) (E' := E1) (I' := I1) (J' := J1) (S' := S1) am_e194 rfl rfl rfl rfl ?_
  refine w_st (i' := 6) (ls' := [.ref 99, .int p1, .int v1, am_U, am_U]) (st' := [.int v1]) (E' := E1) (I' := I1) (J' := J1) (S' := S1) am_e194 rfl rfl rfl rfl ?_
  refine w_st (i' := 7) (ls' := [.ref 99, .int p1, .int v1, am_U, am_U]) (st' := [.int (-1), .int v1]) (E' := E1) (I' := I1) (J' := J1) (S' := S1) am_e194 rfl rfl rfl rfl ?_
  refine w_mg (i := 13) (ls' := [.ref 99, .int p1, .int v1, am_U, am_U]) (st' := [.int (if v1 = (-1) then nI 0 else ((nI 1) <<< (v1 &&& 31)))]) (fun hm => ?_) ?_
  · clear h
    refine w_if2 am_e194 rfl rfl (fun c => ?_) (fun c => ?_)
    · have m2 : ¬ (v1 = (-1)) := (of_decide_eq_true c)
      refine w_st (i' := 11) (ls' := [.ref 99, .int p1, .int v1, am_U, am_U]) (st' := [.int (nI 1)]) (E' := E1) (I' := I1) (J' := J1) (S' := S1) am_e194 rfl rfl rfl rfl ?_
      refine w_st (i' := 12) (ls' := [.ref 99, .int p1, .int v1, am_U, am_U]) (st' := [.int v1, .int (nI 1)]) (E' := E1) (I' := I1) (J' := J1) (S' := S1) am_e194 rfl rfl rfl rfl ?_
      refine w_st (i' := 13) (ls' := [.ref 99, .int p1, .int v1, am_U, am_U]) (st' := [.int ((nI 1) <<< (v1 &&& 31))]) (E' := E1) (I' := I1) (J' := J1) (S' := S1) am_e194 rfl rfl rfl rfl ?_
      first | exact hm | (simp only [if_neg m2] at hm; exact hm)
    · have m2 : v1 = (-1) := (Decidable.not_not.mp (of_decide_eq_false c))
      refine w_st (i' := 9) (ls' := [.ref 99, .int p1, .int v1, am_U, am_U]) (st' := [.int (nI 0)]) (E' := E1) (I' := I1) (J' := J1) (S' := S1) am_e194 rfl rfl rfl rfl ?_
      refine w_st (i' := 13) (ls' := [.ref 99, .int p1, .int v1, am_U, am_U]) (st' := [.int (nI 0)]) (E' := E1) (I' := I1) (J' := J1) (S' := S1) am_e194 rfl rfl rfl rfl ?_
      first | exact hm | (simp only [if_pos m2] at hm; exact hm)
  refine w_var (fun w3 => am_ww 194 13 [.ref 99, .int p1, .int v1, am_U, am_U] [.int w3] E1 I1 J1 S1 _) (if v1 = (-1) then nI 0 else ((nI 1) <<< (v1 &&& 31))) (fun w3 hw3 => ?_)
  replace h := h w3 hw3
  refine w_st (i' := 14) (ls' := [.ref 99, .int p1, .int v1, .int w3, am_U]) (st' := []) (E' := E1) (I' := I1) (J' := J1) (S' := S1) am_e194 rfl rfl rfl rfl ?_
  refine w_st (i' := 15) (ls' := [.ref 99, .int p1, .int v1, .int w3, am_U]) (st' := [.ref 99]) (E' := E1) (I' := I1) (J' := J1) (S' := S1) am_e194 rfl rfl rfl rfl ?_
  refine w_st (i' := 16) (ls' := [.ref 99, .int p1, .int v1, .int w3, am_U]) (st' := [.int ((I1 99) 18)]) (E' := E1) (I' := I1) (J' := J1) (S' := S1) am_e194 rfl rfl rfl rfl ?_
  refine w_st (i' := 17) (ls' := [.ref 99, .int p1, .int v1, .int w3, am_U]) (st' := [.int (nI 1), .int ((I1 99) 18)]) (E' := E1) (I' := I1) (J' := J1) (S' := S1) am_e194 rfl rfl rfl rfl ?_
  refine w_if2 am_e194 rfl rfl (fun c => ?_) (fun c => ?_)
  · replace h := h.1 (of_decide_eq_true c)
    refine w_st (i' := 22) (ls' := [.ref 99, .int p1, .int v1, .int w3, am_U]) (st' := [.int p1]) (E' := E1) (I' := I1) (J' := J1) (S' := S1) am_e194 rfl rfl rfl rfl ?_
    refine w_st (i' := 23) (ls' := [.ref 99, .int p1, .int v1, .int w3, am_U]) (st' := [.int w3, .int p1]) (E' := E1) (I' := I1) (J' := J1) (S' := S1) am_e194 rfl rfl rfl rfl ?_
    refine w_st (i' := 24) (ls' := [.ref 99, .int p1, .int v1, .int w3, am_U]) (st' := [.int (p1 &&& w3)]) (E' := E1) (I' := I1) (J' := J1) (S' := S1) am_e194 rfl rfl rfl rfl ?_
    refine w_if1 am_e194 rfl rfl (fun c => ?_) (fun c => ?_)
    · replace h := h.1 (of_decide_eq_true c)
      exact h
    · replace h := h.2 (of_decide_eq_false c)
      refine w_st (i' := 26) (ls' := [.ref 99, .int p1, .int v1, .int w3, am_U]) (st' := [.ref 99]) (E' := E1) (I' := I1) (J' := J1) (S' := S1) am_e194 rfl rfl rfl rfl ?_
      refine w_st (i' := 27) (ls' := [.ref 99, .int p1, .int v1, .int w3, am_U]) (st' := [.int (nI 5), .ref 99]) (E' := E1) (I' := I1) (J' := J1) (S' := S1) am_e194 rfl rfl rfl rfl ?_
      refine w_cV am_e194 rfl rfl (as := [.ref 99, .int (nI 5)]) (rest := []) rfl rfl ?_
      show am_ww 197 0 [.ref 99, .int (nI 5)] [] E1 I1 J1 S1 _
      refine w_st (i' := 1) (ls' := [.ref 99, .int (nI 5)]) (st' := [.ref 99]) (E' := E1) (I' := I1) (J' := J1) (S' := S1) am_e197 rfl rfl rfl rfl ?_
      refine w_st (i' := 2) (ls' := [.ref 99, .int (nI 5)]) (st' := [.int ((I1 99) 22)]) (E' := E1) (I' := I1) (J' := J1) (S' := S1) am_e197 rfl rfl rfl rfl ?_
      refine w_if1 am_e197 rfl rfl (fun c => ?_) (fun c => ?_)
      · replace h := h.1 (of_decide_eq_true c)
        refine w_st (i' := 5) (ls' := [.ref 99, .int (nI 5)]) (st' := [.ref 99]) (E' := E1) (I' := I1) (J' := J1) (S' := S1) am_e197 rfl rfl rfl rfl ?_
        refine w_st (i' := 6) (ls' := [.ref 99, .int (nI 5)]) (st' := [.int (nI 5), .ref 99]) (E' := E1) (I' := I1) (J' := J1) (S' := S1) am_e197 rfl rfl rfl rfl ?_
        refine w_st (i' := 7) (ls' := [.ref 99, .int (nI 5)]) (st' := []) (E' := E1) (I' := (u_I I1 99 (upd (I1 99) 22 (nI 5)))) (J' := J1) (S' := S1) am_e197 rfl rfl rfl rfl ?_
        refine w_st (i' := 8) (ls' := [.ref 99, .int (nI 5)]) (st' := [.ref 99]) (E' := E1) (I' := (u_I I1 99 (upd (I1 99) 22 (nI 5)))) (J' := J1) (S' := S1) am_e197 rfl rfl rfl rfl ?_
        refine w_st (i' := 9) (ls' := [.ref 99, .int (nI 5)]) (st' := [.ref 99, .ref 99]) (E' := E1) (I' := (u_I I1 99 (upd (I1 99) 22 (nI 5)))) (J' := J1) (S' := S1) am_e197 rfl rfl rfl rfl ?_
        refine w_st (i' := 10) (ls' := [.ref 99, .int (nI 5)]) (st' := [.int ((I1 99) 20), .ref 99]) (E' := E1) (I' := (u_I I1 99 (upd (I1 99) 22 (nI 5)))) (J' := J1) (S' := S1) am_e197 rfl rfl rfl rfl ?_
        refine w_st (i' := 11) (ls' := [.ref 99, .int (nI 5)]) (st' := []) (E' := E1) (I' := (u_I (u_I I1 99 (upd (I1 99) 22 (nI 5))) 99 (upd (upd (I1 99) 22 (nI 5)) 23 ((I1 99) 20)))) (J' := J1) (S' := S1) am_e197 rfl rfl rfl rfl ?_
        refine w_eI (uI_0 ..) ?_
        show am_ww 197 11 [.ref 99, .int (nI 5)] [] E1 (u_I I1 99 (upd (upd (I1 99) 22 (nI 5)) 23 ((I1 99) 20))) J1 S1 _
        refine w_end (E' := E1) (I' := (u_I I1 99 (upd (upd (I1 99) 22 (nI 5)) 23 ((I1 99) 20)))) (J' := J1) (S' := S1) am_e197 rfl rfl rfl (q_mkV ?_)
        show am_ww 194 28 [.ref 99, .int p1, .int v1, .int w3, am_U] [] E1 (u_I I1 99 (upd (upd (I1 99) 22 (nI 5)) 23 ((I1 99) 20))) J1 S1 _
        exact h
      · replace h := h.2 (of_decide_eq_false c)
        refine w_end (E' := E1) (I' := I1) (J' := J1) (S' := S1) am_e197 rfl rfl rfl (q_mkV ?_)
        show am_ww 194 28 [.ref 99, .int p1, .int v1, .int w3, am_U] [] E1 I1 J1 S1 _
        exact h
  · replace h := h.2 (of_decide_eq_false c)
    refine w_st (i' := 19) (ls' := [.ref 99, .int p1, .int v1, .int w3, am_U]) (st' := [.ref 99]) (E' := E1) (I' := I1) (J' := J1) (S' := S1) am_e194 rfl rfl rfl rfl ?_
    refine w_st (i' := 20) (ls' := [.ref 99, .int p1, .int v1, .int w3, am_U]) (st' := [.int (nI 1), .ref 99]) (E' := E1) (I' := I1) (J' := J1) (S' := S1) am_e194 rfl rfl rfl rfl ?_
    refine w_cV am_e194 rfl rfl (as := [.ref 99, .int (nI 1)]) (rest := []) rfl rfl ?_
    show am_ww 197 0 [.ref 99, .int (nI 1)] [] E1 I1 J1 S1 _
    refine w_st (i' := 1) (ls' := [.ref 99, .int (nI 1)]) (st' := [.ref 99]) (E' := E1) (I' := I1) (J' := J1) (S' := S1) am_e197 rfl rfl rfl rfl ?_
    refine w_st (i' := 2) (ls' := [.ref 99, .int (nI 1)]) (st' := [.int ((I1 99) 22)]) (E' := E1) (I' := I1) (J' := J1) (S' := S1) am_e197 rfl rfl rfl rfl ?_
    refine w_if1 am_e197 rfl rfl (fun c => ?_) (fun c => ?_)
    · replace h := h.1 (of_decide_eq_true c)
      refine w_st (i' := 5) (ls' := [.ref 99, .int (nI 1)]) (st' := [.ref 99]) (E' := E1) (I' := I1) (J' := J1) (S' := S1) am_e197 rfl rfl rfl rfl ?_
      refine w_st (i' := 6) (ls' := [.ref 99, .int (nI 1)]) (st' := [.int (nI 1), .ref 99]) (E' := E1) (I' := I1) (J' := J1) (S' := S1) am_e197 rfl rfl rfl rfl ?_
      refine w_st (i' := 7) (ls' := [.ref 99, .int (nI 1)]) (st' := []) (E' := E1) (I' := (u_I I1 99 (upd (I1 99) 22 (nI 1)))) (J' := J1) (S' := S1) am_e197 rfl rfl rfl rfl ?_
      refine w_st (i' := 8) (ls' := [.ref 99, .int (nI 1)]) (st' := [.ref 99]) (E' := E1) (I' := (u_I I1 99 (upd (I1 99) 22 (nI 1)))) (J' := J1) (S' := S1) am_e197 rfl rfl rfl rfl ?_
      refine w_st (i' := 9) (ls' := [.ref 99, .int (nI 1)]) (st' := [.ref 99, .ref 99]) (E' := E1) (I' := (u_I I1 99 (upd (I1 99) 22 (nI 1)))) (J' := J1) (S' := S1) am_e197 rfl rfl rfl rfl ?_
      refine w_st (i' := 10) (ls' := [.ref 99, .int (nI 1)]) (st' := [.int ((I1 99) 20), .ref 99]) (E' := E1) (I' := (u_I I1 99 (upd (I1 99) 22 (nI 1)))) (J' := J1) (S' := S1) am_e197 rfl rfl rfl rfl ?_
      refine w_st (i' := 11) (ls' := [.ref 99, .int (nI 1)]) (st' := []) (E' := E1) (I' := (u_I (u_I I1 99 (upd (I1 99) 22 (nI 1))) 99 (upd (upd (I1 99) 22 (nI 1)) 23 ((I1 99) 20)))) (J' := J1) (S' := S1) am_e197 rfl rfl rfl rfl ?_
      refine w_eI (uI_0 ..) ?_
      show am_ww 197 11 [.ref 99, .int (nI 1)] [] E1 (u_I I1 99 (upd (upd (I1 99) 22 (nI 1)) 23 ((I1 99) 20))) J1 S1 _
      refine w_end (E' := E1) (I' := (u_I I1 99 (upd (upd (I1 99) 22 (nI 1)) 23 ((I1 99) 20)))) (J' := J1) (S' := S1) am_e197 rfl rfl rfl (q_mkV ?_)
      show am_ww 194 21 [.ref 99, .int p1, .int v1, .int w3, am_U] [] E1 (u_I I1 99 (upd (upd (I1 99) 22 (nI 1)) 23 ((I1 99) 20))) J1 S1 _
      refine w_st (i' := 22) (ls' := [.ref 99, .int p1, .int v1, .int w3, am_U]) (st' := [.int p1]) (E' := E1) (I' := (u_I I1 99 (upd (upd (I1 99) 22 (nI 1)) 23 ((I1 99) 20)))) (J' := J1) (S' := S1) am_e194 rfl rfl rfl rfl ?_
      refine w_st (i' := 23) (ls' := [.ref 99, .int p1, .int v1, .int w3, am_U]) (st' := [.int w3, .int p1]) (E' := E1) (I' := (u_I I1 99 (upd (upd (I1 99) 22 (nI 1)) 23 ((I1 99) 20)))) (J' := J1) (S' := S1) am_e194 rfl rfl rfl rfl ?_
      refine w_st (i' := 24) (ls' := [.ref 99, .int p1, .int v1, .int w3, am_U]) (st' := [.int (p1 &&& w3)]) (E' := E1) (I' := (u_I I1 99 (upd (upd (I1 99) 22 (nI 1)) 23 ((I1 99) 20)))) (J' := J1) (S' := S1) am_e194 rfl rfl rfl rfl ?_
      refine w_if1 am_e194 rfl rfl (fun c => ?_) (fun c => ?_)
      · replace h := h.1 (of_decide_eq_true c)
        exact h
      · replace h := h.2 (of_decide_eq_false c)
        refine w_st (i' := 26) (ls' := [.ref 99, .int p1, .int v1, .int w3, am_U]) (st' := [.ref 99]) (E' := E1) (I' := (u_I I1 99 (upd (upd (I1 99) 22 (nI 1)) 23 ((I1 99) 20)))) (J' := J1) (S' := S1) am_e194 rfl rfl rfl rfl ?_
        refine w_st (i' := 27) (ls' := [.ref 99, .int p1, .int v1, .int w3, am_U]) (st' := [.int (nI 5), .ref 99]) (E' := E1) (I' := (u_I I1 99 (upd (upd (I1 99) 22 (nI 1)) 23 ((I1 99) 20)))) (J' := J1) (S' := S1) am_e194 rfl rfl rfl rfl ?_
        refine w_cV am_e194 rfl rfl (as := [.ref 99, .int (nI 5)]) (rest := []) rfl rfl ?_
        show am_ww 197 0 [.ref 99, .int (nI 5)] [] E1 (u_I I1 99 (upd (upd (I1 99) 22 (nI 1)) 23 ((I1 99) 20))) J1 S1 _
        refine w_st (i' := 1) (ls' := [.ref 99, .int (nI 5)]) (st' := [.ref 99]) (E' := E1) (I' := (u_I I1 99 (upd (upd (I1 99) 22 (nI 1)) 23 ((I1 99) 20)))) (J' := J1) (S' := S1) am_e197 rfl rfl rfl rfl ?_
        refine w_st (i' := 2) (ls' := [.ref 99, .int (nI 5)]) (st' := [.int (nI 1)]) (E' := E1) (I' := (u_I I1 99 (upd (upd (I1 99) 22 (nI 1)) 23 ((I1 99) 20)))) (J' := J1) (S' := S1) am_e197 rfl rfl rfl rfl ?_
        refine w_st (i' := 3) (ls' := [.ref 99, .int (nI 5)]) (st' := []) (E' := E1) (I' := (u_I I1 99 (upd (upd (I1 99) 22 (nI 1)) 23 ((I1 99) 20)))) (J' := J1) (S' := S1) am_e197 rfl rfl rfl rfl ?_
        refine w_end (E' := E1) (I' := (u_I I1 99 (upd (upd (I1 99) 22 (nI 1)) 23 ((I1 99) 20)))) (J' := J1) (S' := S1) am_e197 rfl rfl rfl (q_mkV ?_)
        show am_ww 194 28 [.ref 99, .int p1, .int v1, .int w3, am_U] [] E1 (u_I I1 99 (upd (upd (I1 99) 22 (nI 1)) 23 ((I1 99) 20))) J1 S1 _
        exact h
    · replace h := h.2 (of_decide_eq_false c)
      refine w_end (E' := E1) (I' := I1) (J' := J1) (S' := S1) am_e197 rfl rfl rfl (q_mkV ?_)
      show am_ww 194 21 [.ref 99, .int p1, .int v1, .int w3, am_U] [] E1 I1 J1 S1 _
      refine w_st (i' := 22) (ls' := [.ref 99, .int p1, .int v1, .int w3, am_U]) (st' := [.int p1]) (E' := E1) (I' := I1) (J' := J1) (S' := S1) am_e194 rfl rfl rfl rfl ?_
      refine w_st (i' := 23) (ls' := [.ref 99, .int p1, .int v1, .int w3, am_U]) (st' := [.int w3, .int p1]) (E' := E1) (I' := I1) (J' := J1) (S' := S1) am_e194 rfl rfl rfl rfl ?_
      refine w_st (i' := 24) (ls' := [.ref 99, .int p1, .int v1, .int w3, am_U]) (st' := [.int (p1 &&& w3)]) (E' := E1) (I' := I1) (J' := J1) (S' := S1) am_e194 rfl rfl rfl rfl ?_
      refine w_if1 am_e194 rfl rfl (fun c => ?_) (fun c => ?_)
      · replace h := h.1 (of_decide_eq_true c)
        exact h
      · replace h := h.2 (of_decide_eq_false c)
        refine w_st (i' := 26) (ls' := [.ref 99, .int p1, .int v1, .int w3, am_U]) (st' := [.ref 99]) (E' := E1) (I' := I1) (J' := J1) (S' := S1) am_e194 rfl rfl rfl rfl ?_
        refine w_st (i' := 27) (ls' := [.ref 99, .int p1, .int v1, .int w3, am_U]) (st' := [.int (nI 5), .ref 99]) (E' := E1) (I' := I1) (J' := J1) (S' := S1) am_e194 rfl rfl rfl rfl ?_
        refine w_cV am_e194 rfl rfl (as := [.ref 99, .int (nI 5)]) (rest := []) rfl rfl ?_
        show am_ww 197 0 [.ref 99, .int (nI 5)] [] E1 I1 J1 S1 _
        refine w_st (i' := 1) (ls' := [.ref 99, .int (nI 5)]) (st' := [.ref 99]) (E' := E1) (I' := I1) (J' := J1) (S' := S1) am_e197 rfl rfl rfl rfl ?_
        refine w_st (i' := 2) (ls' := [.ref 99, .int (nI 5)]) (st' := [.int ((I1 99) 22)]) (E' := E1) (I' := I1) (J' := J1) (S' := S1) am_e197 rfl rfl rfl rfl ?_
        refine w_if1 am_e197 rfl rfl (fun c => ?_) (fun c => ?_)
        · replace h := h.1 (of_decide_eq_true c)
          refine w_st (i' := 5) (ls' := [.ref 99, .int (nI 5)]) (st' := [.ref 99]) (E' := E1) (I' := I1) (J' := J1) (S' := S1) am_e197 rfl rfl rfl rfl ?_
          refine w_st (i' := 6) (ls' := [.ref 99, .int (nI 5)]) (st' := [.int (nI 5), .ref 99]) (E' := E1) (I' := I1) (J' := J1) (S' := S1) am_e197 rfl rfl rfl rfl ?_
          refine w_st (i' := 7) (ls' := [.ref 99, .int (nI 5)]) (st' := []) (E' := E1) (I' := (u_I I1 99 (upd (I1 99) 22 (nI 5)))) (J' := J1) (S' := S1) am_e197 rfl rfl rfl rfl ?_
          refine w_st (i' := 8) (ls' := [.ref 99, .int (nI 5)]) (st' := [.ref 99]) (E' := E1) (I' := (u_I I1 99 (upd (I1 99) 22 (nI 5)))) (J' := J1) (S' := S1) am_e197 rfl rfl rfl rfl ?_
          refine w_st (i' := 9) (ls' := [.ref 99, .int (nI 5)]) (st' := [.ref 99, .ref 99]) (E' := E1) (I' := (u_I I1 99 (upd (I1 99) 22 (nI 5)))) (J' := J1) (S' := S1) am_e197 rfl rfl rfl rfl ?_
          refine w_st (i' := 10) (ls' := [.ref 99, .int (nI 5)]) (st' := [.int ((I1 99) 20), .ref 99]) (E' := E1) (I' := (u_I I1 99 (upd (I1 99) 22 (nI 5)))) (J' := J1) (S' := S1) am_e197 rfl rfl rfl rfl ?_
          refine w_st (i' := 11) (ls' := [.ref 99, .int (nI 5)]) (st' := []) (E' := E1) (I' := (u_I (u_I I1 99 (upd (I1 99) 22 (nI 5))) 99 (upd (upd (I1 99) 22 (nI 5)) 23 ((I1 99) 20)))) (J' := J1) (S' := S1) am_e197 rfl rfl rfl rfl ?_
          refine w_eI (uI_0 ..) ?_
          show am_ww 197 11 [.ref 99, .int (nI 5)] [] E1 (u_I I1 99 (upd (upd (I1 99) 22 (nI 5)) 23 ((I1 99) 20))) J1 S1 _
          refine w_end (E' := E1) (I' := (u_I I1 99 (upd (upd (I1 99) 22 (nI 5)) 23 ((I1 99) 20)))) (J' := J1) (S' := S1) am_e197 rfl rfl rfl (q_mkV ?_)
          show am_ww 194 28 [.ref 99, .int p1, .int v1, .int w3, am_U] [] E1 (u_I I1 99 (upd (upd (I1 99) 22 (nI 5)) 23 ((I1 99) 20))) J1 S1 _
          exact h
        · replace h := h.2 (of_decide_eq_false c)
          refine w_end (E' := E1) (I' := I1) (J' := J1) (S' := S1) am_e197 rfl rfl rfl (q_mkV ?_)
          show am_ww 194 28 [.ref 99, .int p1, .int v1, .int w3, am_U] [] E1 I1 J1 S1 _
          exact h
theorem g194_28 {x1 : Int32} {x2 : Int32} {x3 : Int32} {d4 : Value} {E : am_Ev} {I : Nat → Nat → Int32} {J : Nat → Nat → Int64} {S : Nat → Nat → Option Nat} {Q : am_Qt} (hd4 : am_isL d4 = false) (h : (((I 99) 22) = 0 → ((x2 = (-1) → (am_cl 196 [.ref 99, .ref 2000041] E I J S (q_I fun v1 E1 I1 J1 S1 => (v1 = 0 → (am_cl 196 [.ref 99, .ref 2000040] E1 I1 J1 S1 (q_I fun v2 E2 I2 J2 S2 => (v2 = 0 → ((((I2 99) 22) = 0 → (am_cl 206 [.ref 99, .int (nI 59)] E2 (u_I I2 99 (upd (upd (I2 99) 22 (nI 1)) 23 ((I2 99) 20))) J2 S2 (q_V fun E3 I3 J3 S3 => Q (.inl (some (.int (x1 ||| x3)))) E3 I3 J3 S3))) ∧ (¬ ((I2 99) 22) = 0 → (am_cl 206 [.ref 99, .int (nI 59)] E2 I2 J2 S2 (q_V fun E4 I4 J4 S4 => Q (.inl (some (.int (x1 ||| x3)))) E4 I4 J4 S4))))) ∧ (¬ v2 = 0 → (am_cl 190 [.ref 99] E2 I2 J2 S2 (q_V fun E5 I5 J5 S5 => am_cl 199 [.ref 99, .int (nI 0), .int (nI 15)] E5 I5 J5 S5 (q_I fun v6 E6 I6 J6 S6 => ((x1 &&& ((nI 16) <<< (v6 &&& 31))) = 0 → ((((I6 99) 22) = 0 → (am_cl 190 [.ref 99] E6 I6 J6 S6 (q_V fun E7 I7 J7 S7 => am_ww 194 107 [.ref 99, .int x1, .int x2, .int ((nI 16) <<< (v6 &&& 31)), .int v6] [] E7 I7 J7 S7 Q))) ∧ (¬ ((I6 99) 22) = 0 → (am_ww 194 107 [.ref 99, .int x1, .int x2, .int ((nI 16) <<< (v6 &&& 31)), .int v6] [] E6 I6 J6 S6 Q)))) ∧ (¬ (x1 &&& ((nI 16) <<< (v6 &&& 31))) = 0 → ((((I6 99) 22) = 0 → (am_ww 194 107 [.ref 99, .int x1, .int x2, .int ((nI 16) <<< (v6 &&& 31)), .int v6] [] E6 (u_I I6 99 (upd (upd (I6 99) 22 (nI 5)) 23 ((I6 99) 20))) J6 S6 Q)) ∧ (¬ ((I6 99) 22) = 0 → ((((I6 99) 22) = 0 → (am_cl 190 [.ref 99] E6 I6 J6 S6 (q_V fun E8 I8 J8 S8 => am_ww 194 107 [.ref 99, .int x1, .int x2, .int ((nI 16) <<< (v6 &&& 31)), .int v6] [] E8 I8 J8 S8 Q))) ∧ (¬ ((I6 99) 22) = 0 → (am_ww 194 107 [.ref 99, .int x1, .int x2, .int ((nI 16) <<< (v6 &&& 31)), .int v6] [] E6 I6 J6 S6 Q))))))))))))) ∧ (¬ v1 = 0 → (am_cl 200 [.ref 99] E1 I1 J1 S1 (q_V fun E9 I9 J9 S9 => am_cl 206 [.ref 99, .int (nI 59)] E9 I9 J9 S9 (q_V fun E10 I10 J10 S10 => Q (.inl (some (.int (x1 ||| x3)))) E10 I10 J10 S10))))))) ∧ (¬ x2 = (-1) → (am_cl 190 [.ref 99] E I J S (q_V fun E11 I11 J11 S11 => ∀ w14 : Int32, w14 = (if x2 = (nI 1) then nI 0 else (if x2 = (nI 3) then nI 2 else nI 1)) → (∀ w18 : Int32, w18 = (if x2 = 0 then nI 9 else (if x2 = (nI 1) then nI 9999 else (if x2 = (nI 2) then nI 50 else nI 8))) → (am_cl 198 [.ref 99, .int w14, .int w18] E11 I11 J11 S11 (q_I fun v19 E19 I19 J19 S19 => vp_in ((nI 5) + x2) 10 ∧ (am_cl 206 [.ref 99, .int (nI 59)] E19 (u_I I19 103 (upd (I19 103) (((nI 5) + x2).toNatClampNeg) v19)) J19 S19 (q_V fun E21 I21 J21 S21 => Q (.inl (some (.int (x1 ||| x3)))) E21 I21 J21 S21)))))))))) ∧ (¬ ((I 99) 22) = 0 → (Q (.inl (some (.int x1))) E I J S))) : am_ww 194 28 [.ref 99, .int x1, .int x2, .int x3, d4] [] E I J S Q := by
  refine w_st (i' := 29) (ls' := [.ref 99, .int x1, .int x2, .int x3, d4]) (st' := [.ref 99]) (E' := E) (I' := I) (J' := J) (S' := S) am_e194 rfl rfl rfl rfl ?_
  refine w_st (i' := 30) (ls' := [.ref 99, .int x1, .int x2, .int x3, d4]) (st' := [.int ((I 99) 22)]) (E' := E) (I' := I) (J' := J) (S' := S) am_e194 rfl rfl rfl rfl ?_
  refine w_if1 am_e194 rfl rfl (fun c => ?_) (fun c => ?_)
  · replace h := h.1 (of_decide_eq_true c)
    refine w_st (i' := 34) (ls' := [.ref 99, .int x1, .int x2, .int x3, d4]) (st' := [.int x2]) (E' := E) (I' := I) (J' := J) (S' := S) am_e194 rfl rfl rfl rfl ?_
    refine w_st (i' := 35) (ls' := [.ref 99, .int x1, .int x2, .int x3, d4]) (st' := [.int (-1), .int x2]) (E' := E) (I' := I) (J' := J) (S' := S) am_e194 rfl rfl rfl rfl ?_
    refine w_if2 am_e194 rfl rfl (fun c => ?_) (fun c => ?_)
    · replace h := h.1 (of_decide_eq_true c)
      refine w_st (i' := 74) (ls' := [.ref 99, .int x1, .int x2, .int x3, d4]) (st' := [.ref 99]) (E' := E) (I' := I) (J' := J) (S' := S) am_e194 rfl rfl rfl rfl ?_
      refine w_st (i' := 75) (ls' := [.ref 99, .int x1, .int x2, .int x3, d4]) (st' := [.ref 2000041, .ref 99]) (E' := E) (I' := I) (J' := J) (S' := S) am_e194 rfl rfl rfl rfl ?_
      refine w_cI am_e194 rfl rfl (as := [.ref 99, .ref 2000041]) (rest := []) rfl rfl (am_ww.mono h ?_)
      rintro _ E1 I1 J1 S1 ⟨v1, rfl, h⟩
      refine q_mkI ?_
      refine w_if1 am_e194 rfl rfl (fun c => ?_) (fun c => ?_)
      · replace h := h.1 (of_decide_eq_true c)
        refine w_st (i' := 81) (ls' := [.ref 99, .int x1, .int x2, .int x3, d4]) (st' := [.ref 99]) (E' := E1) (I' := I1) (J' := J1) (S' := S1) am_e194 rfl rfl rfl rfl ?_
        refine w_st (i' := 82) (ls' := [.ref 99, .int x1, .int x2, .int x3, d4]) (st' := [.ref 2000040, .ref 99]) (E' := E1) (I' := I1) (J' := J1) (S' := S1) am_e194 rfl rfl rfl rfl ?_
        refine w_cI am_e194 rfl rfl (as := [.ref 99, .ref 2000040]) (rest := []) rfl rfl (am_ww.mono h ?_)
        rintro _ E2 I2 J2 S2 ⟨v2, rfl, h⟩
        refine q_mkI ?_
        refine w_if1 am_e194 rfl rfl (fun c => ?_) (fun c => ?_)
        · replace h := h.1 (of_decide_eq_true c)
          refine w_st (i' := 117) (ls' := [.ref 99, .int x1, .int x2, .int x3, d4]) (st' := [.ref 99]) (E' := E2) (I' := I2) (J' := J2) (S' := S2) am_e194 rfl rfl rfl rfl ?_
          refine w_st (i' := 118) (ls' := [.ref 99, .int x1, .int x2, .int x3, d4]) (st' := [.int (nI 1), .ref 99]) (E' := E2) (I' := I2) (J' := J2) (S' := S2) am_e194 rfl rfl rfl rfl ?_
          refine w_cV am_e194 rfl rfl (as := [.ref 99, .int (nI 1)]) (rest := []) rfl rfl ?_
          show am_ww 197 0 [.ref 99, .int (nI 1)] [] E2 I2 J2 S2 _
          refine w_st (i' := 1) (ls' := [.ref 99, .int (nI 1)]) (st' := [.ref 99]) (E' := E2) (I' := I2) (J' := J2) (S' := S2) am_e197 rfl rfl rfl rfl ?_
          refine w_st (i' := 2) (ls' := [.ref 99, .int (nI 1)]) (st' := [.int ((I2 99) 22)]) (E' := E2) (I' := I2) (J' := J2) (S' := S2) am_e197 rfl rfl rfl rfl ?_
          refine w_if1 am_e197 rfl rfl (fun c => ?_) (fun c => ?_)
          · replace h := h.1 (of_decide_eq_true c)
            refine w_st (i' := 5) (ls' := [.ref 99, .int (nI 1)]) (st' := [.ref 99]) (E' := E2) (I' := I2) (J' := J2) (S' := S2) am_e197 rfl rfl rfl rfl ?_
            refine w_st (i' := 6) (ls' := [.ref 99, .int (nI 1)]) (st' := [.int (nI 1), .ref 99]) (E' := E2) (I' := I2) (J' := J2) (S' := S2) am_e197 rfl rfl rfl rfl ?_
            refine w_st (i' := 7) (ls' := [.ref 99, .int (nI 1)]) (st' := []) (E' := E2) (I' := (u_I I2 99 (upd (I2 99) 22 (nI 1)))) (J' := J2) (S' := S2) am_e197 rfl rfl rfl rfl ?_
            refine w_st (i' := 8) (ls' := [.ref 99, .int (nI 1)]) (st' := [.ref 99]) (E' := E2) (I' := (u_I I2 99 (upd (I2 99) 22 (nI 1)))) (J' := J2) (S' := S2) am_e197 rfl rfl rfl rfl ?_
            refine w_st (i' := 9) (ls' := [.ref 99, .int (nI 1)]) (st' := [.ref 99, .ref 99]) (E' := E2) (I' := (u_I I2 99 (upd (I2 99) 22 (nI 1)))) (J' := J2) (S' := S2) am_e197 rfl rfl rfl rfl ?_
            refine w_st (i' := 10) (ls' := [.ref 99, .int (nI 1)]) (st' := [.int ((I2 99) 20), .ref 99]) (E' := E2) (I' := (u_I I2 99 (upd (I2 99) 22 (nI 1)))) (J' := J2) (S' := S2) am_e197 rfl rfl rfl rfl ?_
            refine w_st (i' := 11) (ls' := [.ref 99, .int (nI 1)]) (st' := []) (E' := E2) (I' := (u_I (u_I I2 99 (upd (I2 99) 22 (nI 1))) 99 (upd (upd (I2 99) 22 (nI 1)) 23 ((I2 99) 20)))) (J' := J2) (S' := S2) am_e197 rfl rfl rfl rfl ?_
            refine w_eI (uI_0 ..) ?_
            show am_ww 197 11 [.ref 99, .int (nI 1)] [] E2 (u_I I2 99 (upd (upd (I2 99) 22 (nI 1)) 23 ((I2 99) 20))) J2 S2 _
            refine w_end (E' := E2) (I' := (u_I I2 99 (upd (upd (I2 99) 22 (nI 1)) 23 ((I2 99) 20)))) (J' := J2) (S' := S2) am_e197 rfl rfl rfl (q_mkV ?_)
            show am_ww 194 119 [.ref 99, .int x1, .int x2, .int x3, d4] [] E2 (u_I I2 99 (upd (upd (I2 99) 22 (nI 1)) 23 ((I2 99) 20))) J2 S2 _
            refine w_st (i' := 120) (ls' := [.ref 99, .int x1, .int x2, .int x3, d4]) (st' := [.ref 99]) (E' := E2) (I' := (u_I I2 99 (upd (upd (I2 99) 22 (nI 1)) 23 ((I2 99) 20)))) (J' := J2) (S' := S2) am_e194 rfl rfl rfl rfl ?_
            refine w_st (i' := 121) (ls' := [.ref 99, .int x1, .int x2, .int x3, d4]) (st' := [.int (nI 59), .ref 99]) (E' := E2) (I' := (u_I I2 99 (upd (upd (I2 99) 22 (nI 1)) 23 ((I2 99) 20)))) (J' := J2) (S' := S2) am_e194 rfl rfl rfl rfl ?_
            refine w_cV am_e194 rfl rfl (as := [.ref 99, .int (nI 59)]) (rest := []) rfl rfl (am_ww.mono h ?_)
            rintro _ E3 I3 J3 S3 ⟨rfl, h⟩
            refine q_mkV ?_
            refine w_st (i' := 123) (ls' := [.ref 99, .int x1, .int x2, .int x3, d4]) (st' := [.int x1]) (E' := E3) (I' := I3) (J' := J3) (S' := S3) am_e194 rfl rfl rfl rfl ?_
            refine w_st (i' := 124) (ls' := [.ref 99, .int x1, .int x2, .int x3, d4]) (st' := [.int x3, .int x1]) (E' := E3) (I' := I3) (J' := J3) (S' := S3) am_e194 rfl rfl rfl rfl ?_
            refine w_st (i' := 125) (ls' := [.ref 99, .int x1, .int x2, .int x3, d4]) (st' := [.int (x1 ||| x3)]) (E' := E3) (I' := I3) (J' := J3) (S' := S3) am_e194 rfl rfl rfl rfl ?_
            exact w_ri am_e194 rfl rfl h
          · replace h := h.2 (of_decide_eq_false c)
            refine w_end (E' := E2) (I' := I2) (J' := J2) (S' := S2) am_e197 rfl rfl rfl (q_mkV ?_)
            show am_ww 194 119 [.ref 99, .int x1, .int x2, .int x3, d4] [] E2 I2 J2 S2 _
            refine w_st (i' := 120) (ls' := [.ref 99, .int x1, .int x2, .int x3, d4]) (st' := [.ref 99]) (E' := E2) (I' := I2) (J' := J2) (S' := S2) am_e194 rfl rfl rfl rfl ?_
            refine w_st (i' := 121) (ls' := [.ref 99, .int x1, .int x2, .int x3, d4]) (st' := [.int (nI 59), .ref 99]) (E' := E2) (I' := I2) (J' := J2) (S' := S2) am_e194 rfl rfl rfl rfl ?_
            refine w_cV am_e194 rfl rfl (as := [.ref 99, .int (nI 59)]) (rest := []) rfl rfl (am_ww.mono h ?_)
            rintro _ E4 I4 J4 S4 ⟨rfl, h⟩
            refine q_mkV ?_
            refine w_st (i' := 123) (ls' := [.ref 99, .int x1, .int x2, .int x3, d4]) (st' := [.int x1]) (E' := E4) (I' := I4) (J' := J4) (S' := S4) am_e194 rfl rfl rfl rfl ?_
            refine w_st (i' := 124) (ls' := [.ref 99, .int x1, .int x2, .int x3, d4]) (st' := [.int x3, .int x1]) (E' := E4) (I' := I4) (J' := J4) (S' := S4) am_e194 rfl rfl rfl rfl ?_
            refine w_st (i' := 125) (ls' := [.ref 99, .int x1, .int x2, .int x3, d4]) (st' := [.int (x1 ||| x3)]) (E' := E4) (I' := I4) (J' := J4) (S' := S4) am_e194 rfl rfl rfl rfl ?_
            exact w_ri am_e194 rfl rfl h
        · replace h := h.2 (of_decide_eq_false c)
          refine w_st (i' := 85) (ls' := [.ref 99, .int x1, .int x2, .int x3, d4]) (st' := [.ref 99]) (E' := E2) (I' := I2) (J' := J2) (S' := S2) am_e194 rfl rfl rfl rfl ?_
          refine w_cV am_e194 rfl rfl (as := [.ref 99]) (rest := []) rfl rfl (am_ww.mono h ?_)
          rintro _ E5 I5 J5 S5 ⟨rfl, h⟩
          refine q_mkV ?_
          refine w_st (i' := 87) (ls' := [.ref 99, .int x1, .int x2, .int x3, d4]) (st' := [.ref 99]) (E' := E5) (I' := I5) (J' := J5) (S' := S5) am_e194 rfl rfl rfl rfl ?_
          refine w_st (i' := 88) (ls' := [.ref 99, .int x1, .int x2, .int x3, d4]) (st' := [.int (nI 0), .ref 99]) (E' := E5) (I' := I5) (J' := J5) (S' := S5) am_e194 rfl rfl rfl rfl ?_
          refine w_st (i' := 89) (ls' := [.ref 99, .int x1, .int x2, .int x3, d4]) (st' := [.int (nI 15), .int (nI 0), .ref 99]) (E' := E5) (I' := I5) (J' := J5) (S' := S5) am_e194 rfl rfl rfl rfl ?_
          refine w_cI am_e194 rfl rfl (as := [.ref 99, .int (nI 0), .int (nI 15)]) (rest := []) rfl rfl (am_ww.mono h ?_)
          rintro _ E6 I6 J6 S6 ⟨v6, rfl, h⟩
          refine q_mkI ?_
          refine w_st (i' := 91) (ls' := [.ref 99, .int x1, .int x2, .int x3, .int v6]) (st' := []) (E' := E6) (I' := I6) (J' := J6) (S' := S6) am_e194 rfl rfl rfl rfl ?_
          refine w_st (i' := 92) (ls' := [.ref 99, .int x1, .int x2, .int x3, .int v6]) (st' := [.int (nI 16)]) (E' := E6) (I' := I6) (J' := J6) (S' := S6) am_e194 rfl rfl rfl rfl ?_
          refine w_st (i' := 93) (ls' := [.ref 99, .int x1, .int x2, .int x3, .int v6]) (st' := [.int v6, .int (nI 16)]) (E' := E6) (I' := I6) (J' := J6) (S' := S6) am_e194 rfl rfl rfl rfl ?_
          refine w_st (i' := 94) (ls' := [.ref 99, .int x1, .int x2, .int x3, .int v6]) (st' := [.int ((nI 16) <<< (v6 &&& 31))]) (E' := E6) (I' := I6) (J' := J6) (S' := S6) am_e194 rfl rfl rfl rfl ?_
          refine w_st (i' := 95) (ls' := [.ref 99, .int x1, .int x2, .int ((nI 16) <<< (v6 &&& 31)), .int v6]) (st' := []) (E' := E6) (I' := I6) (J' := J6) (S' := S6) am_e194 rfl rfl rfl rfl ?_
          refine w_st (i' := 96) (ls' := [.ref 99, .int x1, .int x2, .int ((nI 16) <<< (v6 &&& 31)), .int v6]) (st' := [.int x1]) (E' := E6) (I' := I6) (J' := J6) (S' := S6) am_e194 rfl rfl rfl rfl ?_
          refine w_st (i' := 97) (ls' := [.ref 99, .int x1, .int x2, .int ((nI 16) <<< (v6 &&& 31)), .int v6]) (st' := [.int ((nI 16) <<< (v6 &&& 31)), .int x1]) (E' := E6) (I' := I6) (J' := J6) (S' := S6) am_e194 rfl rfl rfl rfl ?_
          refine w_st (i' := 98) (ls' := [.ref 99, .int x1, .int x2, .int ((nI 16) <<< (v6 &&& 31)), .int v6]) (st' := [.int (x1 &&& ((nI 16) <<< (v6 &&& 31)))]) (E' := E6) (I' := I6) (J' := J6) (S' := S6) am_e194 rfl rfl rfl rfl ?_
          refine w_if1 am_e194 rfl rfl (fun c => ?_) (fun c => ?_)
          · replace h := h.1 (of_decide_eq_true c)
            refine w_st (i' := 103) (ls' := [.ref 99, .int x1, .int x2, .int ((nI 16) <<< (v6 &&& 31)), .int v6]) (st' := [.ref 99]) (E' := E6) (I' := I6) (J' := J6) (S' := S6) am_e194 rfl rfl rfl rfl ?_
            refine w_st (i' := 104) (ls' := [.ref 99, .int x1, .int x2, .int ((nI 16) <<< (v6 &&& 31)), .int v6]) (st' := [.int ((I6 99) 22)]) (E' := E6) (I' := I6) (J' := J6) (S' := S6) am_e194 rfl rfl rfl rfl ?_
            refine w_if1 am_e194 rfl rfl (fun c => ?_) (fun c => ?_)
            · replace h := h.2 (of_decide_eq_true c)
              exact h
            · replace h := h.1 (Decidable.not_not.mp (of_decide_eq_false c))
              refine w_st (i' := 106) (ls' := [.ref 99, .int x1, .int x2, .int ((nI 16) <<< (v6 &&& 31)), .int v6]) (st' := [.ref 99]) (E' := E6) (I' := I6) (J' := J6) (S' := S6) am_e194 rfl rfl rfl rfl ?_
              refine w_cV am_e194 rfl rfl (as := [.ref 99]) (rest := []) rfl rfl (am_ww.mono h ?_)
              rintro _ E7 I7 J7 S7 ⟨rfl, h⟩
              refine q_mkV ?_
              exact h
          · replace h := h.2 (of_decide_eq_false c)
            refine w_st (i' := 100) (ls' := [.ref 99, .int x1, .int x2, .int ((nI 16) <<< (v6 &&& 31)), .int v6]) (st' := [.ref 99]) (E' := E6) (I' := I6) (J' := J6) (S' := S6) am_e194 rfl rfl rfl rfl ?_
            refine w_st (i' := 101) (ls' := [.ref 99, .int x1, .int x2, .int ((nI 16) <<< (v6 &&& 31)), .int v6]) (st' := [.int (nI 5), .ref 99]) (E' := E6) (I' := I6) (J' := J6) (S' := S6) am_e194 rfl rfl rfl rfl ?_
            refine w_cV am_e194 rfl rfl (as := [.ref 99, .int (nI 5)]) (rest := []) rfl rfl ?_
            show am_ww 197 0 [.ref 99, .int (nI 5)] [] E6 I6 J6 S6 _
            refine w_st (i' := 1) (ls' := [.ref 99, .int (nI 5)]) (st' := [.ref 99]) (E' := E6) (I' := I6) (J' := J6) (S' := S6) am_e197 rfl rfl rfl rfl ?_
            refine w_st (i' := 2) (ls' := [.ref 99, .int (nI 5)]) (st' := [.int ((I6 99) 22)]) (E' := E6) (I' := I6) (J' := J6) (S' := S6) am_e197 rfl rfl rfl rfl ?_
            refine w_if1 am_e197 rfl rfl (fun c => ?_) (fun c => ?_)
            · replace h := h.1 (of_decide_eq_true c)
              refine w_st (i' := 5) (ls' := [.ref 99, .int (nI 5)]) (st' := [.ref 99]) (E' := E6) (I' := I6) (J' := J6) (S' := S6) am_e197 rfl rfl rfl rfl ?_
              refine w_st (i' := 6) (ls' := [.ref 99, .int (nI 5)]) (st' := [.int (nI 5), .ref 99]) (E' := E6) (I' := I6) (J' := J6) (S' := S6) am_e197 rfl rfl rfl rfl ?_
              refine w_st (i' := 7) (ls' := [.ref 99, .int (nI 5)]) (st' := []) (E' := E6) (I' := (u_I I6 99 (upd (I6 99) 22 (nI 5)))) (J' := J6) (S' := S6) am_e197 rfl rfl rfl rfl ?_
              refine w_st (i' := 8) (ls' := [.ref 99, .int (nI 5)]) (st' := [.ref 99]) (E' := E6) (I' := (u_I I6 99 (upd (I6 99) 22 (nI 5)))) (J' := J6) (S' := S6) am_e197 rfl rfl rfl rfl ?_
              refine w_st (i' := 9) (ls' := [.ref 99, .int (nI 5)]) (st' := [.ref 99, .ref 99]) (E' := E6) (I' := (u_I I6 99 (upd (I6 99) 22 (nI 5)))) (J' := J6) (S' := S6) am_e197 rfl rfl rfl rfl ?_
              refine w_st (i' := 10) (ls' := [.ref 99, .int (nI 5)]) (st' := [.int ((I6 99) 20), .ref 99]) (E' := E6) (I' := (u_I I6 99 (upd (I6 99) 22 (nI 5)))) (J' := J6) (S' := S6) am_e197 rfl rfl rfl rfl ?_
              refine w_st (i' := 11) (ls' := [.ref 99, .int (nI 5)]) (st' := []) (E' := E6) (I' := (u_I (u_I I6 99 (upd (I6 99) 22 (nI 5))) 99 (upd (upd (I6 99) 22 (nI 5)) 23 ((I6 99) 20)))) (J' := J6) (S' := S6) am_e197 rfl rfl rfl rfl ?_
              refine w_eI (uI_0 ..) ?_
              show am_ww 197 11 [.ref 99, .int (nI 5)] [] E6 (u_I I6 99 (upd (upd (I6 99) 22 (nI 5)) 23 ((I6 99) 20))) J6 S6 _
              refine w_end (E' := E6) (I' := (u_I I6 99 (upd (upd (I6 99) 22 (nI 5)) 23 ((I6 99) 20)))) (J' := J6) (S' := S6) am_e197 rfl rfl rfl (q_mkV ?_)
              show am_ww 194 102 [.ref 99, .int x1, .int x2, .int ((nI 16) <<< (v6 &&& 31)), .int v6] [] E6 (u_I I6 99 (upd (upd (I6 99) 22 (nI 5)) 23 ((I6 99) 20))) J6 S6 _
              refine w_st (i' := 103) (ls' := [.ref 99, .int x1, .int x2, .int ((nI 16) <<< (v6 &&& 31)), .int v6]) (st' := [.ref 99]) (E' := E6) (I' := (u_I I6 99 (upd (upd (I6 99) 22 (nI 5)) 23 ((I6 99) 20)))) (J' := J6) (S' := S6) am_e194 rfl rfl rfl rfl ?_
              refine w_st (i' := 104) (ls' := [.ref 99, .int x1, .int x2, .int ((nI 16) <<< (v6 &&& 31)), .int v6]) (st' := [.int (nI 5)]) (E' := E6) (I' := (u_I I6 99 (upd (upd (I6 99) 22 (nI 5)) 23 ((I6 99) 20)))) (J' := J6) (S' := S6) am_e194 rfl rfl rfl rfl ?_
              refine w_st (i' := 107) (ls' := [.ref 99, .int x1, .int x2, .int ((nI 16) <<< (v6 &&& 31)), .int v6]) (st' := []) (E' := E6) (I' := (u_I I6 99 (upd (upd (I6 99) 22 (nI 5)) 23 ((I6 99) 20)))) (J' := J6) (S' := S6) am_e194 rfl rfl rfl rfl ?_
              exact h
            · replace h := h.2 (of_decide_eq_false c)
              refine w_end (E' := E6) (I' := I6) (J' := J6) (S' := S6) am_e197 rfl rfl rfl (q_mkV ?_)
              show am_ww 194 102 [.ref 99, .int x1, .int x2, .int ((nI 16) <<< (v6 &&& 31)), .int v6] [] E6 I6 J6 S6 _
              refine w_st (i' := 103) (ls' := [.ref 99, .int x1, .int x2, .int ((nI 16) <<< (v6 &&& 31)), .int v6]) (st' := [.ref 99]) (E' := E6) (I' := I6) (J' := J6) (S' := S6) am_e194 rfl rfl rfl rfl ?_
              refine w_st (i' := 104) (ls' := [.ref 99, .int x1, .int x2, .int ((nI 16) <<< (v6 &&& 31)), .int v6]) (st' := [.int ((I6 99) 22)]) (E' := E6) (I' := I6) (J' := J6) (S' := S6) am_e194 rfl rfl rfl rfl ?_
              refine w_if1 am_e194 rfl rfl (fun c => ?_) (fun c => ?_)
              · replace h := h.2 (of_decide_eq_true c)
                exact h
              · replace h := h.1 (Decidable.not_not.mp (of_decide_eq_false c))
                refine w_st (i' := 106) (ls' := [.ref 99, .int x1, .int x2, .int ((nI 16) <<< (v6 &&& 31)), .int v6]) (st' := [.ref 99]) (E' := E6) (I' := I6) (J' := J6) (S' := S6) am_e194 rfl rfl rfl rfl ?_
                refine w_cV am_e194 rfl rfl (as := [.ref 99]) (rest := []) rfl rfl (am_ww.mono h ?_)
                rintro _ E8 I8 J8 S8 ⟨rfl, h⟩
                refine q_mkV ?_
                exact h
      · replace h := h.2 (of_decide_eq_false c)
        refine w_st (i' := 78) (ls' := [.ref 99, .int x1, .int x2, .int x3, d4]) (st' := [.ref 99]) (E' := E1) (I' := I1) (J' := J1) (S' := S1) am_e194 rfl rfl rfl rfl ?_
        refine w_cV am_e194 rfl rfl (as := [.ref 99]) (rest := []) rfl rfl (am_ww.mono h ?_)
        rintro _ E9 I9 J9 S9 ⟨rfl, h⟩
        refine q_mkV ?_
        refine w_st (i' := 119) (ls' := [.ref 99, .int x1, .int x2, .int x3, d4]) (st' := []) (E' := E9) (I' := I9) (J' := J9) (S' := S9) am_e194 rfl rfl rfl rfl ?_
        refine w_st (i' := 120) (ls' := [.ref 99, .int x1, .int x2, .int x3, d4]) (st' := [.ref 99]) (E' := E9) (I' := I9) (J' := J9) (S' := S9) am_e194 rfl rfl rfl rfl ?_
        refine w_st (i' := 121) (ls' := [.ref 99, .int x1, .int x2, .int x3, d4]) (st' := [.int (nI 59), .ref 99]) (E' := E9) (I' := I9) (J' := J9) (S' := S9) am_e194 rfl rfl rfl rfl ?_
        refine w_cV am_e194 rfl rfl (as := [.ref 99, .int (nI 59)]) (rest := []) rfl rfl (am_ww.mono h ?_)
        rintro _ E10 I10 J10 S10 ⟨rfl, h⟩
        refine q_mkV ?_
        refine w_st (i' := 123) (ls' := [.ref 99, .int x1, .int x2, .int x3, d4]) (st' := [.int x1]) (E' := E10) (I' := I10) (J' := J10) (S' := S10) am_e194 rfl rfl rfl rfl ?_
        refine w_st (i' := 124) (ls' := [.ref 99, .int x1, .int x2, .int x3, d4]) (st' := [.int x3, .int x1]) (E' := E10) (I' := I10) (J' := J10) (S' := S10) am_e194 rfl rfl rfl rfl ?_
        refine w_st (i' := 125) (ls' := [.ref 99, .int x1, .int x2, .int x3, d4]) (st' := [.int (x1 ||| x3)]) (E' := E10) (I' := I10) (J' := J10) (S' := S10) am_e194 rfl rfl rfl rfl ?_
        exact w_ri am_e194 rfl rfl h
    · replace h := h.2 (of_decide_eq_false c)
      refine w_st (i' := 37) (ls' := [.ref 99, .int x1, .int x2, .int x3, d4]) (st' := [.ref 99]) (E' := E) (I' := I) (J' := J) (S' := S) am_e194 rfl rfl rfl rfl ?_
      refine w_cV am_e194 rfl rfl (as := [.ref 99]) (rest := []) rfl rfl (am_ww.mono h ?_)
      rintro _ E11 I11 J11 S11 ⟨rfl, h⟩
      refine q_mkV ?_
      refine w_st (i' := 39) (ls' := [.ref 99, .int x1, .int x2, .int x3, d4]) (st' := [.ref 99]) (E' := E11) (I' := I11) (J' := J11) (S' := S11) am_e194 rfl rfl rfl rfl ?_
      refine w_st (i' := 40) (ls' := [.ref 99, .int x1, .int x2, .int x3, d4]) (st' := [.ref 103]) (E' := E11) (I' := I11) (J' := J11) (S' := S11) am_e194 rfl rfl rfl rfl ?_
      refine w_st (i' := 41) (ls' := [.ref 99, .int x1, .int x2, .int x3, d4]) (st' := [.int (nI 5), .ref 103]) (E' := E11) (I' := I11) (J' := J11) (S' := S11) am_e194 rfl rfl rfl rfl ?_
      refine w_st (i' := 42) (ls' := [.ref 99, .int x1, .int x2, .int x3, d4]) (st' := [.int x2, .int (nI 5), .ref 103]) (E' := E11) (I' := I11) (J' := J11) (S' := S11) am_e194 rfl rfl rfl rfl ?_
      refine w_st (i' := 43) (ls' := [.ref 99, .int x1, .int x2, .int x3, d4]) (st' := [.int ((nI 5) + x2), .ref 103]) (E' := E11) (I' := I11) (J' := J11) (S' := S11) am_e194 rfl rfl rfl rfl ?_
      refine w_st (i' := 44) (ls' := [.ref 99, .int x1, .int x2, .int x3, d4]) (st' := [.ref 99, .int ((nI 5) + x2), .ref 103]) (E' := E11) (I' := I11) (J' := J11) (S' := S11) am_e194 rfl rfl rfl rfl ?_
      refine w_st (i' := 45) (ls' := [.ref 99, .int x1, .int x2, .int x3, d4]) (st' := [.int x2, .ref 99, .int ((nI 5) + x2), .ref 103]) (E' := E11) (I' := I11) (J' := J11) (S' := S11) am_e194 rfl rfl rfl rfl ?_
      refine w_st (i' := 46) (ls' := [.ref 99, .int x1, .int x2, .int x3, d4]) (st' := [.int (nI 1), .int x2, .ref 99, .int ((nI 5) + x2), .ref 103]) (E' := E11) (I' := I11) (J' := J11) (S' := S11) am_e194 rfl rfl rfl rfl ?_
      refine w_mg (i := 55) (ls' := [.ref 99, .int x1, .int x2, .int x3, d4]) (st' := [.int (if x2 = (nI 1) then nI 0 else (if x2 = (nI 3) then nI 2 else nI 1)), .ref 99, .int ((nI 5) + x2), .ref 103]) (fun hm => ?_) ?_
      · clear h
        refine w_if2 am_e194 rfl rfl (fun c => ?_) (fun c => ?_)
        · have m12 : ¬ (x2 = (nI 1)) := (of_decide_eq_true c)
          refine w_st (i' := 50) (ls' := [.ref 99, .int x1, .int x2, .int x3, d4]) (st' := [.int x2, .ref 99, .int ((nI 5) + x2), .ref 103]) (E' := E11) (I' := I11) (J' := J11) (S' := S11) am_e194 rfl rfl rfl rfl ?_
          refine w_st (i' := 51) (ls' := [.ref 99, .int x1, .int x2, .int x3, d4]) (st' := [.int (nI 3), .int x2, .ref 99, .int ((nI 5) + x2), .ref 103]) (E' := E11) (I' := I11) (J' := J11) (S' := S11) am_e194 rfl rfl rfl rfl ?_
          refine w_if2 am_e194 rfl rfl (fun c => ?_) (fun c => ?_)
          · have m13 : ¬ (x2 = (nI 3)) := (of_decide_eq_true c)
            refine w_st (i' := 55) (ls' := [.ref 99, .int x1, .int x2, .int x3, d4]) (st' := [.int (nI 1), .ref 99, .int ((nI 5) + x2), .ref 103]) (E' := E11) (I' := I11) (J' := J11) (S' := S11) am_e194 rfl rfl rfl rfl ?_
            first | exact hm | (simp only [if_neg m12, if_neg m13] at hm; exact hm)
          · have m13 : x2 = (nI 3) := (Decidable.not_not.mp (of_decide_eq_false c))
            refine w_st (i' := 53) (ls' := [.ref 99, .int x1, .int x2, .int x3, d4]) (st' := [.int (nI 2), .ref 99, .int ((nI 5) + x2), .ref 103]) (E' := E11) (I' := I11) (J' := J11) (S' := S11) am_e194 rfl rfl rfl rfl ?_
            refine w_st (i' := 55) (ls' := [.ref 99, .int x1, .int x2, .int x3, d4]) (st' := [.int (nI 2), .ref 99, .int ((nI 5) + x2), .ref 103]) (E' := E11) (I' := I11) (J' := J11) (S' := S11) am_e194 rfl rfl rfl rfl ?_
            first | exact hm | (simp only [if_neg m12, if_pos m13] at hm; exact hm)
        · have m12 : x2 = (nI 1) := (Decidable.not_not.mp (of_decide_eq_false c))
          refine w_st (i' := 48) (ls' := [.ref 99, .int x1, .int x2, .int x3, d4]) (st' := [.int (nI 0), .ref 99, .int ((nI 5) + x2), .ref 103]) (E' := E11) (I' := I11) (J' := J11) (S' := S11) am_e194 rfl rfl rfl rfl ?_
          refine w_st (i' := 55) (ls' := [.ref 99, .int x1, .int x2, .int x3, d4]) (st' := [.int (nI 0), .ref 99, .int ((nI 5) + x2), .ref 103]) (E' := E11) (I' := I11) (J' := J11) (S' := S11) am_e194 rfl rfl rfl rfl ?_
          first | exact hm | (simp only [if_pos m12] at hm; exact hm)
      refine w_var (fun w14 => am_ww 194 55 [.ref 99, .int x1, .int x2, .int x3, d4] [.int w14, .ref 99, .int ((nI 5) + x2), .ref 103] E11 I11 J11 S11 _) (if x2 = (nI 1) then nI 0 else (if x2 = (nI 3) then nI 2 else nI 1)) (fun w14 hw14 => ?_)
      replace h := h w14 hw14
      refine w_st (i' := 56) (ls' := [.ref 99, .int x1, .int x2, .int x3, d4]) (st' := [.int x2, .int w14, .ref 99, .int ((nI 5) + x2), .ref 103]) (E' := E11) (I' := I11) (J' := J11) (S' := S11) am_e194 rfl rfl rfl rfl ?_
      refine w_mg (i := 70) (ls' := [.ref 99, .int x1, .int x2, .int x3, d4]) (st' := [.int (if x2 = 0 then nI 9 else (if x2 = (nI 1) then nI 9999 else (if x2 = (nI 2) then nI 50 else nI 8))), .int w14, .ref 99, .int ((nI 5) + x2), .ref 103]) (fun hm => ?_) ?_
      · clear h
        refine w_if1 am_e194 rfl rfl (fun c => ?_) (fun c => ?_)
        · have m15 : ¬ (x2 = 0) := (of_decide_eq_true c)
          refine w_st (i' := 60) (ls' := [.ref 99, .int x1, .int x2, .int x3, d4]) (st' := [.int x2, .int w14, .ref 99, .int ((nI 5) + x2), .ref 103]) (E' := E11) (I' := I11) (J' := J11) (S' := S11) am_e194 rfl rfl rfl rfl ?_
          refine w_st (i' := 61) (ls' := [.ref 99, .int x1, .int x2, .int x3, d4]) (st' := [.int (nI 1), .int x2, .int w14, .ref 99, .int ((nI 5) + x2), .ref 103]) (E' := E11) (I' := I11) (J' := J11) (S' := S11) am_e194 rfl rfl rfl rfl ?_
          refine w_if2 am_e194 rfl rfl (fun c => ?_) (fun c => ?_)
          · have m16 : ¬ (x2 = (nI 1)) := (of_decide_eq_true c)
            refine w_st (i' := 65) (ls' := [.ref 99, .int x1, .int x2, .int x3, d4]) (st' := [.int x2, .int w14, .ref 99, .int ((nI 5) + x2), .ref 103]) (E' := E11) (I' := I11) (J' := J11) (S' := S11) am_e194 rfl rfl rfl rfl ?_
            refine w_st (i' := 66) (ls' := [.ref 99, .int x1, .int x2, .int x3, d4]) (st' := [.int (nI 2), .int x2, .int w14, .ref 99, .int ((nI 5) + x2), .ref 103]) (E' := E11) (I' := I11) (J' := J11) (S' := S11) am_e194 rfl rfl rfl rfl ?_
            refine w_if2 am_e194 rfl rfl (fun c => ?_) (fun c => ?_)
            · have m17 : ¬ (x2 = (nI 2)) := (of_decide_eq_true c)
              refine w_st (i' := 70) (ls' := [.ref 99, .int x1, .int x2, .int x3, d4]) (st' := [.int (nI 8), .int w14, .ref 99, .int ((nI 5) + x2), .ref 103]) (E' := E11) (I' := I11) (J' := J11) (S' := S11) am_e194 rfl rfl rfl rfl ?_
              first | exact hm | (simp only [if_neg m15, if_neg m16, if_neg m17] at hm; exact hm)
            · have m17 : x2 = (nI 2) := (Decidable.not_not.mp (of_decide_eq_false c))
              refine w_st (i' := 68) (ls' := [.ref 99, .int x1, .int x2, .int x3, d4]) (st' := [.int (nI 50), .int w14, .ref 99, .int ((nI 5) + x2), .ref 103]) (E' := E11) (I' := I11) (J' := J11) (S' := S11) am_e194 rfl rfl rfl rfl ?_
              refine w_st (i' := 70) (ls' := [.ref 99, .int x1, .int x2, .int x3, d4]) (st' := [.int (nI 50), .int w14, .ref 99, .int ((nI 5) + x2), .ref 103]) (E' := E11) (I' := I11) (J' := J11) (S' := S11) am_e194 rfl rfl rfl rfl ?_
              first | exact hm | (simp only [if_neg m15, if_neg m16, if_pos m17] at hm; exact hm)
          · have m16 : x2 = (nI 1) := (Decidable.not_not.mp (of_decide_eq_false c))
            refine w_st (i' := 63) (ls' := [.ref 99, .int x1, .int x2, .int x3, d4]) (st' := [.int (nI 9999), .int w14, .ref 99, .int ((nI 5) + x2), .ref 103]) (E' := E11) (I' := I11) (J' := J11) (S' := S11) am_e194 rfl rfl rfl rfl ?_
            refine w_st (i' := 70) (ls' := [.ref 99, .int x1, .int x2, .int x3, d4]) (st' := [.int (nI 9999), .int w14, .ref 99, .int ((nI 5) + x2), .ref 103]) (E' := E11) (I' := I11) (J' := J11) (S' := S11) am_e194 rfl rfl rfl rfl ?_
            first | exact hm | (simp only [if_neg m15, if_pos m16] at hm; exact hm)
        · have m15 : x2 = 0 := (Decidable.not_not.mp (of_decide_eq_false c))
          refine w_st (i' := 58) (ls' := [.ref 99, .int x1, .int x2, .int x3, d4]) (st' := [.int (nI 9), .int w14, .ref 99, .int ((nI 5) + x2), .ref 103]) (E' := E11) (I' := I11) (J' := J11) (S' := S11) am_e194 rfl rfl rfl rfl ?_
          refine w_st (i' := 70) (ls' := [.ref 99, .int x1, .int x2, .int x3, d4]) (st' := [.int (nI 9), .int w14, .ref 99, .int ((nI 5) + x2), .ref 103]) (E' := E11) (I' := I11) (J' := J11) (S' := S11) am_e194 rfl rfl rfl rfl ?_
          first | exact hm | (simp only [if_pos m15] at hm; exact hm)
      refine w_var (fun w18 => am_ww 194 70 [.ref 99, .int x1, .int x2, .int x3, d4] [.int w18, .int w14, .ref 99, .int ((nI 5) + x2), .ref 103] E11 I11 J11 S11 _) (if x2 = 0 then nI 9 else (if x2 = (nI 1) then nI 9999 else (if x2 = (nI 2) then nI 50 else nI 8))) (fun w18 hw18 => ?_)
      replace h := h w18 hw18
      refine w_cI am_e194 rfl rfl (as := [.ref 99, .int w14, .int w18]) (rest := [.int ((nI 5) + x2), .ref 103]) rfl rfl (am_ww.mono h ?_)
      rintro _ E19 I19 J19 S19 ⟨v19, rfl, h⟩
      refine q_mkI ?_
      have hf20 := h.1
      replace h := h.2
      refine w_is (k := 103) (n := 10) (jn := ((nI 5) + x2).toNatClampNeg) am_e194 rfl rfl (by decide) hf20 rfl ?_
      show am_ww 194 72 [.ref 99, .int x1, .int x2, .int x3, d4] [] E19 (u_I I19 103 (upd (I19 103) (((nI 5) + x2).toNatClampNeg) v19)) J19 S19 _
      refine w_st (i' := 119) (ls' := [.ref 99, .int x1, .int x2, .int x3, d4]) (st' := []) (E' := E19) (I' := (u_I I19 103 (upd (I19 103) (((nI 5) + x2).toNatClampNeg) v19))) (J' := J19) (S' := S19) am_e194 rfl rfl rfl rfl ?_
      refine w_st (i' := 120) (ls' := [.ref 99, .int x1, .int x2, .int x3, d4]) (st' := [.ref 99]) (E' := E19) (I' := (u_I I19 103 (upd (I19 103) (((nI 5) + x2).toNatClampNeg) v19))) (J' := J19) (S' := S19) am_e194 rfl rfl rfl rfl ?_
      refine w_st (i' := 121) (ls' := [.ref 99, .int x1, .int x2, .int x3, d4]) (st' := [.int (nI 59), .ref 99]) (E' := E19) (I' := (u_I I19 103 (upd (I19 103) (((nI 5) + x2).toNatClampNeg) v19))) (J' := J19) (S' := S19) am_e194 rfl rfl rfl rfl ?_
      refine w_cV am_e194 rfl rfl (as := [.ref 99, .int (nI 59)]) (rest := []) rfl rfl (am_ww.mono h ?_)
      rintro _ E21 I21 J21 S21 ⟨rfl, h⟩
      refine q_mkV ?_
      refine w_st (i' := 123) (ls' := [.ref 99, .int x1, .int x2, .int x3, d4]) (st' := [.int x1]) (E' := E21) (I' := I21) (J' := J21) (S' := S21) am_e194 rfl rfl rfl rfl ?_
      refine w_st (i' := 124) (ls' := [.ref 99, .int x1, .int x2, .int x3, d4]) (st' := [.int x3, .int x1]) (E' := E21) (I' := I21) (J' := J21) (S' := S21) am_e194 rfl rfl rfl rfl ?_
      refine w_st (i' := 125) (ls' := [.ref 99, .int x1, .int x2, .int x3, d4]) (st' := [.int (x1 ||| x3)]) (E' := E21) (I' := I21) (J' := J21) (S' := S21) am_e194 rfl rfl rfl rfl ?_
      exact w_ri am_e194 rfl rfl h
  · replace h := h.2 (of_decide_eq_false c)
    refine w_st (i' := 32) (ls' := [.ref 99, .int x1, .int x2, .int x3, d4]) (st' := [.int x1]) (E' := E) (I' := I) (J' := J) (S' := S) am_e194 rfl rfl rfl rfl ?_
    exact w_ri am_e194 rfl rfl h
theorem g194_107 {x1 : Int32} {d2 : Value} {x3 : Int32} {x4 : Int32} {E : am_Ev} {I : Nat → Nat → Int32} {J : Nat → Nat → Int64} {S : Nat → Nat → Option Nat} {Q : am_Qt} (hd2 : am_isL d2 = false) (h : am_cl 210 [.ref 99] E I J S (q_I fun v1 E1 I1 J1 S1 => vp_in ((nI 16) + x4) 32 ∧ (am_cl 206 [.ref 99, .int (nI 59)] E1 (u_I I1 104 (upd (I1 104) (((nI 16) + x4).toNatClampNeg) v1)) J1 S1 (q_V fun E3 I3 J3 S3 => Q (.inl (some (.int (x1 ||| x3)))) E3 I3 J3 S3)))) : am_ww 194 107 [.ref 99, .int x1, d2, .int x3, .int x4] [] E I J S Q := by
  refine w_st (i' := 108) (ls' := [.ref 99, .int x1, d2, .int x3, .int x4]) (st' := [.ref 99]) (E' := E) (I' := I) (J' := J) (S' := S) am_e194 rfl rfl rfl rfl ?_
  refine w_st (i' := 109) (ls' := [.ref 99, .int x1, d2, .int x3, .int x4]) (st' := [.ref 104]) (E' := E) (I' := I) (J' := J) (S' := S) am_e194 rfl rfl rfl rfl ?_
  refine w_st (i' := 110) (ls' := [.ref 99, .int x1, d2, .int x3, .int x4]) (st' := [.int (nI 16), .ref 104]) (E' := E) (I' := I) (J' := J) (S' := S) am_e194 rfl rfl rfl rfl ?_
  refine w_st (i' := 111) (ls' := [.ref 99, .int x1, d2, .int x3, .int x4]) (st' := [.int x4, .int (nI 16), .ref 104]) (E' := E) (I' := I) (J' := J) (S' := S) am_e194 rfl rfl rfl rfl ?_
  refine w_st (i' := 112) (ls' := [.ref 99, .int x1, d2, .int x3, .int x4]) (st' := [.int ((nI 16) + x4), .ref 104]) (E' := E) (I' := I) (J' := J) (S' := S) am_e194 rfl rfl rfl rfl ?_
  refine w_st (i' := 113) (ls' := [.ref 99, .int x1, d2, .int x3, .int x4]) (st' := [.ref 99, .int ((nI 16) + x4), .ref 104]) (E' := E) (I' := I) (J' := J) (S' := S) am_e194 rfl rfl rfl rfl ?_
  refine w_cI am_e194 rfl rfl (as := [.ref 99]) (rest := [.int ((nI 16) + x4), .ref 104]) rfl rfl (am_ww.mono h ?_)
  rintro _ E1 I1 J1 S1 ⟨v1, rfl, h⟩
  refine q_mkI ?_
  have hf2 := h.1
  replace h := h.2
  refine w_is (k := 104) (n := 32) (jn := ((nI 16) + x4).toNatClampNeg) am_e194 rfl rfl (by decide) hf2 rfl ?_
  show am_ww 194 115 [.ref 99, .int x1, d2, .int x3, .int x4] [] E1 (u_I I1 104 (upd (I1 104) (((nI 16) + x4).toNatClampNeg) v1)) J1 S1 _
  refine w_st (i' := 119) (ls' := [.ref 99, .int x1, d2, .int x3, .int x4]) (st' := []) (E' := E1) (I' := (u_I I1 104 (upd (I1 104) (((nI 16) + x4).toNatClampNeg) v1))) (J' := J1) (S' := S1) am_e194 rfl rfl rfl rfl ?_
  refine w_st (i' := 120) (ls' := [.ref 99, .int x1, d2, .int x3, .int x4]) (st' := [.ref 99]) (E' := E1) (I' := (u_I I1 104 (upd (I1 104) (((nI 16) + x4).toNatClampNeg) v1))) (J' := J1) (S' := S1) am_e194 rfl rfl rfl rfl ?_
  refine w_st (i' := 121) (ls' := [.ref 99, .int x1, d2, .int x3, .int x4]) (st' := [.int (nI 59), .ref 99]) (E' := E1) (I' := (u_I I1 104 (upd (I1 104) (((nI 16) + x4).toNatClampNeg) v1))) (J' := J1) (S' := S1) am_e194 rfl rfl rfl rfl ?_
  refine w_cV am_e194 rfl rfl (as := [.ref 99, .int (nI 59)]) (rest := []) rfl rfl (am_ww.mono h ?_)
  rintro _ E3 I3 J3 S3 ⟨rfl, h⟩
  refine q_mkV ?_
  refine w_st (i' := 123) (ls' := [.ref 99, .int x1, d2, .int x3, .int x4]) (st' := [.int x1]) (E' := E3) (I' := I3) (J' := J3) (S' := S3) am_e194 rfl rfl rfl rfl ?_
  refine w_st (i' := 124) (ls' := [.ref 99, .int x1, d2, .int x3, .int x4]) (st' := [.int x3, .int x1]) (E' := E3) (I' := I3) (J' := J3) (S' := S3) am_e194 rfl rfl rfl rfl ?_
  refine w_st (i' := 125) (ls' := [.ref 99, .int x1, d2, .int x3, .int x4]) (st' := [.int (x1 ||| x3)]) (E' := E3) (I' := I3) (J' := J3) (S' := S3) am_e194 rfl rfl rfl rfl ?_
  exact w_ri am_e194 rfl rfl h
-- 188 program
theorem g188_0 {p1 : Int32} {E : am_Ev} {I : Nat → Nat → Int32} {J : Nat → Nat → Int64} {S : Nat → Nat → Option Nat} {Q : am_Qt}  (h : (p1 < 0 → (Q (.inl (some (.int (nI 0)))) E (u_I I 99 (upd (upd (I 99) 3 (nI 0)) 3 (nI 1))) J S)) ∧ (¬ p1 < 0 → ((p1 ≤ ((I 99) 15) → (am_ww 188 33 [.ref 99, .int p1, .int (nI 0)] [] E (u_I I 99 (upd (upd (upd (upd (upd (upd (upd (I 99) 3 (nI 0)) 15 (nI 0)) 17 p1) 16 (nI 0)) 22 (nI 0)) 24 (-1)) 29 (-1))) J S Q)) ∧ (¬ p1 ≤ ((I 99) 15) → (Q (.inl (some (.int (nI 0)))) E (u_I I 99 (upd (upd (I 99) 3 (nI 0)) 3 (nI 1))) J S))))) : am_ww 188 0 [.ref 99, .int p1, am_U] [] E I J S Q := by
  refine w_st (i' := 1) (ls' := [.ref 99, .int p1, am_U]) (st' := [.ref 99]) (E' := E) (I' := I) (J' := J) (S' := S) am_e188 rfl rfl rfl rfl ?_
  refine w_st (i' := 2) (ls' := [.ref 99, .int p1, am_U]) (st' := [.int (nI 0), .ref 99]) (E' := E) (I' := I) (J' := J) (S' := S) am_e188 rfl rfl rfl rfl ?_
  refine w_st (i' := 3) (ls' := [.ref 99, .int p1, am_U]) (st' := []) (E' := E) (I' := (u_I I 99 (upd (I 99) 3 (nI 0)))) (J' := J) (S' := S) am_e188 rfl rfl rfl rfl ?_
  refine w_st (i' := 4) (ls' := [.ref 99, .int p1, am_U]) (st' := [.int p1]) (E' := E) (I' := (u_I I 99 (upd (I 99) 3 (nI 0)))) (J' := J) (S' := S) am_e188 rfl rfl rfl rfl ?_
  refine w_if1 am_e188 rfl rfl (fun c => ?_) (fun c => ?_)
  · replace h := h.1 (of_decide_eq_true c)
    refine w_st (i' := 10) (ls' := [.ref 99, .int p1, am_U]) (st' := [.ref 99]) (E' := E) (I' := (u_I I 99 (upd (I 99) 3 (nI 0)))) (J' := J) (S' := S) am_e188 rfl rfl rfl rfl ?_
    refine w_st (i' := 11) (ls' := [.ref 99, .int p1, am_U]) (st' := [.int (nI 1), .ref 99]) (E' := E) (I' := (u_I I 99 (upd (I 99) 3 (nI 0)))) (J' := J) (S' := S) am_e188 rfl rfl rfl rfl ?_
    refine w_cI am_e188 rfl rfl (as := [.ref 99, .int (nI 1)]) (rest := []) rfl rfl ?_
    show am_ww 189 0 [.ref 99, .int (nI 1)] [] E (u_I I 99 (upd (I 99) 3 (nI 0))) J S _
    refine w_st (i' := 1) (ls' := [.ref 99, .int (nI 1)]) (st' := [.ref 99]) (E' := E) (I' := (u_I I 99 (upd (I 99) 3 (nI 0)))) (J' := J) (S' := S) am_e189 rfl rfl rfl rfl ?_
    refine w_st (i' := 2) (ls' := [.ref 99, .int (nI 1)]) (st' := [.int (nI 1), .ref 99]) (E' := E) (I' := (u_I I 99 (upd (I 99) 3 (nI 0)))) (J' := J) (S' := S) am_e189 rfl rfl rfl rfl ?_
    refine w_st (i' := 3) (ls' := [.ref 99, .int (nI 1)]) (st' := []) (E' := E) (I' := (u_I (u_I I 99 (upd (I 99) 3 (nI 0))) 99 (upd (upd (I 99) 3 (nI 0)) 3 (nI 1)))) (J' := J) (S' := S) am_e189 rfl rfl rfl rfl ?_
    refine w_eI (uI_0 ..) ?_
    show am_ww 189 3 [.ref 99, .int (nI 1)] [] E (u_I I 99 (upd (upd (I 99) 3 (nI 0)) 3 (nI 1))) J S _
    refine w_st (i' := 4) (ls' := [.ref 99, .int (nI 1)]) (st' := [.int (nI 0)]) (E' := E) (I' := (u_I I 99 (upd (upd (I 99) 3 (nI 0)) 3 (nI 1)))) (J' := J) (S' := S) am_e189 rfl rfl rfl rfl ?_
    refine w_end (E' := E) (I' := (u_I I 99 (upd (upd (I 99) 3 (nI 0)) 3 (nI 1)))) (J' := J) (S' := S) am_e189 rfl rfl rfl (q_mkI ?_)
    show am_ww 188 12 [.ref 99, .int p1, am_U] [.int (nI 0)] E (u_I I 99 (upd (upd (I 99) 3 (nI 0)) 3 (nI 1))) J S _
    exact w_end am_e188 rfl rfl rfl h
  · replace h := h.2 (of_decide_eq_false c)
    refine w_st (i' := 6) (ls' := [.ref 99, .int p1, am_U]) (st' := [.int p1]) (E' := E) (I' := (u_I I 99 (upd (I 99) 3 (nI 0)))) (J' := J) (S' := S) am_e188 rfl rfl rfl rfl ?_
    refine w_st (i' := 7) (ls' := [.ref 99, .int p1, am_U]) (st' := [.ref 99, .int p1]) (E' := E) (I' := (u_I I 99 (upd (I 99) 3 (nI 0)))) (J' := J) (S' := S) am_e188 rfl rfl rfl rfl ?_
    refine w_st (i' := 8) (ls' := [.ref 99, .int p1, am_U]) (st' := [.int ((I 99) 15), .int p1]) (E' := E) (I' := (u_I I 99 (upd (I 99) 3 (nI 0)))) (J' := J) (S' := S) am_e188 rfl rfl rfl rfl ?_
    refine w_if2 am_e188 rfl rfl (fun c => ?_) (fun c => ?_)
    · replace h := h.1 (of_decide_eq_true c)
      refine w_st (i' := 14) (ls' := [.ref 99, .int p1, am_U]) (st' := [.ref 99]) (E' := E) (I' := (u_I I 99 (upd (I 99) 3 (nI 0)))) (J' := J) (S' := S) am_e188 rfl rfl rfl rfl ?_
      refine w_st (i' := 15) (ls' := [.ref 99, .int p1, am_U]) (st' := [.int (nI 0), .ref 99]) (E' := E) (I' := (u_I I 99 (upd (I 99) 3 (nI 0)))) (J' := J) (S' := S) am_e188 rfl rfl rfl rfl ?_
      refine w_st (i' := 16) (ls' := [.ref 99, .int p1, am_U]) (st' := []) (E' := E) (I' := (u_I (u_I I 99 (upd (I 99) 3 (nI 0))) 99 (upd (upd (I 99) 3 (nI 0)) 15 (nI 0)))) (J' := J) (S' := S) am_e188 rfl rfl rfl rfl ?_
      refine w_eI (uI_0 ..) ?_
      show am_ww 188 16 [.ref 99, .int p1, am_U] [] E (u_I I 99 (upd (upd (I 99) 3 (nI 0)) 15 (nI 0))) J S _
      refine w_st (i' := 17) (ls' := [.ref 99, .int p1, am_U]) (st' := [.ref 99]) (E' := E) (I' := (u_I I 99 (upd (upd (I 99) 3 (nI 0)) 15 (nI 0)))) (J' := J) (S' := S) am_e188 rfl rfl rfl rfl ?_
      refine w_st (i' := 18) (ls' := [.ref 99, .int p1, am_U]) (st' := [.int p1, .ref 99]) (E' := E) (I' := (u_I I 99 (upd (upd (I 99) 3 (nI 0)) 15 (nI 0)))) (J' := J) (S' := S) am_e188 rfl rfl rfl rfl ?_
      refine w_st (i' := 19) (ls' := [.ref 99, .int p1, am_U]) (st' := []) (E' := E) (I' := (u_I (u_I I 99 (upd (upd (I 99) 3 (nI 0)) 15 (nI 0))) 99 (upd (upd (upd (I 99) 3 (nI 0)) 15 (nI 0)) 17 p1))) (J' := J) (S' := S) am_e188 rfl rfl rfl rfl ?_
      refine w_eI (uI_0 ..) ?_
      show am_ww 188 19 [.ref 99, .int p1, am_U] [] E (u_I I 99 (upd (upd (upd (I 99) 3 (nI 0)) 15 (nI 0)) 17 p1)) J S _
      refine w_st (i' := 20) (ls' := [.ref 99, .int p1, am_U]) (st' := [.ref 99]) (E' := E) (I' := (u_I I 99 (upd (upd (upd (I 99) 3 (nI 0)) 15 (nI 0)) 17 p1))) (J' := J) (S' := S) am_e188 rfl rfl rfl rfl ?_
      refine w_st (i' := 21) (ls' := [.ref 99, .int p1, am_U]) (st' := [.int (nI 0), .ref 99]) (E' := E) (I' := (u_I I 99 (upd (upd (upd (I 99) 3 (nI 0)) 15 (nI 0)) 17 p1))) (J' := J) (S' := S) am_e188 rfl rfl rfl rfl ?_
      refine w_st (i' := 22) (ls' := [.ref 99, .int p1, am_U]) (st' := []) (E' := E) (I' := (u_I (u_I I 99 (upd (upd (upd (I 99) 3 (nI 0)) 15 (nI 0)) 17 p1)) 99 (upd (upd (upd (upd (I 99) 3 (nI 0)) 15 (nI 0)) 17 p1) 16 (nI 0)))) (J' := J) (S' := S) am_e188 rfl rfl rfl rfl ?_
      refine w_eI (uI_0 ..) ?_
      show am_ww 188 22 [.ref 99, .int p1, am_U] [] E (u_I I 99 (upd (upd (upd (upd (I 99) 3 (nI 0)) 15 (nI 0)) 17 p1) 16 (nI 0))) J S _
      refine w_st (i' := 23) (ls' := [.ref 99, .int p1, am_U]) (st' := [.ref 99]) (E' := E) (I' := (u_I I 99 (upd (upd (upd (upd (I 99) 3 (nI 0)) 15 (nI 0)) 17 p1) 16 (nI 0)))) (J' := J) (S' := S) am_e188 rfl rfl rfl rfl ?_
      refine w_st (i' := 24) (ls' := [.ref 99, .int p1, am_U]) (st' := [.int (nI 0), .ref 99]) (E' := E) (I' := (u_I I 99 (upd (upd (upd (upd (I 99) 3 (nI 0)) 15 (nI 0)) 17 p1) 16 (nI 0)))) (J' := J) (S' := S) am_e188 rfl rfl rfl rfl ?_
      refine w_st (i' := 25) (ls' := [.ref 99, .int p1, am_U]) (st' := []) (E' := E) (I' := (u_I (u_I I 99 (upd (upd (upd (upd (I 99) 3 (nI 0)) 15 (nI 0)) 17 p1) 16 (nI 0))) 99 (upd (upd (upd (upd (upd (I 99) 3 (nI 0)) 15 (nI 0)) 17 p1) 16 (nI 0)) 22 (nI 0)))) (J' := J) (S' := S) am_e188 rfl rfl rfl rfl ?_
      refine w_eI (uI_0 ..) ?_
      show am_ww 188 25 [.ref 99, .int p1, am_U] [] E (u_I I 99 (upd (upd (upd (upd (upd (I 99) 3 (nI 0)) 15 (nI 0)) 17 p1) 16 (nI 0)) 22 (nI 0))) J S _
      refine w_st (i' := 26) (ls' := [.ref 99, .int p1, am_U]) (st' := [.ref 99]) (E' := E) (I' := (u_I I 99 (upd (upd (upd (upd (upd (I 99) 3 (nI 0)) 15 (nI 0)) 17 p1) 16 (nI 0)) 22 (nI 0)))) (J' := J) (S' := S) am_e188 rfl rfl rfl rfl ?_
      refine w_st (i' := 27) (ls' := [.ref 99, .int p1, am_U]) (st' := [.int (-1), .ref 99]) (E' := E) (I' := (u_I I 99 (upd (upd (upd (upd (upd (I 99) 3 (nI 0)) 15 (nI 0)) 17 p1) 16 (nI 0)) 22 (nI 0)))) (J' := J) (S' := S) am_e188 rfl rfl rfl rfl ?_
      refine w_st (i' := 28) (ls' := [.ref 99, .int p1, am_U]) (st' := []) (E' := E) (I' := (u_I (u_I I 99 (upd (upd (upd (upd (upd (I 99) 3 (nI 0)) 15 (nI 0)) 17 p1) 16 (nI 0)) 22 (nI 0))) 99 (upd (upd (upd (upd (upd (upd (I 99) 3 (nI 0)) 15 (nI 0)) 17 p1) 16 (nI 0)) 22 (nI 0)) 24 (-1)))) (J' := J) (S' := S) am_e188 rfl rfl rfl rfl ?_
      refine w_eI (uI_0 ..) ?_
      show am_ww 188 28 [.ref 99, .int p1, am_U] [] E (u_I I 99 (upd (upd (upd (upd (upd (upd (I 99) 3 (nI 0)) 15 (nI 0)) 17 p1) 16 (nI 0)) 22 (nI 0)) 24 (-1))) J S _
      refine w_st (i' := 29) (ls' := [.ref 99, .int p1, am_U]) (st' := [.ref 99]) (E' := E) (I' := (u_I I 99 (upd (upd (upd (upd (upd (upd (I 99) 3 (nI 0)) 15 (nI 0)) 17 p1) 16 (nI 0)) 22 (nI 0)) 24 (-1)))) (J' := J) (S' := S) am_e188 rfl rfl rfl rfl ?_
      refine w_st (i' := 30) (ls' := [.ref 99, .int p1, am_U]) (st' := [.int (-1), .ref 99]) (E' := E) (I' := (u_I I 99 (upd (upd (upd (upd (upd (upd (I 99) 3 (nI 0)) 15 (nI 0)) 17 p1) 16 (nI 0)) 22 (nI 0)) 24 (-1)))) (J' := J) (S' := S) am_e188 rfl rfl rfl rfl ?_
      refine w_st (i' := 31) (ls' := [.ref 99, .int p1, am_U]) (st' := []) (E' := E) (I' := (u_I (u_I I 99 (upd (upd (upd (upd (upd (upd (I 99) 3 (nI 0)) 15 (nI 0)) 17 p1) 16 (nI 0)) 22 (nI 0)) 24 (-1))) 99 (upd (upd (upd (upd (upd (upd (upd (I 99) 3 (nI 0)) 15 (nI 0)) 17 p1) 16 (nI 0)) 22 (nI 0)) 24 (-1)) 29 (-1)))) (J' := J) (S' := S) am_e188 rfl rfl rfl rfl ?_
      refine w_eI (uI_0 ..) ?_
      show am_ww 188 31 [.ref 99, .int p1, am_U] [] E (u_I I 99 (upd (upd (upd (upd (upd (upd (upd (I 99) 3 (nI 0)) 15 (nI 0)) 17 p1) 16 (nI 0)) 22 (nI 0)) 24 (-1)) 29 (-1))) J S _
      refine w_st (i' := 32) (ls' := [.ref 99, .int p1, am_U]) (st' := [.int (nI 0)]) (E' := E) (I' := (u_I I 99 (upd (upd (upd (upd (upd (upd (upd (I 99) 3 (nI 0)) 15 (nI 0)) 17 p1) 16 (nI 0)) 22 (nI 0)) 24 (-1)) 29 (-1)))) (J' := J) (S' := S) am_e188 rfl rfl rfl rfl ?_
      refine w_st (i' := 33) (ls' := [.ref 99, .int p1, .int (nI 0)]) (st' := []) (E' := E) (I' := (u_I I 99 (upd (upd (upd (upd (upd (upd (upd (I 99) 3 (nI 0)) 15 (nI 0)) 17 p1) 16 (nI 0)) 22 (nI 0)) 24 (-1)) 29 (-1)))) (J' := J) (S' := S) am_e188 rfl rfl rfl rfl ?_
      exact h
    · replace h := h.2 (of_decide_eq_false c)
      refine w_st (i' := 10) (ls' := [.ref 99, .int p1, am_U]) (st' := [.ref 99]) (E' := E) (I' := (u_I I 99 (upd (I 99) 3 (nI 0)))) (J' := J) (S' := S) am_e188 rfl rfl rfl rfl ?_
      refine w_st (i' := 11) (ls' := [.ref 99, .int p1, am_U]) (st' := [.int (nI 1), .ref 99]) (E' := E) (I' := (u_I I 99 (upd (I 99) 3 (nI 0)))) (J' := J) (S' := S) am_e188 rfl rfl rfl rfl ?_
      refine w_cI am_e188 rfl rfl (as := [.ref 99, .int (nI 1)]) (rest := []) rfl rfl ?_
      show am_ww 189 0 [.ref 99, .int (nI 1)] [] E (u_I I 99 (upd (I 99) 3 (nI 0))) J S _
      refine w_st (i' := 1) (ls' := [.ref 99, .int (nI 1)]) (st' := [.ref 99]) (E' := E) (I' := (u_I I 99 (upd (I 99) 3 (nI 0)))) (J' := J) (S' := S) am_e189 rfl rfl rfl rfl ?_
      refine w_st (i' := 2) (ls' := [.ref 99, .int (nI 1)]) (st' := [.int (nI 1), .ref 99]) (E' := E) (I' := (u_I I 99 (upd (I 99) 3 (nI 0)))) (J' := J) (S' := S) am_e189 rfl rfl rfl rfl ?_
      refine w_st (i' := 3) (ls' := [.ref 99, .int (nI 1)]) (st' := []) (E' := E) (I' := (u_I (u_I I 99 (upd (I 99) 3 (nI 0))) 99 (upd (upd (I 99) 3 (nI 0)) 3 (nI 1)))) (J' := J) (S' := S) am_e189 rfl rfl rfl rfl ?_
      refine w_eI (uI_0 ..) ?_
      show am_ww 189 3 [.ref 99, .int (nI 1)] [] E (u_I I 99 (upd (upd (I 99) 3 (nI 0)) 3 (nI 1))) J S _
      refine w_st (i' := 4) (ls' := [.ref 99, .int (nI 1)]) (st' := [.int (nI 0)]) (E' := E) (I' := (u_I I 99 (upd (upd (I 99) 3 (nI 0)) 3 (nI 1)))) (J' := J) (S' := S) am_e189 rfl rfl rfl rfl ?_
      refine w_end (E' := E) (I' := (u_I I 99 (upd (upd (I 99) 3 (nI 0)) 3 (nI 1)))) (J' := J) (S' := S) am_e189 rfl rfl rfl (q_mkI ?_)
      show am_ww 188 12 [.ref 99, .int p1, am_U] [.int (nI 0)] E (u_I I 99 (upd (upd (I 99) 3 (nI 0)) 3 (nI 1))) J S _
      exact w_end am_e188 rfl rfl rfl h
theorem g188_33 {d1 : Value} {x2 : Int32} {E : am_Ev} {I : Nat → Nat → Int32} {J : Nat → Nat → Int64} {S : Nat → Nat → Option Nat} {Q : am_Qt} (hd1 : am_isL d1 = false) (h : ((nI 5) ≤ x2 → (am_ww 188 66 [.ref 99, d1, .int (nI 0)] [] E I J S Q)) ∧ (¬ (nI 5) ≤ x2 → (∀ w5 : Int32, w5 = (if x2 = 0 then nI 3 else (if x2 = (nI 1) then nI 1 else (if x2 = (nI 2) then nI 10 else (if x2 = (nI 3) then nI 4 else nI 0)))) → (vp_in ((nI 5) + x2) 10 ∧ (am_ww 188 33 [.ref 99, d1, .int (x2 + nI 1)] [] E (u_I I 103 (upd (I 103) (((nI 5) + x2).toNatClampNeg) w5)) J S Q))))) : am_ww 188 33 [.ref 99, d1, .int x2] [] E I J S Q := by
  refine w_st (i' := 34) (ls' := [.ref 99, d1, .int x2]) (st' := [.int x2]) (E' := E) (I' := I) (J' := J) (S' := S) am_e188 rfl rfl rfl rfl ?_
  refine w_st (i' := 35) (ls' := [.ref 99, d1, .int x2]) (st' := [.int (nI 5), .int x2]) (E' := E) (I' := I) (J' := J) (S' := S) am_e188 rfl rfl rfl rfl ?_
  refine w_if2 am_e188 rfl rfl (fun c => ?_) (fun c => ?_)
  · replace h := h.1 (of_decide_eq_true c)
    refine w_st (i' := 65) (ls' := [.ref 99, d1, .int x2]) (st' := [.int (nI 0)]) (E' := E) (I' := I) (J' := J) (S' := S) am_e188 rfl rfl rfl rfl ?_
    refine w_st (i' := 66) (ls' := [.ref 99, d1, .int (nI 0)]) (st' := []) (E' := E) (I' := I) (J' := J) (S' := S) am_e188 rfl rfl rfl (by simp [am_step, am_sto, hd1]) ?_
    exact h
  · replace h := h.2 (of_decide_eq_false c)
    refine w_st (i' := 37) (ls' := [.ref 99, d1, .int x2]) (st' := [.ref 99]) (E' := E) (I' := I) (J' := J) (S' := S) am_e188 rfl rfl rfl rfl ?_
    refine w_st (i' := 38) (ls' := [.ref 99, d1, .int x2]) (st' := [.ref 103]) (E' := E) (I' := I) (J' := J) (S' := S) am_e188 rfl rfl rfl rfl ?_
    refine w_st (i' := 39) (ls' := [.ref 99, d1, .int x2]) (st' := [.int (nI 5), .ref 103]) (E' := E) (I' := I) (J' := J) (S' := S) am_e188 rfl rfl rfl rfl ?_
    refine w_st (i' := 40) (ls' := [.ref 99, d1, .int x2]) (st' := [.int x2, .int (nI 5), .ref 103]) (E' := E) (I' := I) (J' := J) (S' := S) am_e188 rfl rfl rfl rfl ?_
    refine w_st (i' := 41) (ls' := [.ref 99, d1, .int x2]) (st' := [.int ((nI 5) + x2), .ref 103]) (E' := E) (I' := I) (J' := J) (S' := S) am_e188 rfl rfl rfl rfl ?_
    refine w_st (i' := 42) (ls' := [.ref 99, d1, .int x2]) (st' := [.int x2, .int ((nI 5) + x2), .ref 103]) (E' := E) (I' := I) (J' := J) (S' := S) am_e188 rfl rfl rfl rfl ?_
    refine w_mg (i := 61) (ls' := [.ref 99, d1, .int x2]) (st' := [.int (if x2 = 0 then nI 3 else (if x2 = (nI 1) then nI 1 else (if x2 = (nI 2) then nI 10 else (if x2 = (nI 3) then nI 4 else nI 0)))), .int ((nI 5) + x2), .ref 103]) (fun hm => ?_) ?_
    · clear h
      refine w_if1 am_e188 rfl rfl (fun c => ?_) (fun c => ?_)
      · have m1 : ¬ (x2 = 0) := (of_decide_eq_true c)
        refine w_st (i' := 46) (ls' := [.ref 99, d1, .int x2]) (st' := [.int x2, .int ((nI 5) + x2), .ref 103]) (E' := E) (I' := I) (J' := J) (S' := S) am_e188 rfl rfl rfl rfl ?_
        refine w_st (i' := 47) (ls' := [.ref 99, d1, .int x2]) (st' := [.int (nI 1), .int x2, .int ((nI 5) + x2), .ref 103]) (E' := E) (I' := I) (J' := J) (S' := S) am_e188 rfl rfl rfl rfl ?_
        refine w_if2 am_e188 rfl rfl (fun c => ?_) (fun c => ?_)
        · have m2 : ¬ (x2 = (nI 1)) := (of_decide_eq_true c)
          refine w_st (i' := 51) (ls' := [.ref 99, d1, .int x2]) (st' := [.int x2, .int ((nI 5) + x2), .ref 103]) (E' := E) (I' := I) (J' := J) (S' := S) am_e188 rfl rfl rfl rfl ?_
          refine w_st (i' := 52) (ls' := [.ref 99, d1, .int x2]) (st' := [.int (nI 2), .int x2, .int ((nI 5) + x2), .ref 103]) (E' := E) (I' := I) (J' := J) (S' := S) am_e188 rfl rfl rfl rfl ?_
          refine w_if2 am_e188 rfl rfl (fun c => ?_) (fun c => ?_)
          · have m3 : ¬ (x2 = (nI 2)) := (of_decide_eq_true c)
            refine w_st (i' := 56) (ls' := [.ref 99, d1, .int x2]) (st' := [.int x2, .int ((nI 5) + x2), .ref 103]) (E' := E) (I' := I) (J' := J) (S' := S) am_e188 rfl rfl rfl rfl ?_
            refine w_st (i' := 57) (ls' := [.ref 99, d1, .int x2]) (st' := [.int (nI 3), .int x2, .int ((nI 5) + x2), .ref 103]) (E' := E) (I' := I) (J' := J) (S' := S) am_e188 rfl rfl rfl rfl ?_
            refine w_if2 am_e188 rfl rfl (fun c => ?_) (fun c => ?_)
            · have m4 : ¬ (x2 = (nI 3)) := (of_decide_eq_true c)
              refine w_st (i' := 61) (ls' := [.ref 99, d1, .int x2]) (st' := [.int (nI 0), .int ((nI 5) + x2), .ref 103]) (E' := E) (I' := I) (J' := J) (S' := S) am_e188 rfl rfl rfl rfl ?_
              first | exact hm | (simp only [if_neg m1, if_neg m2, if_neg m3, if_neg m4] at hm; exact hm)
            · have m4 : x2 = (nI 3) := (Decidable.not_not.mp (of_decide_eq_false c))
              refine w_st (i' := 59) (ls' := [.ref 99, d1, .int x2]) (st' := [.int (nI 4), .int ((nI 5) + x2), .ref 103]) (E' := E) (I' := I) (J' := J) (S' := S) am_e188 rfl rfl rfl rfl ?_
              refine w_st (i' := 61) (ls' := [.ref 99, d1, .int x2]) (st' := [.int (nI 4), .int ((nI 5) + x2), .ref 103]) (E' := E) (I' := I) (J' := J) (S' := S) am_e188 rfl rfl rfl rfl ?_
              first | exact hm | (simp only [if_neg m1, if_neg m2, if_neg m3, if_pos m4] at hm; exact hm)
          · have m3 : x2 = (nI 2) := (Decidable.not_not.mp (of_decide_eq_false c))
            refine w_st (i' := 54) (ls' := [.ref 99, d1, .int x2]) (st' := [.int (nI 10), .int ((nI 5) + x2), .ref 103]) (E' := E) (I' := I) (J' := J) (S' := S) am_e188 rfl rfl rfl rfl ?_
            refine w_st (i' := 61) (ls' := [.ref 99, d1, .int x2]) (st' := [.int (nI 10), .int ((nI 5) + x2), .ref 103]) (E' := E) (I' := I) (J' := J) (S' := S) am_e188 rfl rfl rfl rfl ?_
            first | exact hm | (simp only [if_neg m1, if_neg m2, if_pos m3] at hm; exact hm)
        · have m2 : x2 = (nI 1) := (Decidable.not_not.mp (of_decide_eq_false c))
          refine w_st (i' := 49) (ls' := [.ref 99, d1, .int x2]) (st' := [.int (nI 1), .int ((nI 5) + x2), .ref 103]) (E' := E) (I' := I) (J' := J) (S' := S) am_e188 rfl rfl rfl rfl ?_
          refine w_st (i' := 61) (ls' := [.ref 99, d1, .int x2]) (st' := [.int (nI 1), .int ((nI 5) + x2), .ref 103]) (E' := E) (I' := I) (J' := J) (S' := S) am_e188 rfl rfl rfl rfl ?_
          first | exact hm | (simp only [if_neg m1, if_pos m2] at hm; exact hm)
      · have m1 : x2 = 0 := (Decidable.not_not.mp (of_decide_eq_false c))
        refine w_st (i' := 44) (ls' := [.ref 99, d1, .int x2]) (st' := [.int (nI 3), .int ((nI 5) + x2), .ref 103]) (E' := E) (I' := I) (J' := J) (S' := S) am_e188 rfl rfl rfl rfl ?_
        refine w_st (i' := 61) (ls' := [.ref 99, d1, .int x2]) (st' := [.int (nI 3), .int ((nI 5) + x2), .ref 103]) (E' := E) (I' := I) (J' := J) (S' := S) am_e188 rfl rfl rfl rfl ?_
        first | exact hm | (simp only [if_pos m1] at hm; exact hm)
    refine w_var (fun w5 => am_ww 188 61 [.ref 99, d1, .int x2] [.int w5, .int ((nI 5) + x2), .ref 103] E I J S _) (if x2 = 0 then nI 3 else (if x2 = (nI 1) then nI 1 else (if x2 = (nI 2) then nI 10 else (if x2 = (nI 3) then nI 4 else nI 0)))) (fun w5 hw5 => ?_)
    replace h := h w5 hw5
    have hf6 := h.1
    replace h := h.2
    refine w_is (k := 103) (n := 10) (jn := ((nI 5) + x2).toNatClampNeg) am_e188 rfl rfl (by decide) hf6 rfl ?_
    show am_ww 188 62 [.ref 99, d1, .int x2] [] E (u_I I 103 (upd (I 103) (((nI 5) + x2).toNatClampNeg) w5)) J S _
    refine w_st (i' := 63) (ls' := [.ref 99, d1, .int (x2 + nI 1)]) (st' := []) (E' := E) (I' := (u_I I 103 (upd (I 103) (((nI 5) + x2).toNatClampNeg) w5))) (J' := J) (S' := S) am_e188 rfl rfl rfl (by simp [am_step, am_sto, am_inc, hd1]) ?_
    refine w_st (i' := 33) (ls' := [.ref 99, d1, .int (x2 + nI 1)]) (st' := []) (E' := E) (I' := (u_I I 103 (upd (I 103) (((nI 5) + x2).toNatClampNeg) w5))) (J' := J) (S' := S) am_e188 rfl rfl rfl rfl ?_
    exact h
theorem g188_66 {d1 : Value} {x2 : Int32} {E : am_Ev} {I : Nat → Nat → Int32} {J : Nat → Nat → Int64} {S : Nat → Nat → Option Nat} {Q : am_Qt} (hd1 : am_isL d1 = false) (h : ((nI 16) ≤ x2 → (am_cl 190 [.ref 99] E I J S (q_V fun E1 I1 J1 S1 => am_ww 188 82 [.ref 99, d1, .int (nI 0)] [] E1 I1 J1 S1 Q))) ∧ (¬ (nI 16) ≤ x2 → (vp_in ((nI 16) + x2) 32 ∧ (am_ww 188 66 [.ref 99, d1, .int (x2 + nI 1)] [] E (u_I I 104 (upd (I 104) (((nI 16) + x2).toNatClampNeg) (nI 0))) J S Q)))) : am_ww 188 66 [.ref 99, d1, .int x2] [] E I J S Q := by
  refine w_st (i' := 67) (ls' := [.ref 99, d1, .int x2]) (st' := [.int x2]) (E' := E) (I' := I) (J' := J) (S' := S) am_e188 rfl rfl rfl rfl ?_
  refine w_st (i' := 68) (ls' := [.ref 99, d1, .int x2]) (st' := [.int (nI 16), .int x2]) (E' := E) (I' := I) (J' := J) (S' := S) am_e188 rfl rfl rfl rfl ?_
  refine w_if2 am_e188 rfl rfl (fun c => ?_) (fun c => ?_)
  · replace h := h.1 (of_decide_eq_true c)
    refine w_st (i' := 79) (ls' := [.ref 99, d1, .int x2]) (st' := [.ref 99]) (E' := E) (I' := I) (J' := J) (S' := S) am_e188 rfl rfl rfl rfl ?_
    refine w_cV am_e188 rfl rfl (as := [.ref 99]) (rest := []) rfl rfl (am_ww.mono h ?_)
    rintro _ E1 I1 J1 S1 ⟨rfl, h⟩
    refine q_mkV ?_
    refine w_st (i' := 81) (ls' := [.ref 99, d1, .int x2]) (st' := [.int (nI 0)]) (E' := E1) (I' := I1) (J' := J1) (S' := S1) am_e188 rfl rfl rfl rfl ?_
    refine w_st (i' := 82) (ls' := [.ref 99, d1, .int (nI 0)]) (st' := []) (E' := E1) (I' := I1) (J' := J1) (S' := S1) am_e188 rfl rfl rfl (by simp [am_step, am_sto, hd1]) ?_
    exact h
  · replace h := h.2 (of_decide_eq_false c)
    refine w_st (i' := 70) (ls' := [.ref 99, d1, .int x2]) (st' := [.ref 99]) (E' := E) (I' := I) (J' := J) (S' := S) am_e188 rfl rfl rfl rfl ?_
    refine w_st (i' := 71) (ls' := [.ref 99, d1, .int x2]) (st' := [.ref 104]) (E' := E) (I' := I) (J' := J) (S' := S) am_e188 rfl rfl rfl rfl ?_
    refine w_st (i' := 72) (ls' := [.ref 99, d1, .int x2]) (st' := [.int (nI 16), .ref 104]) (E' := E) (I' := I) (J' := J) (S' := S) am_e188 rfl rfl rfl rfl ?_
    refine w_st (i' := 73) (ls' := [.ref 99, d1, .int x2]) (st' := [.int x2, .int (nI 16), .ref 104]) (E' := E) (I' := I) (J' := J) (S' := S) am_e188 rfl rfl rfl rfl ?_
    refine w_st (i' := 74) (ls' := [.ref 99, d1, .int x2]) (st' := [.int ((nI 16) + x2), .ref 104]) (E' := E) (I' := I) (J' := J) (S' := S) am_e188 rfl rfl rfl rfl ?_
    refine w_st (i' := 75) (ls' := [.ref 99, d1, .int x2]) (st' := [.int (nI 0), .int ((nI 16) + x2), .ref 104]) (E' := E) (I' := I) (J' := J) (S' := S) am_e188 rfl rfl rfl rfl ?_
    have hf2 := h.1
    replace h := h.2
    refine w_is (k := 104) (n := 32) (jn := ((nI 16) + x2).toNatClampNeg) am_e188 rfl rfl (by decide) hf2 rfl ?_
    show am_ww 188 76 [.ref 99, d1, .int x2] [] E (u_I I 104 (upd (I 104) (((nI 16) + x2).toNatClampNeg) (nI 0))) J S _
    refine w_st (i' := 77) (ls' := [.ref 99, d1, .int (x2 + nI 1)]) (st' := []) (E' := E) (I' := (u_I I 104 (upd (I 104) (((nI 16) + x2).toNatClampNeg) (nI 0)))) (J' := J) (S' := S) am_e188 rfl rfl rfl (by simp [am_step, am_sto, am_inc, hd1]) ?_
    refine w_st (i' := 66) (ls' := [.ref 99, d1, .int (x2 + nI 1)]) (st' := []) (E' := E) (I' := (u_I I 104 (upd (I 104) (((nI 16) + x2).toNatClampNeg) (nI 0)))) (J' := J) (S' := S) am_e188 rfl rfl rfl rfl ?_
    exact h
theorem g188_82 {d1 : Value} {x2 : Int32} {E : am_Ev} {I : Nat → Nat → Int32} {J : Nat → Nat → Int64} {S : Nat → Nat → Option Nat} {Q : am_Qt} (hd1 : am_isL d1 = false) (h : (((I 99) 22) = 0 → ((((I 99) 18) = 0 → ((((I 99) 22) = 0 → ((((I 99) 29) = (-1) → (am_ww 188 107 [.ref 99, d1, .int x2] [] E I J S Q)) ∧ (¬ ((I 99) 29) = (-1) → (am_ww 188 107 [.ref 99, d1, .int x2] [] E (u_I I 99 (upd (upd (I 99) 22 (nI 3)) 23 ((I 99) 29))) J S Q)))) ∧ (¬ ((I 99) 22) = 0 → (am_ww 188 107 [.ref 99, d1, .int x2] [] E I J S Q)))) ∧ (¬ ((I 99) 18) = 0 → (am_cl 194 [.ref 99, .int x2] E I J S (q_I fun v1 E1 I1 J1 S1 => am_ww 188 82 [.ref 99, d1, .int v1] [] E1 I1 J1 S1 Q))))) ∧ (¬ ((I 99) 22) = 0 → ((((I 99) 22) = 0 → ((((I 99) 29) = (-1) → (am_ww 188 107 [.ref 99, d1, .int x2] [] E I J S Q)) ∧ (¬ ((I 99) 29) = (-1) → (am_ww 188 107 [.ref 99, d1, .int x2] [] E (u_I I 99 (upd (upd (I 99) 22 (nI 3)) 23 ((I 99) 29))) J S Q)))) ∧ (¬ ((I 99) 22) = 0 → (am_ww 188 107 [.ref 99, d1, .int x2] [] E I J S Q))))) : am_ww 188 82 [.ref 99, d1, .int x2] [] E I J S Q := by
  refine w_st (i' := 83) (ls' := [.ref 99, d1, .int x2]) (st' := [.ref 99]) (E' := E) (I' := I) (J' := J) (S' := S) am_e188 rfl rfl rfl rfl ?_
  refine w_st (i' := 84) (ls' := [.ref 99, d1, .int x2]) (st' := [.int ((I 99) 22)]) (E' := E) (I' := I) (J' := J) (S' := S) am_e188 rfl rfl rfl rfl ?_
  refine w_if1 am_e188 rfl rfl (fun c => ?_) (fun c => ?_)
  · replace h := h.2 (of_decide_eq_true c)
    refine w_st (i' := 94) (ls' := [.ref 99, d1, .int x2]) (st' := [.ref 99]) (E' := E) (I' := I) (J' := J) (S' := S) am_e188 rfl rfl rfl rfl ?_
    refine w_st (i' := 95) (ls' := [.ref 99, d1, .int x2]) (st' := [.int ((I 99) 22)]) (E' := E) (I' := I) (J' := J) (S' := S) am_e188 rfl rfl rfl rfl ?_
    refine w_if1 am_e188 rfl rfl (fun c => ?_) (fun c => ?_)
    · replace h := h.2 (of_decide_eq_true c)
      exact h
    · replace h := h.1 (Decidable.not_not.mp (of_decide_eq_false c))
      refine w_st (i' := 97) (ls' := [.ref 99, d1, .int x2]) (st' := [.ref 99]) (E' := E) (I' := I) (J' := J) (S' := S) am_e188 rfl rfl rfl rfl ?_
      refine w_st (i' := 98) (ls' := [.ref 99, d1, .int x2]) (st' := [.int ((I 99) 29)]) (E' := E) (I' := I) (J' := J) (S' := S) am_e188 rfl rfl rfl rfl ?_
      refine w_st (i' := 99) (ls' := [.ref 99, d1, .int x2]) (st' := [.int (-1), .int ((I 99) 29)]) (E' := E) (I' := I) (J' := J) (S' := S) am_e188 rfl rfl rfl rfl ?_
      refine w_if2 am_e188 rfl rfl (fun c => ?_) (fun c => ?_)
      · replace h := h.1 (of_decide_eq_true c)
        exact h
      · replace h := h.2 (of_decide_eq_false c)
        refine w_st (i' := 101) (ls' := [.ref 99, d1, .int x2]) (st' := [.ref 99]) (E' := E) (I' := I) (J' := J) (S' := S) am_e188 rfl rfl rfl rfl ?_
        refine w_st (i' := 102) (ls' := [.ref 99, d1, .int x2]) (st' := [.int (nI 3), .ref 99]) (E' := E) (I' := I) (J' := J) (S' := S) am_e188 rfl rfl rfl rfl ?_
        refine w_st (i' := 103) (ls' := [.ref 99, d1, .int x2]) (st' := []) (E' := E) (I' := (u_I I 99 (upd (I 99) 22 (nI 3)))) (J' := J) (S' := S) am_e188 rfl rfl rfl rfl ?_
        refine w_st (i' := 104) (ls' := [.ref 99, d1, .int x2]) (st' := [.ref 99]) (E' := E) (I' := (u_I I 99 (upd (I 99) 22 (nI 3)))) (J' := J) (S' := S) am_e188 rfl rfl rfl rfl ?_
        refine w_st (i' := 105) (ls' := [.ref 99, d1, .int x2]) (st' := [.ref 99, .ref 99]) (E' := E) (I' := (u_I I 99 (upd (I 99) 22 (nI 3)))) (J' := J) (S' := S) am_e188 rfl rfl rfl rfl ?_
        refine w_st (i' := 106) (ls' := [.ref 99, d1, .int x2]) (st' := [.int ((I 99) 29), .ref 99]) (E' := E) (I' := (u_I I 99 (upd (I 99) 22 (nI 3)))) (J' := J) (S' := S) am_e188 rfl rfl rfl rfl ?_
        refine w_st (i' := 107) (ls' := [.ref 99, d1, .int x2]) (st' := []) (E' := E) (I' := (u_I (u_I I 99 (upd (I 99) 22 (nI 3))) 99 (upd (upd (I 99) 22 (nI 3)) 23 ((I 99) 29)))) (J' := J) (S' := S) am_e188 rfl rfl rfl rfl ?_
        refine w_eI (uI_0 ..) ?_
        show am_ww 188 107 [.ref 99, d1, .int x2] [] E (u_I I 99 (upd (upd (I 99) 22 (nI 3)) 23 ((I 99) 29))) J S _
        exact h
  · replace h := h.1 (Decidable.not_not.mp (of_decide_eq_false c))
    refine w_st (i' := 86) (ls' := [.ref 99, d1, .int x2]) (st' := [.ref 99]) (E' := E) (I' := I) (J' := J) (S' := S) am_e188 rfl rfl rfl rfl ?_
    refine w_st (i' := 87) (ls' := [.ref 99, d1, .int x2]) (st' := [.int ((I 99) 18)]) (E' := E) (I' := I) (J' := J) (S' := S) am_e188 rfl rfl rfl rfl ?_
    refine w_if1 am_e188 rfl rfl (fun c => ?_) (fun c => ?_)
    · replace h := h.1 (of_decide_eq_true c)
      refine w_st (i' := 94) (ls' := [.ref 99, d1, .int x2]) (st' := [.ref 99]) (E' := E) (I' := I) (J' := J) (S' := S) am_e188 rfl rfl rfl rfl ?_
      refine w_st (i' := 95) (ls' := [.ref 99, d1, .int x2]) (st' := [.int ((I 99) 22)]) (E' := E) (I' := I) (J' := J) (S' := S) am_e188 rfl rfl rfl rfl ?_
      refine w_if1 am_e188 rfl rfl (fun c => ?_) (fun c => ?_)
      · replace h := h.2 (of_decide_eq_true c)
        exact h
      · replace h := h.1 (Decidable.not_not.mp (of_decide_eq_false c))
        refine w_st (i' := 97) (ls' := [.ref 99, d1, .int x2]) (st' := [.ref 99]) (E' := E) (I' := I) (J' := J) (S' := S) am_e188 rfl rfl rfl rfl ?_
        refine w_st (i' := 98) (ls' := [.ref 99, d1, .int x2]) (st' := [.int ((I 99) 29)]) (E' := E) (I' := I) (J' := J) (S' := S) am_e188 rfl rfl rfl rfl ?_
        refine w_st (i' := 99) (ls' := [.ref 99, d1, .int x2]) (st' := [.int (-1), .int ((I 99) 29)]) (E' := E) (I' := I) (J' := J) (S' := S) am_e188 rfl rfl rfl rfl ?_
        refine w_if2 am_e188 rfl rfl (fun c => ?_) (fun c => ?_)
        · replace h := h.1 (of_decide_eq_true c)
          exact h
        · replace h := h.2 (of_decide_eq_false c)
          refine w_st (i' := 101) (ls' := [.ref 99, d1, .int x2]) (st' := [.ref 99]) (E' := E) (I' := I) (J' := J) (S' := S) am_e188 rfl rfl rfl rfl ?_
          refine w_st (i' := 102) (ls' := [.ref 99, d1, .int x2]) (st' := [.int (nI 3), .ref 99]) (E' := E) (I' := I) (J' := J) (S' := S) am_e188 rfl rfl rfl rfl ?_
          refine w_st (i' := 103) (ls' := [.ref 99, d1, .int x2]) (st' := []) (E' := E) (I' := (u_I I 99 (upd (I 99) 22 (nI 3)))) (J' := J) (S' := S) am_e188 rfl rfl rfl rfl ?_
          refine w_st (i' := 104) (ls' := [.ref 99, d1, .int x2]) (st' := [.ref 99]) (E' := E) (I' := (u_I I 99 (upd (I 99) 22 (nI 3)))) (J' := J) (S' := S) am_e188 rfl rfl rfl rfl ?_
          refine w_st (i' := 105) (ls' := [.ref 99, d1, .int x2]) (st' := [.ref 99, .ref 99]) (E' := E) (I' := (u_I I 99 (upd (I 99) 22 (nI 3)))) (J' := J) (S' := S) am_e188 rfl rfl rfl rfl ?_
          refine w_st (i' := 106) (ls' := [.ref 99, d1, .int x2]) (st' := [.int ((I 99) 29), .ref 99]) (E' := E) (I' := (u_I I 99 (upd (I 99) 22 (nI 3)))) (J' := J) (S' := S) am_e188 rfl rfl rfl rfl ?_
          refine w_st (i' := 107) (ls' := [.ref 99, d1, .int x2]) (st' := []) (E' := E) (I' := (u_I (u_I I 99 (upd (I 99) 22 (nI 3))) 99 (upd (upd (I 99) 22 (nI 3)) 23 ((I 99) 29)))) (J' := J) (S' := S) am_e188 rfl rfl rfl rfl ?_
          refine w_eI (uI_0 ..) ?_
          show am_ww 188 107 [.ref 99, d1, .int x2] [] E (u_I I 99 (upd (upd (I 99) 22 (nI 3)) 23 ((I 99) 29))) J S _
          exact h
    · replace h := h.2 (of_decide_eq_false c)
      refine w_st (i' := 89) (ls' := [.ref 99, d1, .int x2]) (st' := [.ref 99]) (E' := E) (I' := I) (J' := J) (S' := S) am_e188 rfl rfl rfl rfl ?_
      refine w_st (i' := 90) (ls' := [.ref 99, d1, .int x2]) (st' := [.int x2, .ref 99]) (E' := E) (I' := I) (J' := J) (S' := S) am_e188 rfl rfl rfl rfl ?_
      refine w_cI am_e188 rfl rfl (as := [.ref 99, .int x2]) (rest := []) rfl rfl (am_ww.mono h ?_)
      rintro _ E1 I1 J1 S1 ⟨v1, rfl, h⟩
      refine q_mkI ?_
      refine w_st (i' := 92) (ls' := [.ref 99, d1, .int v1]) (st' := []) (E' := E1) (I' := I1) (J' := J1) (S' := S1) am_e188 rfl rfl rfl (by simp [am_step, am_sto, hd1]) ?_
      refine w_st (i' := 82) (ls' := [.ref 99, d1, .int v1]) (st' := []) (E' := E1) (I' := I1) (J' := J1) (S' := S1) am_e188 rfl rfl rfl rfl ?_
      exact h
theorem g188_107 {d1 : Value} {d2 : Value} {E : am_Ev} {I : Nat → Nat → Int32} {J : Nat → Nat → Int64} {S : Nat → Nat → Option Nat} {Q : am_Qt} (hd1 : am_isL d1 = false) (hd2 : am_isL d2 = false) (h : (((I 99) 22) = 0 → (am_cl 213 [.ref 99] E I J S (q_V fun E1 I1 J1 S1 => Q (.inl (some (.int (nI 0)))) E1 I1 J1 S1))) ∧ (¬ ((I 99) 22) = 0 → (Q (.inl (some (.int ((I 99) 22)))) E (u_I (u_I I 99 (upd (I 99) 24 ((I 99) 23))) 110 (upd (I 110) 0 (((I 110) 0) + (nI 1)))) J S))) : am_ww 188 107 [.ref 99, d1, d2] [] E I J S Q := by
  refine w_st (i' := 108) (ls' := [.ref 99, d1, d2]) (st' := [.ref 99]) (E' := E) (I' := I) (J' := J) (S' := S) am_e188 rfl rfl rfl rfl ?_
  refine w_st (i' := 109) (ls' := [.ref 99, d1, d2]) (st' := [.int ((I 99) 22)]) (E' := E) (I' := I) (J' := J) (S' := S) am_e188 rfl rfl rfl rfl ?_
  refine w_if1 am_e188 rfl rfl (fun c => ?_) (fun c => ?_)
  · replace h := h.1 (of_decide_eq_true c)
    refine w_st (i' := 126) (ls' := [.ref 99, d1, d2]) (st' := [.ref 99]) (E' := E) (I' := I) (J' := J) (S' := S) am_e188 rfl rfl rfl rfl ?_
    refine w_cV am_e188 rfl rfl (as := [.ref 99]) (rest := []) rfl rfl (am_ww.mono h ?_)
    rintro _ E1 I1 J1 S1 ⟨rfl, h⟩
    refine q_mkV ?_
    refine w_st (i' := 128) (ls' := [.ref 99, d1, d2]) (st' := [.int (nI 0)]) (E' := E1) (I' := I1) (J' := J1) (S' := S1) am_e188 rfl rfl rfl rfl ?_
    exact w_end am_e188 rfl rfl rfl h
  · replace h := h.2 (of_decide_eq_false c)
    refine w_st (i' := 111) (ls' := [.ref 99, d1, d2]) (st' := [.ref 99]) (E' := E) (I' := I) (J' := J) (S' := S) am_e188 rfl rfl rfl rfl ?_
    refine w_st (i' := 112) (ls' := [.ref 99, d1, d2]) (st' := [.ref 99, .ref 99]) (E' := E) (I' := I) (J' := J) (S' := S) am_e188 rfl rfl rfl rfl ?_
    refine w_st (i' := 113) (ls' := [.ref 99, d1, d2]) (st' := [.int ((I 99) 23), .ref 99]) (E' := E) (I' := I) (J' := J) (S' := S) am_e188 rfl rfl rfl rfl ?_
    refine w_st (i' := 114) (ls' := [.ref 99, d1, d2]) (st' := []) (E' := E) (I' := (u_I I 99 (upd (I 99) 24 ((I 99) 23)))) (J' := J) (S' := S) am_e188 rfl rfl rfl rfl ?_
    refine w_st (i' := 115) (ls' := [.ref 99, d1, d2]) (st' := [.ref 99]) (E' := E) (I' := (u_I I 99 (upd (I 99) 24 ((I 99) 23)))) (J' := J) (S' := S) am_e188 rfl rfl rfl rfl ?_
    refine w_st (i' := 116) (ls' := [.ref 99, d1, d2]) (st' := [.ref 110]) (E' := E) (I' := (u_I I 99 (upd (I 99) 24 ((I 99) 23)))) (J' := J) (S' := S) am_e188 rfl rfl rfl rfl ?_
    refine w_st (i' := 117) (ls' := [.ref 99, d1, d2]) (st' := [.int (nI 0), .ref 110]) (E' := E) (I' := (u_I I 99 (upd (I 99) 24 ((I 99) 23)))) (J' := J) (S' := S) am_e188 rfl rfl rfl rfl ?_
    refine w_st (i' := 118) (ls' := [.ref 99, d1, d2]) (st' := [.int (nI 0), .ref 110, .int (nI 0), .ref 110]) (E' := E) (I' := (u_I I 99 (upd (I 99) 24 ((I 99) 23)))) (J' := J) (S' := S) am_e188 rfl rfl rfl rfl ?_
    refine w_ia (k := 110) (n := 2) (jn := 0) am_e188 rfl rfl (by decide) (vp_in_nI (by decide) (by decide)) rfl ?_
    show am_ww 188 119 [.ref 99, d1, d2] [.int ((I 110) 0), .int (nI 0), .ref 110] E (u_I I 99 (upd (I 99) 24 ((I 99) 23))) J S _
    refine w_st (i' := 120) (ls' := [.ref 99, d1, d2]) (st' := [.int (nI 1), .int ((I 110) 0), .int (nI 0), .ref 110]) (E' := E) (I' := (u_I I 99 (upd (I 99) 24 ((I 99) 23)))) (J' := J) (S' := S) am_e188 rfl rfl rfl rfl ?_
    refine w_st (i' := 121) (ls' := [.ref 99, d1, d2]) (st' := [.int (((I 110) 0) + (nI 1)), .int (nI 0), .ref 110]) (E' := E) (I' := (u_I I 99 (upd (I 99) 24 ((I 99) 23)))) (J' := J) (S' := S) am_e188 rfl rfl rfl rfl ?_
    refine w_is (k := 110) (n := 2) (jn := 0) am_e188 rfl rfl (by decide) (vp_in_nI (by decide) (by decide)) rfl ?_
    show am_ww 188 122 [.ref 99, d1, d2] [] E (u_I (u_I I 99 (upd (I 99) 24 ((I 99) 23))) 110 (upd (I 110) 0 (((I 110) 0) + (nI 1)))) J S _
    refine w_st (i' := 123) (ls' := [.ref 99, d1, d2]) (st' := [.ref 99]) (E' := E) (I' := (u_I (u_I I 99 (upd (I 99) 24 ((I 99) 23))) 110 (upd (I 110) 0 (((I 110) 0) + (nI 1))))) (J' := J) (S' := S) am_e188 rfl rfl rfl rfl ?_
    refine w_st (i' := 124) (ls' := [.ref 99, d1, d2]) (st' := [.int ((I 99) 22)]) (E' := E) (I' := (u_I (u_I I 99 (upd (I 99) 24 ((I 99) 23))) 110 (upd (I 110) 0 (((I 110) 0) + (nI 1))))) (J' := J) (S' := S) am_e188 rfl rfl rfl rfl ?_
    exact w_ri am_e188 rfl rfl h
-- 213 takeOver
theorem g213_0  {E : am_Ev} {I : Nat → Nat → Int32} {J : Nat → Nat → Int64} {S : Nat → Nat → Option Nat} {Q : am_Qt}  (h : am_cl 214 [.ref 103] E I J S (q_V fun E1 I1 J1 S1 => am_cl 214 [.ref 104] E1 I1 J1 S1 (q_V fun E2 I2 J2 S2 => am_cl 214 [.ref 105] E2 I2 J2 S2 (q_V fun E3 I3 J3 S3 => am_cl 214 [.ref 106] E3 I3 J3 S3 (q_V fun E4 I4 J4 S4 => am_cl 214 [.ref 107] E4 I4 J4 S4 (q_V fun E5 I5 J5 S5 => am_cl 214 [.ref 108] E5 I5 J5 S5 (q_V fun E6 I6 J6 S6 => am_cl 214 [.ref 109] E6 I6 J6 S6 (q_V fun E7 I7 J7 S7 => am_ww 213 23 [.ref 99, .int (nI 0)] [] E7 I7 J7 S7 Q)))))))) : am_ww 213 0 [.ref 99, am_U] [] E I J S Q := by
  refine w_st (i' := 1) (ls' := [.ref 99, am_U]) (st' := [.ref 99]) (E' := E) (I' := I) (J' := J) (S' := S) am_e213 rfl rfl rfl rfl ?_
  refine w_st (i' := 2) (ls' := [.ref 99, am_U]) (st' := [.ref 103]) (E' := E) (I' := I) (J' := J) (S' := S) am_e213 rfl rfl rfl rfl ?_
  refine w_cV am_e213 rfl rfl (as := [.ref 103]) (rest := []) rfl rfl (am_ww.mono h ?_)
  rintro _ E1 I1 J1 S1 ⟨rfl, h⟩
  refine q_mkV ?_
  refine w_st (i' := 4) (ls' := [.ref 99, am_U]) (st' := [.ref 99]) (E' := E1) (I' := I1) (J' := J1) (S' := S1) am_e213 rfl rfl rfl rfl ?_
  refine w_st (i' := 5) (ls' := [.ref 99, am_U]) (st' := [.ref 104]) (E' := E1) (I' := I1) (J' := J1) (S' := S1) am_e213 rfl rfl rfl rfl ?_
  refine w_cV am_e213 rfl rfl (as := [.ref 104]) (rest := []) rfl rfl (am_ww.mono h ?_)
  rintro _ E2 I2 J2 S2 ⟨rfl, h⟩
  refine q_mkV ?_
  refine w_st (i' := 7) (ls' := [.ref 99, am_U]) (st' := [.ref 99]) (E' := E2) (I' := I2) (J' := J2) (S' := S2) am_e213 rfl rfl rfl rfl ?_
  refine w_st (i' := 8) (ls' := [.ref 99, am_U]) (st' := [.ref 105]) (E' := E2) (I' := I2) (J' := J2) (S' := S2) am_e213 rfl rfl rfl rfl ?_
  refine w_cV am_e213 rfl rfl (as := [.ref 105]) (rest := []) rfl rfl (am_ww.mono h ?_)
  rintro _ E3 I3 J3 S3 ⟨rfl, h⟩
  refine q_mkV ?_
  refine w_st (i' := 10) (ls' := [.ref 99, am_U]) (st' := [.ref 99]) (E' := E3) (I' := I3) (J' := J3) (S' := S3) am_e213 rfl rfl rfl rfl ?_
  refine w_st (i' := 11) (ls' := [.ref 99, am_U]) (st' := [.ref 106]) (E' := E3) (I' := I3) (J' := J3) (S' := S3) am_e213 rfl rfl rfl rfl ?_
  refine w_cV am_e213 rfl rfl (as := [.ref 106]) (rest := []) rfl rfl (am_ww.mono h ?_)
  rintro _ E4 I4 J4 S4 ⟨rfl, h⟩
  refine q_mkV ?_
  refine w_st (i' := 13) (ls' := [.ref 99, am_U]) (st' := [.ref 99]) (E' := E4) (I' := I4) (J' := J4) (S' := S4) am_e213 rfl rfl rfl rfl ?_
  refine w_st (i' := 14) (ls' := [.ref 99, am_U]) (st' := [.ref 107]) (E' := E4) (I' := I4) (J' := J4) (S' := S4) am_e213 rfl rfl rfl rfl ?_
  refine w_cV am_e213 rfl rfl (as := [.ref 107]) (rest := []) rfl rfl (am_ww.mono h ?_)
  rintro _ E5 I5 J5 S5 ⟨rfl, h⟩
  refine q_mkV ?_
  refine w_st (i' := 16) (ls' := [.ref 99, am_U]) (st' := [.ref 99]) (E' := E5) (I' := I5) (J' := J5) (S' := S5) am_e213 rfl rfl rfl rfl ?_
  refine w_st (i' := 17) (ls' := [.ref 99, am_U]) (st' := [.ref 108]) (E' := E5) (I' := I5) (J' := J5) (S' := S5) am_e213 rfl rfl rfl rfl ?_
  refine w_cV am_e213 rfl rfl (as := [.ref 108]) (rest := []) rfl rfl (am_ww.mono h ?_)
  rintro _ E6 I6 J6 S6 ⟨rfl, h⟩
  refine q_mkV ?_
  refine w_st (i' := 19) (ls' := [.ref 99, am_U]) (st' := [.ref 99]) (E' := E6) (I' := I6) (J' := J6) (S' := S6) am_e213 rfl rfl rfl rfl ?_
  refine w_st (i' := 20) (ls' := [.ref 99, am_U]) (st' := [.ref 109]) (E' := E6) (I' := I6) (J' := J6) (S' := S6) am_e213 rfl rfl rfl rfl ?_
  refine w_cV am_e213 rfl rfl (as := [.ref 109]) (rest := []) rfl rfl (am_ww.mono h ?_)
  rintro _ E7 I7 J7 S7 ⟨rfl, h⟩
  refine q_mkV ?_
  refine w_st (i' := 22) (ls' := [.ref 99, am_U]) (st' := [.int (nI 0)]) (E' := E7) (I' := I7) (J' := J7) (S' := S7) am_e213 rfl rfl rfl rfl ?_
  refine w_st (i' := 23) (ls' := [.ref 99, .int (nI 0)]) (st' := []) (E' := E7) (I' := I7) (J' := J7) (S' := S7) am_e213 rfl rfl rfl rfl ?_
  exact h
theorem g213_23 {x1 : Int32} {E : am_Ev} {I : Nat → Nat → Int32} {J : Nat → Nat → Int64} {S : Nat → Nat → Option Nat} {Q : am_Qt}  (h : ((nI 3) ≤ x1 → (am_cl 184 [.ref 99, .int ((I 103) 1)] E (u_I I 99 (upd (upd (upd (upd (I 99) 12 (nI 0)) 13 (nI 0)) 43 (nI 0)) 58 (nI 0))) J S (q_V fun E1 I1 J1 S1 => am_cl 185 [.ref 99, .int (nI 0)] E1 I1 J1 S1 (q_V fun E2 I2 J2 S2 => Q (.inl none) E2 I2 J2 S2)))) ∧ (¬ (nI 3) ≤ x1 → (vp_in x1 3 ∧ (am_ww 213 23 [.ref 99, .int (x1 + nI 1)] [] E (u_I I 124 (upd (I 124) x1.toNatClampNeg (nI 0))) J S Q)))) : am_ww 213 23 [.ref 99, .int x1] [] E I J S Q := by
  refine w_st (i' := 24) (ls' := [.ref 99, .int x1]) (st' := [.int x1]) (E' := E) (I' := I) (J' := J) (S' := S) am_e213 rfl rfl rfl rfl ?_
  refine w_st (i' := 25) (ls' := [.ref 99, .int x1]) (st' := [.int (nI 3), .int x1]) (E' := E) (I' := I) (J' := J) (S' := S) am_e213 rfl rfl rfl rfl ?_
  refine w_if2 am_e213 rfl rfl (fun c => ?_) (fun c => ?_)
  · replace h := h.1 (of_decide_eq_true c)
    refine w_st (i' := 34) (ls' := [.ref 99, .int x1]) (st' := [.ref 99]) (E' := E) (I' := I) (J' := J) (S' := S) am_e213 rfl rfl rfl rfl ?_
    refine w_st (i' := 35) (ls' := [.ref 99, .int x1]) (st' := [.int (nI 0), .ref 99]) (E' := E) (I' := I) (J' := J) (S' := S) am_e213 rfl rfl rfl rfl ?_
    refine w_st (i' := 36) (ls' := [.ref 99, .int x1]) (st' := []) (E' := E) (I' := (u_I I 99 (upd (I 99) 12 (nI 0)))) (J' := J) (S' := S) am_e213 rfl rfl rfl rfl ?_
    refine w_st (i' := 37) (ls' := [.ref 99, .int x1]) (st' := [.ref 99]) (E' := E) (I' := (u_I I 99 (upd (I 99) 12 (nI 0)))) (J' := J) (S' := S) am_e213 rfl rfl rfl rfl ?_
    refine w_st (i' := 38) (ls' := [.ref 99, .int x1]) (st' := [.int (nI 0), .ref 99]) (E' := E) (I' := (u_I I 99 (upd (I 99) 12 (nI 0)))) (J' := J) (S' := S) am_e213 rfl rfl rfl rfl ?_
    refine w_st (i' := 39) (ls' := [.ref 99, .int x1]) (st' := []) (E' := E) (I' := (u_I (u_I I 99 (upd (I 99) 12 (nI 0))) 99 (upd (upd (I 99) 12 (nI 0)) 13 (nI 0)))) (J' := J) (S' := S) am_e213 rfl rfl rfl rfl ?_
    refine w_eI (uI_0 ..) ?_
    show am_ww 213 39 [.ref 99, .int x1] [] E (u_I I 99 (upd (upd (I 99) 12 (nI 0)) 13 (nI 0))) J S _
    refine w_st (i' := 40) (ls' := [.ref 99, .int x1]) (st' := [.ref 99]) (E' := E) (I' := (u_I I 99 (upd (upd (I 99) 12 (nI 0)) 13 (nI 0)))) (J' := J) (S' := S) am_e213 rfl rfl rfl rfl ?_
    refine w_st (i' := 41) (ls' := [.ref 99, .int x1]) (st' := [.int (nI 0), .ref 99]) (E' := E) (I' := (u_I I 99 (upd (upd (I 99) 12 (nI 0)) 13 (nI 0)))) (J' := J) (S' := S) am_e213 rfl rfl rfl rfl ?_
    refine w_st (i' := 42) (ls' := [.ref 99, .int x1]) (st' := []) (E' := E) (I' := (u_I (u_I I 99 (upd (upd (I 99) 12 (nI 0)) 13 (nI 0))) 99 (upd (upd (upd (I 99) 12 (nI 0)) 13 (nI 0)) 43 (nI 0)))) (J' := J) (S' := S) am_e213 rfl rfl rfl rfl ?_
    refine w_eI (uI_0 ..) ?_
    show am_ww 213 42 [.ref 99, .int x1] [] E (u_I I 99 (upd (upd (upd (I 99) 12 (nI 0)) 13 (nI 0)) 43 (nI 0))) J S _
    refine w_st (i' := 43) (ls' := [.ref 99, .int x1]) (st' := [.ref 99]) (E' := E) (I' := (u_I I 99 (upd (upd (upd (I 99) 12 (nI 0)) 13 (nI 0)) 43 (nI 0)))) (J' := J) (S' := S) am_e213 rfl rfl rfl rfl ?_
    refine w_st (i' := 44) (ls' := [.ref 99, .int x1]) (st' := [.int (nI 0), .ref 99]) (E' := E) (I' := (u_I I 99 (upd (upd (upd (I 99) 12 (nI 0)) 13 (nI 0)) 43 (nI 0)))) (J' := J) (S' := S) am_e213 rfl rfl rfl rfl ?_
    refine w_st (i' := 45) (ls' := [.ref 99, .int x1]) (st' := []) (E' := E) (I' := (u_I (u_I I 99 (upd (upd (upd (I 99) 12 (nI 0)) 13 (nI 0)) 43 (nI 0))) 99 (upd (upd (upd (upd (I 99) 12 (nI 0)) 13 (nI 0)) 43 (nI 0)) 58 (nI 0)))) (J' := J) (S' := S) am_e213 rfl rfl rfl rfl ?_
    refine w_eI (uI_0 ..) ?_
    show am_ww 213 45 [.ref 99, .int x1] [] E (u_I I 99 (upd (upd (upd (upd (I 99) 12 (nI 0)) 13 (nI 0)) 43 (nI 0)) 58 (nI 0))) J S _
    refine w_st (i' := 46) (ls' := [.ref 99, .int x1]) (st' := [.ref 99]) (E' := E) (I' := (u_I I 99 (upd (upd (upd (upd (I 99) 12 (nI 0)) 13 (nI 0)) 43 (nI 0)) 58 (nI 0)))) (J' := J) (S' := S) am_e213 rfl rfl rfl rfl ?_
    refine w_st (i' := 47) (ls' := [.ref 99, .int x1]) (st' := [.ref 99, .ref 99]) (E' := E) (I' := (u_I I 99 (upd (upd (upd (upd (I 99) 12 (nI 0)) 13 (nI 0)) 43 (nI 0)) 58 (nI 0)))) (J' := J) (S' := S) am_e213 rfl rfl rfl rfl ?_
    refine w_st (i' := 48) (ls' := [.ref 99, .int x1]) (st' := [.ref 103, .ref 99]) (E' := E) (I' := (u_I I 99 (upd (upd (upd (upd (I 99) 12 (nI 0)) 13 (nI 0)) 43 (nI 0)) 58 (nI 0)))) (J' := J) (S' := S) am_e213 rfl rfl rfl rfl ?_
    refine w_st (i' := 49) (ls' := [.ref 99, .int x1]) (st' := [.int (nI 1), .ref 103, .ref 99]) (E' := E) (I' := (u_I I 99 (upd (upd (upd (upd (I 99) 12 (nI 0)) 13 (nI 0)) 43 (nI 0)) 58 (nI 0)))) (J' := J) (S' := S) am_e213 rfl rfl rfl rfl ?_
    refine w_ia (k := 103) (n := 10) (jn := 1) am_e213 rfl rfl (by decide) (vp_in_nI (by decide) (by decide)) rfl ?_
    show am_ww 213 50 [.ref 99, .int x1] [.int ((I 103) 1), .ref 99] E (u_I I 99 (upd (upd (upd (upd (I 99) 12 (nI 0)) 13 (nI 0)) 43 (nI 0)) 58 (nI 0))) J S _
    refine w_cV am_e213 rfl rfl (as := [.ref 99, .int ((I 103) 1)]) (rest := []) rfl rfl (am_ww.mono h ?_)
    rintro _ E1 I1 J1 S1 ⟨rfl, h⟩
    refine q_mkV ?_
    refine w_st (i' := 52) (ls' := [.ref 99, .int x1]) (st' := [.ref 99]) (E' := E1) (I' := I1) (J' := J1) (S' := S1) am_e213 rfl rfl rfl rfl ?_
    refine w_st (i' := 53) (ls' := [.ref 99, .int x1]) (st' := [.int (nI 0), .ref 99]) (E' := E1) (I' := I1) (J' := J1) (S' := S1) am_e213 rfl rfl rfl rfl ?_
    refine w_cV am_e213 rfl rfl (as := [.ref 99, .int (nI 0)]) (rest := []) rfl rfl (am_ww.mono h ?_)
    rintro _ E2 I2 J2 S2 ⟨rfl, h⟩
    refine q_mkV ?_
    exact w_end am_e213 rfl rfl rfl h
  · replace h := h.2 (of_decide_eq_false c)
    refine w_st (i' := 27) (ls' := [.ref 99, .int x1]) (st' := [.ref 99]) (E' := E) (I' := I) (J' := J) (S' := S) am_e213 rfl rfl rfl rfl ?_
    refine w_st (i' := 28) (ls' := [.ref 99, .int x1]) (st' := [.ref 124]) (E' := E) (I' := I) (J' := J) (S' := S) am_e213 rfl rfl rfl rfl ?_
    refine w_st (i' := 29) (ls' := [.ref 99, .int x1]) (st' := [.int x1, .ref 124]) (E' := E) (I' := I) (J' := J) (S' := S) am_e213 rfl rfl rfl rfl ?_
    refine w_st (i' := 30) (ls' := [.ref 99, .int x1]) (st' := [.int (nI 0), .int x1, .ref 124]) (E' := E) (I' := I) (J' := J) (S' := S) am_e213 rfl rfl rfl rfl ?_
    have hf3 := h.1
    replace h := h.2
    refine w_is (k := 124) (n := 3) (jn := x1.toNatClampNeg) am_e213 rfl rfl (by decide) hf3 rfl ?_
    show am_ww 213 31 [.ref 99, .int x1] [] E (u_I I 124 (upd (I 124) x1.toNatClampNeg (nI 0))) J S _
    refine w_st (i' := 32) (ls' := [.ref 99, .int (x1 + nI 1)]) (st' := []) (E' := E) (I' := (u_I I 124 (upd (I 124) x1.toNatClampNeg (nI 0)))) (J' := J) (S' := S) am_e213 rfl rfl rfl rfl ?_
    refine w_st (i' := 23) (ls' := [.ref 99, .int (x1 + nI 1)]) (st' := []) (E' := E) (I' := (u_I I 124 (upd (I 124) x1.toNatClampNeg (nI 0)))) (J' := J) (S' := S) am_e213 rfl rfl rfl rfl ?_
    exact h
-- 195 which
theorem g195_0_100  {E : am_Ev} {I : Nat → Nat → Int32} {J : Nat → Nat → Int64} {S : Nat → Nat → Option Nat} {Q : am_Qt}  (h : am_ww 195 2 [.ref 99, .ref 100, .int (nI 0)] [] E I J S Q) : am_ww 195 0 [.ref 99, .ref 100, am_U] [] E I J S Q := by
  refine w_st (i' := 1) (ls' := [.ref 99, .ref 100, am_U]) (st' := [.int (nI 0)]) (E' := E) (I' := I) (J' := J) (S' := S) am_e195 rfl rfl rfl rfl ?_
  refine w_st (i' := 2) (ls' := [.ref 99, .ref 100, .int (nI 0)]) (st' := []) (E' := E) (I' := I) (J' := J) (S' := S) am_e195 rfl rfl rfl rfl ?_
  exact h
theorem g195_2_100 {x2 : Int32} {E : am_Ev} {I : Nat → Nat → Int32} {J : Nat → Nat → Int64} {S : Nat → Nat → Option Nat} {Q : am_Qt}  (h : ((nI 4) ≤ x2 → (Q (.inl (some (.int (-1)))) E I J S)) ∧ (¬ (nI 4) ≤ x2 → (vp_in x2 4 ∧ ∃ q1 : Nat, S 100 x2.toNatClampNeg = some q1 ∧ q1 < 55 ∧ (am_cl 196 [.ref 99, .ref (2000000 + q1)] E I J S (q_I fun v2 E2 I2 J2 S2 => (v2 = 0 → (am_ww 195 2 [.ref 99, .ref 100, .int (x2 + nI 1)] [] E2 I2 J2 S2 Q)) ∧ (¬ v2 = 0 → (Q (.inl (some (.int x2))) E2 I2 J2 S2))))))) : am_ww 195 2 [.ref 99, .ref 100, .int x2] [] E I J S Q := by
  refine w_st (i' := 3) (ls' := [.ref 99, .ref 100, .int x2]) (st' := [.int x2]) (E' := E) (I' := I) (J' := J) (S' := S) am_e195 rfl rfl rfl rfl ?_
  refine w_st (i' := 4) (ls' := [.ref 99, .ref 100, .int x2]) (st' := [.ref 100, .int x2]) (E' := E) (I' := I) (J' := J) (S' := S) am_e195 rfl rfl rfl rfl ?_
  refine w_st (i' := 5) (ls' := [.ref 99, .ref 100, .int x2]) (st' := [.int (nI 4), .int x2]) (E' := E) (I' := I) (J' := J) (S' := S) am_e195 rfl rfl rfl rfl ?_
  refine w_if2 am_e195 rfl rfl (fun c => ?_) (fun c => ?_)
  · replace h := h.1 (of_decide_eq_true c)
    refine w_st (i' := 17) (ls' := [.ref 99, .ref 100, .int x2]) (st' := [.int (-1)]) (E' := E) (I' := I) (J' := J) (S' := S) am_e195 rfl rfl rfl rfl ?_
    exact w_end am_e195 rfl rfl rfl h
  · replace h := h.2 (of_decide_eq_false c)
    refine w_st (i' := 7) (ls' := [.ref 99, .ref 100, .int x2]) (st' := [.ref 99]) (E' := E) (I' := I) (J' := J) (S' := S) am_e195 rfl rfl rfl rfl ?_
    refine w_st (i' := 8) (ls' := [.ref 99, .ref 100, .int x2]) (st' := [.ref 100, .ref 99]) (E' := E) (I' := I) (J' := J) (S' := S) am_e195 rfl rfl rfl rfl ?_
    refine w_st (i' := 9) (ls' := [.ref 99, .ref 100, .int x2]) (st' := [.int x2, .ref 100, .ref 99]) (E' := E) (I' := I) (J' := J) (S' := S) am_e195 rfl rfl rfl rfl ?_
    obtain ⟨hj, q1, hq, hsq1, h⟩ := h
    refine w_aa (k := 100) (n := 4) am_e195 rfl rfl (by decide) hj hq hsq1 ?_
    refine w_cI am_e195 rfl rfl (as := [.ref 99, .ref (2000000 + q1)]) (rest := []) rfl rfl (am_ww.mono h ?_)
    rintro _ E2 I2 J2 S2 ⟨v2, rfl, h⟩
    refine q_mkI ?_
    refine w_if1 am_e195 rfl rfl (fun c => ?_) (fun c => ?_)
    · replace h := h.1 (of_decide_eq_true c)
      refine w_st (i' := 15) (ls' := [.ref 99, .ref 100, .int (x2 + nI 1)]) (st' := []) (E' := E2) (I' := I2) (J' := J2) (S' := S2) am_e195 rfl rfl rfl rfl ?_
      refine w_st (i' := 2) (ls' := [.ref 99, .ref 100, .int (x2 + nI 1)]) (st' := []) (E' := E2) (I' := I2) (J' := J2) (S' := S2) am_e195 rfl rfl rfl rfl ?_
      exact h
    · replace h := h.2 (of_decide_eq_false c)
      refine w_st (i' := 13) (ls' := [.ref 99, .ref 100, .int x2]) (st' := [.int x2]) (E' := E2) (I' := I2) (J' := J2) (S' := S2) am_e195 rfl rfl rfl rfl ?_
      exact w_ri am_e195 rfl rfl h
-- 195 which
theorem g195_0_101  {E : am_Ev} {I : Nat → Nat → Int32} {J : Nat → Nat → Int64} {S : Nat → Nat → Option Nat} {Q : am_Qt}  (h : am_ww 195 2 [.ref 99, .ref 101, .int (nI 0)] [] E I J S Q) : am_ww 195 0 [.ref 99, .ref 101, am_U] [] E I J S Q := by
  refine w_st (i' := 1) (ls' := [.ref 99, .ref 101, am_U]) (st' := [.int (nI 0)]) (E' := E) (I' := I) (J' := J) (S' := S) am_e195 rfl rfl rfl rfl ?_
  refine w_st (i' := 2) (ls' := [.ref 99, .ref 101, .int (nI 0)]) (st' := []) (E' := E) (I' := I) (J' := J) (S' := S) am_e195 rfl rfl rfl rfl ?_
  exact h
theorem g195_2_101 {x2 : Int32} {E : am_Ev} {I : Nat → Nat → Int32} {J : Nat → Nat → Int64} {S : Nat → Nat → Option Nat} {Q : am_Qt}  (h : ((nI 2) ≤ x2 → (Q (.inl (some (.int (-1)))) E I J S)) ∧ (¬ (nI 2) ≤ x2 → (vp_in x2 2 ∧ ∃ q1 : Nat, S 101 x2.toNatClampNeg = some q1 ∧ q1 < 55 ∧ (am_cl 196 [.ref 99, .ref (2000000 + q1)] E I J S (q_I fun v2 E2 I2 J2 S2 => (v2 = 0 → (am_ww 195 2 [.ref 99, .ref 101, .int (x2 + nI 1)] [] E2 I2 J2 S2 Q)) ∧ (¬ v2 = 0 → (Q (.inl (some (.int x2))) E2 I2 J2 S2))))))) : am_ww 195 2 [.ref 99, .ref 101, .int x2] [] E I J S Q := by
  refine w_st (i' := 3) (ls' := [.ref 99, .ref 101, .int x2]) (st' := [.int x2]) (E' := E) (I' := I) (J' := J) (S' := S) am_e195 rfl rfl rfl rfl ?_
  refine w_st (i' := 4) (ls' := [.ref 99, .ref 101, .int x2]) (st' := [.ref 101, .int x2]) (E' := E) (I' := I) (J' := J) (S' := S) am_e195 rfl rfl rfl rfl ?_
  refine w_st (i' := 5) (ls' := [.ref 99, .ref 101, .int x2]) (st' := [.int (nI 2), .int x2]) (E' := E) (I' := I) (J' := J) (S' := S) am_e195 rfl rfl rfl rfl ?_
  refine w_if2 am_e195 rfl rfl (fun c => ?_) (fun c => ?_)
  · replace h := h.1 (of_decide_eq_true c)
    refine w_st (i' := 17) (ls' := [.ref 99, .ref 101, .int x2]) (st' := [.int (-1)]) (E' := E) (I' := I) (J' := J) (S' := S) am_e195 rfl rfl rfl rfl ?_
    exact w_end am_e195 rfl rfl rfl h
  · replace h := h.2 (of_decide_eq_false c)
    refine w_st (i' := 7) (ls' := [.ref 99, .ref 101, .int x2]) (st' := [.ref 99]) (E' := E) (I' := I) (J' := J) (S' := S) am_e195 rfl rfl rfl rfl ?_
    refine w_st (i' := 8) (ls' := [.ref 99, .ref 101, .int x2]) (st' := [.ref 101, .ref 99]) (E' := E) (I' := I) (J' := J) (S' := S) am_e195 rfl rfl rfl rfl ?_
    refine w_st (i' := 9) (ls' := [.ref 99, .ref 101, .int x2]) (st' := [.int x2, .ref 101, .ref 99]) (E' := E) (I' := I) (J' := J) (S' := S) am_e195 rfl rfl rfl rfl ?_
    obtain ⟨hj, q1, hq, hsq1, h⟩ := h
    refine w_aa (k := 101) (n := 2) am_e195 rfl rfl (by decide) hj hq hsq1 ?_
    refine w_cI am_e195 rfl rfl (as := [.ref 99, .ref (2000000 + q1)]) (rest := []) rfl rfl (am_ww.mono h ?_)
    rintro _ E2 I2 J2 S2 ⟨v2, rfl, h⟩
    refine q_mkI ?_
    refine w_if1 am_e195 rfl rfl (fun c => ?_) (fun c => ?_)
    · replace h := h.1 (of_decide_eq_true c)
      refine w_st (i' := 15) (ls' := [.ref 99, .ref 101, .int (x2 + nI 1)]) (st' := []) (E' := E2) (I' := I2) (J' := J2) (S' := S2) am_e195 rfl rfl rfl rfl ?_
      refine w_st (i' := 2) (ls' := [.ref 99, .ref 101, .int (x2 + nI 1)]) (st' := []) (E' := E2) (I' := I2) (J' := J2) (S' := S2) am_e195 rfl rfl rfl rfl ?_
      exact h
    · replace h := h.2 (of_decide_eq_false c)
      refine w_st (i' := 13) (ls' := [.ref 99, .ref 101, .int x2]) (st' := [.int x2]) (E' := E2) (I' := I2) (J' := J2) (S' := S2) am_e195 rfl rfl rfl rfl ?_
      exact w_ri am_e195 rfl rfl h
-- 195 which
theorem g195_0_102  {E : am_Ev} {I : Nat → Nat → Int32} {J : Nat → Nat → Int64} {S : Nat → Nat → Option Nat} {Q : am_Qt}  (h : am_ww 195 2 [.ref 99, .ref 102, .int (nI 0)] [] E I J S Q) : am_ww 195 0 [.ref 99, .ref 102, am_U] [] E I J S Q := by
  refine w_st (i' := 1) (ls' := [.ref 99, .ref 102, am_U]) (st' := [.int (nI 0)]) (E' := E) (I' := I) (J' := J) (S' := S) am_e195 rfl rfl rfl rfl ?_
  refine w_st (i' := 2) (ls' := [.ref 99, .ref 102, .int (nI 0)]) (st' := []) (E' := E) (I' := I) (J' := J) (S' := S) am_e195 rfl rfl rfl rfl ?_
  exact h
theorem g195_2_102 {x2 : Int32} {E : am_Ev} {I : Nat → Nat → Int32} {J : Nat → Nat → Int64} {S : Nat → Nat → Option Nat} {Q : am_Qt}  (h : ((nI 13) ≤ x2 → (Q (.inl (some (.int (-1)))) E I J S)) ∧ (¬ (nI 13) ≤ x2 → (vp_in x2 13 ∧ ∃ q1 : Nat, S 102 x2.toNatClampNeg = some q1 ∧ q1 < 55 ∧ (am_cl 196 [.ref 99, .ref (2000000 + q1)] E I J S (q_I fun v2 E2 I2 J2 S2 => (v2 = 0 → (am_ww 195 2 [.ref 99, .ref 102, .int (x2 + nI 1)] [] E2 I2 J2 S2 Q)) ∧ (¬ v2 = 0 → (Q (.inl (some (.int x2))) E2 I2 J2 S2))))))) : am_ww 195 2 [.ref 99, .ref 102, .int x2] [] E I J S Q := by
  refine w_st (i' := 3) (ls' := [.ref 99, .ref 102, .int x2]) (st' := [.int x2]) (E' := E) (I' := I) (J' := J) (S' := S) am_e195 rfl rfl rfl rfl ?_
  refine w_st (i' := 4) (ls' := [.ref 99, .ref 102, .int x2]) (st' := [.ref 102, .int x2]) (E' := E) (I' := I) (J' := J) (S' := S) am_e195 rfl rfl rfl rfl ?_
  refine w_st (i' := 5) (ls' := [.ref 99, .ref 102, .int x2]) (st' := [.int (nI 13), .int x2]) (E' := E) (I' := I) (J' := J) (S' := S) am_e195 rfl rfl rfl rfl ?_
  refine w_if2 am_e195 rfl rfl (fun c => ?_) (fun c => ?_)
  · replace h := h.1 (of_decide_eq_true c)
    refine w_st (i' := 17) (ls' := [.ref 99, .ref 102, .int x2]) (st' := [.int (-1)]) (E' := E) (I' := I) (J' := J) (S' := S) am_e195 rfl rfl rfl rfl ?_
    exact w_end am_e195 rfl rfl rfl h
  · replace h := h.2 (of_decide_eq_false c)
    refine w_st (i' := 7) (ls' := [.ref 99, .ref 102, .int x2]) (st' := [.ref 99]) (E' := E) (I' := I) (J' := J) (S' := S) am_e195 rfl rfl rfl rfl ?_
    refine w_st (i' := 8) (ls' := [.ref 99, .ref 102, .int x2]) (st' := [.ref 102, .ref 99]) (E' := E) (I' := I) (J' := J) (S' := S) am_e195 rfl rfl rfl rfl ?_
    refine w_st (i' := 9) (ls' := [.ref 99, .ref 102, .int x2]) (st' := [.int x2, .ref 102, .ref 99]) (E' := E) (I' := I) (J' := J) (S' := S) am_e195 rfl rfl rfl rfl ?_
    obtain ⟨hj, q1, hq, hsq1, h⟩ := h
    refine w_aa (k := 102) (n := 13) am_e195 rfl rfl (by decide) hj hq hsq1 ?_
    refine w_cI am_e195 rfl rfl (as := [.ref 99, .ref (2000000 + q1)]) (rest := []) rfl rfl (am_ww.mono h ?_)
    rintro _ E2 I2 J2 S2 ⟨v2, rfl, h⟩
    refine q_mkI ?_
    refine w_if1 am_e195 rfl rfl (fun c => ?_) (fun c => ?_)
    · replace h := h.1 (of_decide_eq_true c)
      refine w_st (i' := 15) (ls' := [.ref 99, .ref 102, .int (x2 + nI 1)]) (st' := []) (E' := E2) (I' := I2) (J' := J2) (S' := S2) am_e195 rfl rfl rfl rfl ?_
      refine w_st (i' := 2) (ls' := [.ref 99, .ref 102, .int (x2 + nI 1)]) (st' := []) (E' := E2) (I' := I2) (J' := J2) (S' := S2) am_e195 rfl rfl rfl rfl ?_
      exact h
    · replace h := h.2 (of_decide_eq_false c)
      refine w_st (i' := 13) (ls' := [.ref 99, .ref 102, .int x2]) (st' := [.int x2]) (E' := E2) (I' := I2) (J' := J2) (S' := S2) am_e195 rfl rfl rfl rfl ?_
      exact w_ri am_e195 rfl rfl h
-- 214 takeHalf
theorem g214_0_103  {E : am_Ev} {I : Nat → Nat → Int32} {J : Nat → Nat → Int64} {S : Nat → Nat → Option Nat} {Q : am_Qt}  (h : am_ww 214 2 [.ref 103, .int (nI 0)] [] E I J S Q) : am_ww 214 0 [.ref 103, am_U] [] E I J S Q := by
  refine w_st (i' := 1) (ls' := [.ref 103, am_U]) (st' := [.int (nI 0)]) (E' := E) (I' := I) (J' := J) (S' := S) am_e214 rfl rfl rfl rfl ?_
  refine w_st (i' := 2) (ls' := [.ref 103, .int (nI 0)]) (st' := []) (E' := E) (I' := I) (J' := J) (S' := S) am_e214 rfl rfl rfl rfl ?_
  exact h
theorem g214_2_103 {x1 : Int32} {E : am_Ev} {I : Nat → Nat → Int32} {J : Nat → Nat → Int64} {S : Nat → Nat → Option Nat} {Q : am_Qt}  (h : (((nI 10) / (nI 2)) ≤ x1 → (Q (.inl none) E I J S)) ∧ (¬ ((nI 10) / (nI 2)) ≤ x1 → (vp_in (((nI 10) / (nI 2)) + x1) 10 ∧ (vp_in x1 10 ∧ (am_ww 214 2 [.ref 103, .int (x1 + nI 1)] [] E (u_I I 103 (upd (I 103) x1.toNatClampNeg ((I 103) ((((nI 10) / (nI 2)) + x1).toNatClampNeg)))) J S Q))))) : am_ww 214 2 [.ref 103, .int x1] [] E I J S Q := by
  refine w_st (i' := 3) (ls' := [.ref 103, .int x1]) (st' := [.int x1]) (E' := E) (I' := I) (J' := J) (S' := S) am_e214 rfl rfl rfl rfl ?_
  refine w_st (i' := 4) (ls' := [.ref 103, .int x1]) (st' := [.ref 103, .int x1]) (E' := E) (I' := I) (J' := J) (S' := S) am_e214 rfl rfl rfl rfl ?_
  refine w_st (i' := 5) (ls' := [.ref 103, .int x1]) (st' := [.int (nI 10), .int x1]) (E' := E) (I' := I) (J' := J) (S' := S) am_e214 rfl rfl rfl rfl ?_
  refine w_st (i' := 6) (ls' := [.ref 103, .int x1]) (st' := [.int (nI 2), .int (nI 10), .int x1]) (E' := E) (I' := I) (J' := J) (S' := S) am_e214 rfl rfl rfl rfl ?_
  refine w_dv (by decide) am_e214 rfl ?_
  refine w_if2 am_e214 rfl rfl (fun c => ?_) (fun c => ?_)
  · replace h := h.1 (of_decide_eq_true c)
    exact w_end am_e214 rfl rfl rfl h
  · replace h := h.2 (of_decide_eq_false c)
    refine w_st (i' := 9) (ls' := [.ref 103, .int x1]) (st' := [.ref 103]) (E' := E) (I' := I) (J' := J) (S' := S) am_e214 rfl rfl rfl rfl ?_
    refine w_st (i' := 10) (ls' := [.ref 103, .int x1]) (st' := [.int x1, .ref 103]) (E' := E) (I' := I) (J' := J) (S' := S) am_e214 rfl rfl rfl rfl ?_
    refine w_st (i' := 11) (ls' := [.ref 103, .int x1]) (st' := [.ref 103, .int x1, .ref 103]) (E' := E) (I' := I) (J' := J) (S' := S) am_e214 rfl rfl rfl rfl ?_
    refine w_st (i' := 12) (ls' := [.ref 103, .int x1]) (st' := [.ref 103, .ref 103, .int x1, .ref 103]) (E' := E) (I' := I) (J' := J) (S' := S) am_e214 rfl rfl rfl rfl ?_
    refine w_st (i' := 13) (ls' := [.ref 103, .int x1]) (st' := [.int (nI 10), .ref 103, .int x1, .ref 103]) (E' := E) (I' := I) (J' := J) (S' := S) am_e214 rfl rfl rfl rfl ?_
    refine w_st (i' := 14) (ls' := [.ref 103, .int x1]) (st' := [.int (nI 2), .int (nI 10), .ref 103, .int x1, .ref 103]) (E' := E) (I' := I) (J' := J) (S' := S) am_e214 rfl rfl rfl rfl ?_
    refine w_dv (by decide) am_e214 rfl ?_
    refine w_st (i' := 16) (ls' := [.ref 103, .int x1]) (st' := [.int x1, .int ((nI 10) / (nI 2)), .ref 103, .int x1, .ref 103]) (E' := E) (I' := I) (J' := J) (S' := S) am_e214 rfl rfl rfl rfl ?_
    refine w_st (i' := 17) (ls' := [.ref 103, .int x1]) (st' := [.int (((nI 10) / (nI 2)) + x1), .ref 103, .int x1, .ref 103]) (E' := E) (I' := I) (J' := J) (S' := S) am_e214 rfl rfl rfl rfl ?_
    have hf1 := h.1
    replace h := h.2
    refine w_ia (k := 103) (n := 10) (jn := (((nI 10) / (nI 2)) + x1).toNatClampNeg) am_e214 rfl rfl (by decide) hf1 rfl ?_
    have hf2 := h.1
    replace h := h.2
    refine w_is (k := 103) (n := 10) (jn := x1.toNatClampNeg) am_e214 rfl rfl (by decide) hf2 rfl ?_
    show am_ww 214 19 [.ref 103, .int x1] [] E (u_I I 103 (upd (I 103) x1.toNatClampNeg ((I 103) ((((nI 10) / (nI 2)) + x1).toNatClampNeg)))) J S _
    refine w_st (i' := 20) (ls' := [.ref 103, .int (x1 + nI 1)]) (st' := []) (E' := E) (I' := (u_I I 103 (upd (I 103) x1.toNatClampNeg ((I 103) ((((nI 10) / (nI 2)) + x1).toNatClampNeg))))) (J' := J) (S' := S) am_e214 rfl rfl rfl rfl ?_
    refine w_st (i' := 2) (ls' := [.ref 103, .int (x1 + nI 1)]) (st' := []) (E' := E) (I' := (u_I I 103 (upd (I 103) x1.toNatClampNeg ((I 103) ((((nI 10) / (nI 2)) + x1).toNatClampNeg))))) (J' := J) (S' := S) am_e214 rfl rfl rfl rfl ?_
    exact h
-- 214 takeHalf
theorem g214_0_104  {E : am_Ev} {I : Nat → Nat → Int32} {J : Nat → Nat → Int64} {S : Nat → Nat → Option Nat} {Q : am_Qt}  (h : am_ww 214 2 [.ref 104, .int (nI 0)] [] E I J S Q) : am_ww 214 0 [.ref 104, am_U] [] E I J S Q := by
  refine w_st (i' := 1) (ls' := [.ref 104, am_U]) (st' := [.int (nI 0)]) (E' := E) (I' := I) (J' := J) (S' := S) am_e214 rfl rfl rfl rfl ?_
  refine w_st (i' := 2) (ls' := [.ref 104, .int (nI 0)]) (st' := []) (E' := E) (I' := I) (J' := J) (S' := S) am_e214 rfl rfl rfl rfl ?_
  exact h
theorem g214_2_104 {x1 : Int32} {E : am_Ev} {I : Nat → Nat → Int32} {J : Nat → Nat → Int64} {S : Nat → Nat → Option Nat} {Q : am_Qt}  (h : (((nI 32) / (nI 2)) ≤ x1 → (Q (.inl none) E I J S)) ∧ (¬ ((nI 32) / (nI 2)) ≤ x1 → (vp_in (((nI 32) / (nI 2)) + x1) 32 ∧ (vp_in x1 32 ∧ (am_ww 214 2 [.ref 104, .int (x1 + nI 1)] [] E (u_I I 104 (upd (I 104) x1.toNatClampNeg ((I 104) ((((nI 32) / (nI 2)) + x1).toNatClampNeg)))) J S Q))))) : am_ww 214 2 [.ref 104, .int x1] [] E I J S Q := by
  refine w_st (i' := 3) (ls' := [.ref 104, .int x1]) (st' := [.int x1]) (E' := E) (I' := I) (J' := J) (S' := S) am_e214 rfl rfl rfl rfl ?_
  refine w_st (i' := 4) (ls' := [.ref 104, .int x1]) (st' := [.ref 104, .int x1]) (E' := E) (I' := I) (J' := J) (S' := S) am_e214 rfl rfl rfl rfl ?_
  refine w_st (i' := 5) (ls' := [.ref 104, .int x1]) (st' := [.int (nI 32), .int x1]) (E' := E) (I' := I) (J' := J) (S' := S) am_e214 rfl rfl rfl rfl ?_
  refine w_st (i' := 6) (ls' := [.ref 104, .int x1]) (st' := [.int (nI 2), .int (nI 32), .int x1]) (E' := E) (I' := I) (J' := J) (S' := S) am_e214 rfl rfl rfl rfl ?_
  refine w_dv (by decide) am_e214 rfl ?_
  refine w_if2 am_e214 rfl rfl (fun c => ?_) (fun c => ?_)
  · replace h := h.1 (of_decide_eq_true c)
    exact w_end am_e214 rfl rfl rfl h
  · replace h := h.2 (of_decide_eq_false c)
    refine w_st (i' := 9) (ls' := [.ref 104, .int x1]) (st' := [.ref 104]) (E' := E) (I' := I) (J' := J) (S' := S) am_e214 rfl rfl rfl rfl ?_
    refine w_st (i' := 10) (ls' := [.ref 104, .int x1]) (st' := [.int x1, .ref 104]) (E' := E) (I' := I) (J' := J) (S' := S) am_e214 rfl rfl rfl rfl ?_
    refine w_st (i' := 11) (ls' := [.ref 104, .int x1]) (st' := [.ref 104, .int x1, .ref 104]) (E' := E) (I' := I) (J' := J) (S' := S) am_e214 rfl rfl rfl rfl ?_
    refine w_st (i' := 12) (ls' := [.ref 104, .int x1]) (st' := [.ref 104, .ref 104, .int x1, .ref 104]) (E' := E) (I' := I) (J' := J) (S' := S) am_e214 rfl rfl rfl rfl ?_
    refine w_st (i' := 13) (ls' := [.ref 104, .int x1]) (st' := [.int (nI 32), .ref 104, .int x1, .ref 104]) (E' := E) (I' := I) (J' := J) (S' := S) am_e214 rfl rfl rfl rfl ?_
    refine w_st (i' := 14) (ls' := [.ref 104, .int x1]) (st' := [.int (nI 2), .int (nI 32), .ref 104, .int x1, .ref 104]) (E' := E) (I' := I) (J' := J) (S' := S) am_e214 rfl rfl rfl rfl ?_
    refine w_dv (by decide) am_e214 rfl ?_
    refine w_st (i' := 16) (ls' := [.ref 104, .int x1]) (st' := [.int x1, .int ((nI 32) / (nI 2)), .ref 104, .int x1, .ref 104]) (E' := E) (I' := I) (J' := J) (S' := S) am_e214 rfl rfl rfl rfl ?_
    refine w_st (i' := 17) (ls' := [.ref 104, .int x1]) (st' := [.int (((nI 32) / (nI 2)) + x1), .ref 104, .int x1, .ref 104]) (E' := E) (I' := I) (J' := J) (S' := S) am_e214 rfl rfl rfl rfl ?_
    have hf1 := h.1
    replace h := h.2
    refine w_ia (k := 104) (n := 32) (jn := (((nI 32) / (nI 2)) + x1).toNatClampNeg) am_e214 rfl rfl (by decide) hf1 rfl ?_
    have hf2 := h.1
    replace h := h.2
    refine w_is (k := 104) (n := 32) (jn := x1.toNatClampNeg) am_e214 rfl rfl (by decide) hf2 rfl ?_
    show am_ww 214 19 [.ref 104, .int x1] [] E (u_I I 104 (upd (I 104) x1.toNatClampNeg ((I 104) ((((nI 32) / (nI 2)) + x1).toNatClampNeg)))) J S _
    refine w_st (i' := 20) (ls' := [.ref 104, .int (x1 + nI 1)]) (st' := []) (E' := E) (I' := (u_I I 104 (upd (I 104) x1.toNatClampNeg ((I 104) ((((nI 32) / (nI 2)) + x1).toNatClampNeg))))) (J' := J) (S' := S) am_e214 rfl rfl rfl rfl ?_
    refine w_st (i' := 2) (ls' := [.ref 104, .int (x1 + nI 1)]) (st' := []) (E' := E) (I' := (u_I I 104 (upd (I 104) x1.toNatClampNeg ((I 104) ((((nI 32) / (nI 2)) + x1).toNatClampNeg))))) (J' := J) (S' := S) am_e214 rfl rfl rfl rfl ?_
    exact h
-- 214 takeHalf
theorem g214_0_105  {E : am_Ev} {I : Nat → Nat → Int32} {J : Nat → Nat → Int64} {S : Nat → Nat → Option Nat} {Q : am_Qt}  (h : am_ww 214 2 [.ref 105, .int (nI 0)] [] E I J S Q) : am_ww 214 0 [.ref 105, am_U] [] E I J S Q := by
  refine w_st (i' := 1) (ls' := [.ref 105, am_U]) (st' := [.int (nI 0)]) (E' := E) (I' := I) (J' := J) (S' := S) am_e214 rfl rfl rfl rfl ?_
  refine w_st (i' := 2) (ls' := [.ref 105, .int (nI 0)]) (st' := []) (E' := E) (I' := I) (J' := J) (S' := S) am_e214 rfl rfl rfl rfl ?_
  exact h
theorem g214_2_105 {x1 : Int32} {E : am_Ev} {I : Nat → Nat → Int32} {J : Nat → Nat → Int64} {S : Nat → Nat → Option Nat} {Q : am_Qt}  (h : (((nI 8) / (nI 2)) ≤ x1 → (Q (.inl none) E I J S)) ∧ (¬ ((nI 8) / (nI 2)) ≤ x1 → (vp_in (((nI 8) / (nI 2)) + x1) 8 ∧ (vp_in x1 8 ∧ (am_ww 214 2 [.ref 105, .int (x1 + nI 1)] [] E (u_I I 105 (upd (I 105) x1.toNatClampNeg ((I 105) ((((nI 8) / (nI 2)) + x1).toNatClampNeg)))) J S Q))))) : am_ww 214 2 [.ref 105, .int x1] [] E I J S Q := by
  refine w_st (i' := 3) (ls' := [.ref 105, .int x1]) (st' := [.int x1]) (E' := E) (I' := I) (J' := J) (S' := S) am_e214 rfl rfl rfl rfl ?_
  refine w_st (i' := 4) (ls' := [.ref 105, .int x1]) (st' := [.ref 105, .int x1]) (E' := E) (I' := I) (J' := J) (S' := S) am_e214 rfl rfl rfl rfl ?_
  refine w_st (i' := 5) (ls' := [.ref 105, .int x1]) (st' := [.int (nI 8), .int x1]) (E' := E) (I' := I) (J' := J) (S' := S) am_e214 rfl rfl rfl rfl ?_
  refine w_st (i' := 6) (ls' := [.ref 105, .int x1]) (st' := [.int (nI 2), .int (nI 8), .int x1]) (E' := E) (I' := I) (J' := J) (S' := S) am_e214 rfl rfl rfl rfl ?_
  refine w_dv (by decide) am_e214 rfl ?_
  refine w_if2 am_e214 rfl rfl (fun c => ?_) (fun c => ?_)
  · replace h := h.1 (of_decide_eq_true c)
    exact w_end am_e214 rfl rfl rfl h
  · replace h := h.2 (of_decide_eq_false c)
    refine w_st (i' := 9) (ls' := [.ref 105, .int x1]) (st' := [.ref 105]) (E' := E) (I' := I) (J' := J) (S' := S) am_e214 rfl rfl rfl rfl ?_
    refine w_st (i' := 10) (ls' := [.ref 105, .int x1]) (st' := [.int x1, .ref 105]) (E' := E) (I' := I) (J' := J) (S' := S) am_e214 rfl rfl rfl rfl ?_
    refine w_st (i' := 11) (ls' := [.ref 105, .int x1]) (st' := [.ref 105, .int x1, .ref 105]) (E' := E) (I' := I) (J' := J) (S' := S) am_e214 rfl rfl rfl rfl ?_
    refine w_st (i' := 12) (ls' := [.ref 105, .int x1]) (st' := [.ref 105, .ref 105, .int x1, .ref 105]) (E' := E) (I' := I) (J' := J) (S' := S) am_e214 rfl rfl rfl rfl ?_
    refine w_st (i' := 13) (ls' := [.ref 105, .int x1]) (st' := [.int (nI 8), .ref 105, .int x1, .ref 105]) (E' := E) (I' := I) (J' := J) (S' := S) am_e214 rfl rfl rfl rfl ?_
    refine w_st (i' := 14) (ls' := [.ref 105, .int x1]) (st' := [.int (nI 2), .int (nI 8), .ref 105, .int x1, .ref 105]) (E' := E) (I' := I) (J' := J) (S' := S) am_e214 rfl rfl rfl rfl ?_
    refine w_dv (by decide) am_e214 rfl ?_
    refine w_st (i' := 16) (ls' := [.ref 105, .int x1]) (st' := [.int x1, .int ((nI 8) / (nI 2)), .ref 105, .int x1, .ref 105]) (E' := E) (I' := I) (J' := J) (S' := S) am_e214 rfl rfl rfl rfl ?_
    refine w_st (i' := 17) (ls' := [.ref 105, .int x1]) (st' := [.int (((nI 8) / (nI 2)) + x1), .ref 105, .int x1, .ref 105]) (E' := E) (I' := I) (J' := J) (S' := S) am_e214 rfl rfl rfl rfl ?_
    have hf1 := h.1
    replace h := h.2
    refine w_ia (k := 105) (n := 8) (jn := (((nI 8) / (nI 2)) + x1).toNatClampNeg) am_e214 rfl rfl (by decide) hf1 rfl ?_
    have hf2 := h.1
    replace h := h.2
    refine w_is (k := 105) (n := 8) (jn := x1.toNatClampNeg) am_e214 rfl rfl (by decide) hf2 rfl ?_
    show am_ww 214 19 [.ref 105, .int x1] [] E (u_I I 105 (upd (I 105) x1.toNatClampNeg ((I 105) ((((nI 8) / (nI 2)) + x1).toNatClampNeg)))) J S _
    refine w_st (i' := 20) (ls' := [.ref 105, .int (x1 + nI 1)]) (st' := []) (E' := E) (I' := (u_I I 105 (upd (I 105) x1.toNatClampNeg ((I 105) ((((nI 8) / (nI 2)) + x1).toNatClampNeg))))) (J' := J) (S' := S) am_e214 rfl rfl rfl rfl ?_
    refine w_st (i' := 2) (ls' := [.ref 105, .int (x1 + nI 1)]) (st' := []) (E' := E) (I' := (u_I I 105 (upd (I 105) x1.toNatClampNeg ((I 105) ((((nI 8) / (nI 2)) + x1).toNatClampNeg))))) (J' := J) (S' := S) am_e214 rfl rfl rfl rfl ?_
    exact h
-- 214 takeHalf
theorem g214_0_106  {E : am_Ev} {I : Nat → Nat → Int32} {J : Nat → Nat → Int64} {S : Nat → Nat → Option Nat} {Q : am_Qt}  (h : am_ww 214 2 [.ref 106, .int (nI 0)] [] E I J S Q) : am_ww 214 0 [.ref 106, am_U] [] E I J S Q := by
  refine w_st (i' := 1) (ls' := [.ref 106, am_U]) (st' := [.int (nI 0)]) (E' := E) (I' := I) (J' := J) (S' := S) am_e214 rfl rfl rfl rfl ?_
  refine w_st (i' := 2) (ls' := [.ref 106, .int (nI 0)]) (st' := []) (E' := E) (I' := I) (J' := J) (S' := S) am_e214 rfl rfl rfl rfl ?_
  exact h
theorem g214_2_106 {x1 : Int32} {E : am_Ev} {I : Nat → Nat → Int32} {J : Nat → Nat → Int64} {S : Nat → Nat → Option Nat} {Q : am_Qt}  (h : (((nI 128) / (nI 2)) ≤ x1 → (Q (.inl none) E I J S)) ∧ (¬ ((nI 128) / (nI 2)) ≤ x1 → (vp_in (((nI 128) / (nI 2)) + x1) 128 ∧ (vp_in x1 128 ∧ (am_ww 214 2 [.ref 106, .int (x1 + nI 1)] [] E (u_I I 106 (upd (I 106) x1.toNatClampNeg ((I 106) ((((nI 128) / (nI 2)) + x1).toNatClampNeg)))) J S Q))))) : am_ww 214 2 [.ref 106, .int x1] [] E I J S Q := by
  refine w_st (i' := 3) (ls' := [.ref 106, .int x1]) (st' := [.int x1]) (E' := E) (I' := I) (J' := J) (S' := S) am_e214 rfl rfl rfl rfl ?_
  refine w_st (i' := 4) (ls' := [.ref 106, .int x1]) (st' := [.ref 106, .int x1]) (E' := E) (I' := I) (J' := J) (S' := S) am_e214 rfl rfl rfl rfl ?_
  refine w_st (i' := 5) (ls' := [.ref 106, .int x1]) (st' := [.int (nI 128), .int x1]) (E' := E) (I' := I) (J' := J) (S' := S) am_e214 rfl rfl rfl rfl ?_
  refine w_st (i' := 6) (ls' := [.ref 106, .int x1]) (st' := [.int (nI 2), .int (nI 128), .int x1]) (E' := E) (I' := I) (J' := J) (S' := S) am_e214 rfl rfl rfl rfl ?_
  refine w_dv (by decide) am_e214 rfl ?_
  refine w_if2 am_e214 rfl rfl (fun c => ?_) (fun c => ?_)
  · replace h := h.1 (of_decide_eq_true c)
    exact w_end am_e214 rfl rfl rfl h
  · replace h := h.2 (of_decide_eq_false c)
    refine w_st (i' := 9) (ls' := [.ref 106, .int x1]) (st' := [.ref 106]) (E' := E) (I' := I) (J' := J) (S' := S) am_e214 rfl rfl rfl rfl ?_
    refine w_st (i' := 10) (ls' := [.ref 106, .int x1]) (st' := [.int x1, .ref 106]) (E' := E) (I' := I) (J' := J) (S' := S) am_e214 rfl rfl rfl rfl ?_
    refine w_st (i' := 11) (ls' := [.ref 106, .int x1]) (st' := [.ref 106, .int x1, .ref 106]) (E' := E) (I' := I) (J' := J) (S' := S) am_e214 rfl rfl rfl rfl ?_
    refine w_st (i' := 12) (ls' := [.ref 106, .int x1]) (st' := [.ref 106, .ref 106, .int x1, .ref 106]) (E' := E) (I' := I) (J' := J) (S' := S) am_e214 rfl rfl rfl rfl ?_
    refine w_st (i' := 13) (ls' := [.ref 106, .int x1]) (st' := [.int (nI 128), .ref 106, .int x1, .ref 106]) (E' := E) (I' := I) (J' := J) (S' := S) am_e214 rfl rfl rfl rfl ?_
    refine w_st (i' := 14) (ls' := [.ref 106, .int x1]) (st' := [.int (nI 2), .int (nI 128), .ref 106, .int x1, .ref 106]) (E' := E) (I' := I) (J' := J) (S' := S) am_e214 rfl rfl rfl rfl ?_
    refine w_dv (by decide) am_e214 rfl ?_
    refine w_st (i' := 16) (ls' := [.ref 106, .int x1]) (st' := [.int x1, .int ((nI 128) / (nI 2)), .ref 106, .int x1, .ref 106]) (E' := E) (I' := I) (J' := J) (S' := S) am_e214 rfl rfl rfl rfl ?_
    refine w_st (i' := 17) (ls' := [.ref 106, .int x1]) (st' := [.int (((nI 128) / (nI 2)) + x1), .ref 106, .int x1, .ref 106]) (E' := E) (I' := I) (J' := J) (S' := S) am_e214 rfl rfl rfl rfl ?_
    have hf1 := h.1
    replace h := h.2
    refine w_ia (k := 106) (n := 128) (jn := (((nI 128) / (nI 2)) + x1).toNatClampNeg) am_e214 rfl rfl (by decide) hf1 rfl ?_
    have hf2 := h.1
    replace h := h.2
    refine w_is (k := 106) (n := 128) (jn := x1.toNatClampNeg) am_e214 rfl rfl (by decide) hf2 rfl ?_
    show am_ww 214 19 [.ref 106, .int x1] [] E (u_I I 106 (upd (I 106) x1.toNatClampNeg ((I 106) ((((nI 128) / (nI 2)) + x1).toNatClampNeg)))) J S _
    refine w_st (i' := 20) (ls' := [.ref 106, .int (x1 + nI 1)]) (st' := []) (E' := E) (I' := (u_I I 106 (upd (I 106) x1.toNatClampNeg ((I 106) ((((nI 128) / (nI 2)) + x1).toNatClampNeg))))) (J' := J) (S' := S) am_e214 rfl rfl rfl rfl ?_
    refine w_st (i' := 2) (ls' := [.ref 106, .int (x1 + nI 1)]) (st' := []) (E' := E) (I' := (u_I I 106 (upd (I 106) x1.toNatClampNeg ((I 106) ((((nI 128) / (nI 2)) + x1).toNatClampNeg))))) (J' := J) (S' := S) am_e214 rfl rfl rfl rfl ?_
    exact h
-- 214 takeHalf
theorem g214_0_107  {E : am_Ev} {I : Nat → Nat → Int32} {J : Nat → Nat → Int64} {S : Nat → Nat → Option Nat} {Q : am_Qt}  (h : am_ww 214 2 [.ref 107, .int (nI 0)] [] E I J S Q) : am_ww 214 0 [.ref 107, am_U] [] E I J S Q := by
  refine w_st (i' := 1) (ls' := [.ref 107, am_U]) (st' := [.int (nI 0)]) (E' := E) (I' := I) (J' := J) (S' := S) am_e214 rfl rfl rfl rfl ?_
  refine w_st (i' := 2) (ls' := [.ref 107, .int (nI 0)]) (st' := []) (E' := E) (I' := I) (J' := J) (S' := S) am_e214 rfl rfl rfl rfl ?_
  exact h
theorem g214_2_107 {x1 : Int32} {E : am_Ev} {I : Nat → Nat → Int32} {J : Nat → Nat → Int64} {S : Nat → Nat → Option Nat} {Q : am_Qt}  (h : (((nI 128) / (nI 2)) ≤ x1 → (Q (.inl none) E I J S)) ∧ (¬ ((nI 128) / (nI 2)) ≤ x1 → (vp_in (((nI 128) / (nI 2)) + x1) 128 ∧ (vp_in x1 128 ∧ (am_ww 214 2 [.ref 107, .int (x1 + nI 1)] [] E (u_I I 107 (upd (I 107) x1.toNatClampNeg ((I 107) ((((nI 128) / (nI 2)) + x1).toNatClampNeg)))) J S Q))))) : am_ww 214 2 [.ref 107, .int x1] [] E I J S Q := by
  refine w_st (i' := 3) (ls' := [.ref 107, .int x1]) (st' := [.int x1]) (E' := E) (I' := I) (J' := J) (S' := S) am_e214 rfl rfl rfl rfl ?_
  refine w_st (i' := 4) (ls' := [.ref 107, .int x1]) (st' := [.ref 107, .int x1]) (E' := E) (I' := I) (J' := J) (S' := S) am_e214 rfl rfl rfl rfl ?_
  refine w_st (i' := 5) (ls' := [.ref 107, .int x1]) (st' := [.int (nI 128), .int x1]) (E' := E) (I' := I) (J' := J) (S' := S) am_e214 rfl rfl rfl rfl ?_
  refine w_st (i' := 6) (ls' := [.ref 107, .int x1]) (st' := [.int (nI 2), .int (nI 128), .int x1]) (E' := E) (I' := I) (J' := J) (S' := S) am_e214 rfl rfl rfl rfl ?_
  refine w_dv (by decide) am_e214 rfl ?_
  refine w_if2 am_e214 rfl rfl (fun c => ?_) (fun c => ?_)
  · replace h := h.1 (of_decide_eq_true c)
    exact w_end am_e214 rfl rfl rfl h
  · replace h := h.2 (of_decide_eq_false c)
    refine w_st (i' := 9) (ls' := [.ref 107, .int x1]) (st' := [.ref 107]) (E' := E) (I' := I) (J' := J) (S' := S) am_e214 rfl rfl rfl rfl ?_
    refine w_st (i' := 10) (ls' := [.ref 107, .int x1]) (st' := [.int x1, .ref 107]) (E' := E) (I' := I) (J' := J) (S' := S) am_e214 rfl rfl rfl rfl ?_
    refine w_st (i' := 11) (ls' := [.ref 107, .int x1]) (st' := [.ref 107, .int x1, .ref 107]) (E' := E) (I' := I) (J' := J) (S' := S) am_e214 rfl rfl rfl rfl ?_
    refine w_st (i' := 12) (ls' := [.ref 107, .int x1]) (st' := [.ref 107, .ref 107, .int x1, .ref 107]) (E' := E) (I' := I) (J' := J) (S' := S) am_e214 rfl rfl rfl rfl ?_
    refine w_st (i' := 13) (ls' := [.ref 107, .int x1]) (st' := [.int (nI 128), .ref 107, .int x1, .ref 107]) (E' := E) (I' := I) (J' := J) (S' := S) am_e214 rfl rfl rfl rfl ?_
    refine w_st (i' := 14) (ls' := [.ref 107, .int x1]) (st' := [.int (nI 2), .int (nI 128), .ref 107, .int x1, .ref 107]) (E' := E) (I' := I) (J' := J) (S' := S) am_e214 rfl rfl rfl rfl ?_
    refine w_dv (by decide) am_e214 rfl ?_
    refine w_st (i' := 16) (ls' := [.ref 107, .int x1]) (st' := [.int x1, .int ((nI 128) / (nI 2)), .ref 107, .int x1, .ref 107]) (E' := E) (I' := I) (J' := J) (S' := S) am_e214 rfl rfl rfl rfl ?_
    refine w_st (i' := 17) (ls' := [.ref 107, .int x1]) (st' := [.int (((nI 128) / (nI 2)) + x1), .ref 107, .int x1, .ref 107]) (E' := E) (I' := I) (J' := J) (S' := S) am_e214 rfl rfl rfl rfl ?_
    have hf1 := h.1
    replace h := h.2
    refine w_ia (k := 107) (n := 128) (jn := (((nI 128) / (nI 2)) + x1).toNatClampNeg) am_e214 rfl rfl (by decide) hf1 rfl ?_
    have hf2 := h.1
    replace h := h.2
    refine w_is (k := 107) (n := 128) (jn := x1.toNatClampNeg) am_e214 rfl rfl (by decide) hf2 rfl ?_
    show am_ww 214 19 [.ref 107, .int x1] [] E (u_I I 107 (upd (I 107) x1.toNatClampNeg ((I 107) ((((nI 128) / (nI 2)) + x1).toNatClampNeg)))) J S _
    refine w_st (i' := 20) (ls' := [.ref 107, .int (x1 + nI 1)]) (st' := []) (E' := E) (I' := (u_I I 107 (upd (I 107) x1.toNatClampNeg ((I 107) ((((nI 128) / (nI 2)) + x1).toNatClampNeg))))) (J' := J) (S' := S) am_e214 rfl rfl rfl rfl ?_
    refine w_st (i' := 2) (ls' := [.ref 107, .int (x1 + nI 1)]) (st' := []) (E' := E) (I' := (u_I I 107 (upd (I 107) x1.toNatClampNeg ((I 107) ((((nI 128) / (nI 2)) + x1).toNatClampNeg))))) (J' := J) (S' := S) am_e214 rfl rfl rfl rfl ?_
    exact h
-- 214 takeHalf
theorem g214_0_108  {E : am_Ev} {I : Nat → Nat → Int32} {J : Nat → Nat → Int64} {S : Nat → Nat → Option Nat} {Q : am_Qt}  (h : am_ww 214 2 [.ref 108, .int (nI 0)] [] E I J S Q) : am_ww 214 0 [.ref 108, am_U] [] E I J S Q := by
  refine w_st (i' := 1) (ls' := [.ref 108, am_U]) (st' := [.int (nI 0)]) (E' := E) (I' := I) (J' := J) (S' := S) am_e214 rfl rfl rfl rfl ?_
  refine w_st (i' := 2) (ls' := [.ref 108, .int (nI 0)]) (st' := []) (E' := E) (I' := I) (J' := J) (S' := S) am_e214 rfl rfl rfl rfl ?_
  exact h
theorem g214_2_108 {x1 : Int32} {E : am_Ev} {I : Nat → Nat → Int32} {J : Nat → Nat → Int64} {S : Nat → Nat → Option Nat} {Q : am_Qt}  (h : (((nI 128) / (nI 2)) ≤ x1 → (Q (.inl none) E I J S)) ∧ (¬ ((nI 128) / (nI 2)) ≤ x1 → (vp_in (((nI 128) / (nI 2)) + x1) 128 ∧ (vp_in x1 128 ∧ (am_ww 214 2 [.ref 108, .int (x1 + nI 1)] [] E (u_I I 108 (upd (I 108) x1.toNatClampNeg ((I 108) ((((nI 128) / (nI 2)) + x1).toNatClampNeg)))) J S Q))))) : am_ww 214 2 [.ref 108, .int x1] [] E I J S Q := by
  refine w_st (i' := 3) (ls' := [.ref 108, .int x1]) (st' := [.int x1]) (E' := E) (I' := I) (J' := J) (S' := S) am_e214 rfl rfl rfl rfl ?_
  refine w_st (i' := 4) (ls' := [.ref 108, .int x1]) (st' := [.ref 108, .int x1]) (E' := E) (I' := I) (J' := J) (S' := S) am_e214 rfl rfl rfl rfl ?_
  refine w_st (i' := 5) (ls' := [.ref 108, .int x1]) (st' := [.int (nI 128), .int x1]) (E' := E) (I' := I) (J' := J) (S' := S) am_e214 rfl rfl rfl rfl ?_
  refine w_st (i' := 6) (ls' := [.ref 108, .int x1]) (st' := [.int (nI 2), .int (nI 128), .int x1]) (E' := E) (I' := I) (J' := J) (S' := S) am_e214 rfl rfl rfl rfl ?_
  refine w_dv (by decide) am_e214 rfl ?_
  refine w_if2 am_e214 rfl rfl (fun c => ?_) (fun c => ?_)
  · replace h := h.1 (of_decide_eq_true c)
    exact w_end am_e214 rfl rfl rfl h
  · replace h := h.2 (of_decide_eq_false c)
    refine w_st (i' := 9) (ls' := [.ref 108, .int x1]) (st' := [.ref 108]) (E' := E) (I' := I) (J' := J) (S' := S) am_e214 rfl rfl rfl rfl ?_
    refine w_st (i' := 10) (ls' := [.ref 108, .int x1]) (st' := [.int x1, .ref 108]) (E' := E) (I' := I) (J' := J) (S' := S) am_e214 rfl rfl rfl rfl ?_
    refine w_st (i' := 11) (ls' := [.ref 108, .int x1]) (st' := [.ref 108, .int x1, .ref 108]) (E' := E) (I' := I) (J' := J) (S' := S) am_e214 rfl rfl rfl rfl ?_
    refine w_st (i' := 12) (ls' := [.ref 108, .int x1]) (st' := [.ref 108, .ref 108, .int x1, .ref 108]) (E' := E) (I' := I) (J' := J) (S' := S) am_e214 rfl rfl rfl rfl ?_
    refine w_st (i' := 13) (ls' := [.ref 108, .int x1]) (st' := [.int (nI 128), .ref 108, .int x1, .ref 108]) (E' := E) (I' := I) (J' := J) (S' := S) am_e214 rfl rfl rfl rfl ?_
    refine w_st (i' := 14) (ls' := [.ref 108, .int x1]) (st' := [.int (nI 2), .int (nI 128), .ref 108, .int x1, .ref 108]) (E' := E) (I' := I) (J' := J) (S' := S) am_e214 rfl rfl rfl rfl ?_
    refine w_dv (by decide) am_e214 rfl ?_
    refine w_st (i' := 16) (ls' := [.ref 108, .int x1]) (st' := [.int x1, .int ((nI 128) / (nI 2)), .ref 108, .int x1, .ref 108]) (E' := E) (I' := I) (J' := J) (S' := S) am_e214 rfl rfl rfl rfl ?_
    refine w_st (i' := 17) (ls' := [.ref 108, .int x1]) (st' := [.int (((nI 128) / (nI 2)) + x1), .ref 108, .int x1, .ref 108]) (E' := E) (I' := I) (J' := J) (S' := S) am_e214 rfl rfl rfl rfl ?_
    have hf1 := h.1
    replace h := h.2
    refine w_ia (k := 108) (n := 128) (jn := (((nI 128) / (nI 2)) + x1).toNatClampNeg) am_e214 rfl rfl (by decide) hf1 rfl ?_
    have hf2 := h.1
    replace h := h.2
    refine w_is (k := 108) (n := 128) (jn := x1.toNatClampNeg) am_e214 rfl rfl (by decide) hf2 rfl ?_
    show am_ww 214 19 [.ref 108, .int x1] [] E (u_I I 108 (upd (I 108) x1.toNatClampNeg ((I 108) ((((nI 128) / (nI 2)) + x1).toNatClampNeg)))) J S _
    refine w_st (i' := 20) (ls' := [.ref 108, .int (x1 + nI 1)]) (st' := []) (E' := E) (I' := (u_I I 108 (upd (I 108) x1.toNatClampNeg ((I 108) ((((nI 128) / (nI 2)) + x1).toNatClampNeg))))) (J' := J) (S' := S) am_e214 rfl rfl rfl rfl ?_
    refine w_st (i' := 2) (ls' := [.ref 108, .int (x1 + nI 1)]) (st' := []) (E' := E) (I' := (u_I I 108 (upd (I 108) x1.toNatClampNeg ((I 108) ((((nI 128) / (nI 2)) + x1).toNatClampNeg))))) (J' := J) (S' := S) am_e214 rfl rfl rfl rfl ?_
    exact h
-- 214 takeHalf
theorem g214_0_109  {E : am_Ev} {I : Nat → Nat → Int32} {J : Nat → Nat → Int64} {S : Nat → Nat → Option Nat} {Q : am_Qt}  (h : am_ww 214 2 [.ref 109, .int (nI 0)] [] E I J S Q) : am_ww 214 0 [.ref 109, am_U] [] E I J S Q := by
  refine w_st (i' := 1) (ls' := [.ref 109, am_U]) (st' := [.int (nI 0)]) (E' := E) (I' := I) (J' := J) (S' := S) am_e214 rfl rfl rfl rfl ?_
  refine w_st (i' := 2) (ls' := [.ref 109, .int (nI 0)]) (st' := []) (E' := E) (I' := I) (J' := J) (S' := S) am_e214 rfl rfl rfl rfl ?_
  exact h
theorem g214_2_109 {x1 : Int32} {E : am_Ev} {I : Nat → Nat → Int32} {J : Nat → Nat → Int64} {S : Nat → Nat → Option Nat} {Q : am_Qt}  (h : (((nI 128) / (nI 2)) ≤ x1 → (Q (.inl none) E I J S)) ∧ (¬ ((nI 128) / (nI 2)) ≤ x1 → (vp_in (((nI 128) / (nI 2)) + x1) 128 ∧ (vp_in x1 128 ∧ (am_ww 214 2 [.ref 109, .int (x1 + nI 1)] [] E (u_I I 109 (upd (I 109) x1.toNatClampNeg ((I 109) ((((nI 128) / (nI 2)) + x1).toNatClampNeg)))) J S Q))))) : am_ww 214 2 [.ref 109, .int x1] [] E I J S Q := by
  refine w_st (i' := 3) (ls' := [.ref 109, .int x1]) (st' := [.int x1]) (E' := E) (I' := I) (J' := J) (S' := S) am_e214 rfl rfl rfl rfl ?_
  refine w_st (i' := 4) (ls' := [.ref 109, .int x1]) (st' := [.ref 109, .int x1]) (E' := E) (I' := I) (J' := J) (S' := S) am_e214 rfl rfl rfl rfl ?_
  refine w_st (i' := 5) (ls' := [.ref 109, .int x1]) (st' := [.int (nI 128), .int x1]) (E' := E) (I' := I) (J' := J) (S' := S) am_e214 rfl rfl rfl rfl ?_
  refine w_st (i' := 6) (ls' := [.ref 109, .int x1]) (st' := [.int (nI 2), .int (nI 128), .int x1]) (E' := E) (I' := I) (J' := J) (S' := S) am_e214 rfl rfl rfl rfl ?_
  refine w_dv (by decide) am_e214 rfl ?_
  refine w_if2 am_e214 rfl rfl (fun c => ?_) (fun c => ?_)
  · replace h := h.1 (of_decide_eq_true c)
    exact w_end am_e214 rfl rfl rfl h
  · replace h := h.2 (of_decide_eq_false c)
    refine w_st (i' := 9) (ls' := [.ref 109, .int x1]) (st' := [.ref 109]) (E' := E) (I' := I) (J' := J) (S' := S) am_e214 rfl rfl rfl rfl ?_
    refine w_st (i' := 10) (ls' := [.ref 109, .int x1]) (st' := [.int x1, .ref 109]) (E' := E) (I' := I) (J' := J) (S' := S) am_e214 rfl rfl rfl rfl ?_
    refine w_st (i' := 11) (ls' := [.ref 109, .int x1]) (st' := [.ref 109, .int x1, .ref 109]) (E' := E) (I' := I) (J' := J) (S' := S) am_e214 rfl rfl rfl rfl ?_
    refine w_st (i' := 12) (ls' := [.ref 109, .int x1]) (st' := [.ref 109, .ref 109, .int x1, .ref 109]) (E' := E) (I' := I) (J' := J) (S' := S) am_e214 rfl rfl rfl rfl ?_
    refine w_st (i' := 13) (ls' := [.ref 109, .int x1]) (st' := [.int (nI 128), .ref 109, .int x1, .ref 109]) (E' := E) (I' := I) (J' := J) (S' := S) am_e214 rfl rfl rfl rfl ?_
    refine w_st (i' := 14) (ls' := [.ref 109, .int x1]) (st' := [.int (nI 2), .int (nI 128), .ref 109, .int x1, .ref 109]) (E' := E) (I' := I) (J' := J) (S' := S) am_e214 rfl rfl rfl rfl ?_
    refine w_dv (by decide) am_e214 rfl ?_
    refine w_st (i' := 16) (ls' := [.ref 109, .int x1]) (st' := [.int x1, .int ((nI 128) / (nI 2)), .ref 109, .int x1, .ref 109]) (E' := E) (I' := I) (J' := J) (S' := S) am_e214 rfl rfl rfl rfl ?_
    refine w_st (i' := 17) (ls' := [.ref 109, .int x1]) (st' := [.int (((nI 128) / (nI 2)) + x1), .ref 109, .int x1, .ref 109]) (E' := E) (I' := I) (J' := J) (S' := S) am_e214 rfl rfl rfl rfl ?_
    have hf1 := h.1
    replace h := h.2
    refine w_ia (k := 109) (n := 128) (jn := (((nI 128) / (nI 2)) + x1).toNatClampNeg) am_e214 rfl rfl (by decide) hf1 rfl ?_
    have hf2 := h.1
    replace h := h.2
    refine w_is (k := 109) (n := 128) (jn := x1.toNatClampNeg) am_e214 rfl rfl (by decide) hf2 rfl ?_
    show am_ww 214 19 [.ref 109, .int x1] [] E (u_I I 109 (upd (I 109) x1.toNatClampNeg ((I 109) ((((nI 128) / (nI 2)) + x1).toNatClampNeg)))) J S _
    refine w_st (i' := 20) (ls' := [.ref 109, .int (x1 + nI 1)]) (st' := []) (E' := E) (I' := (u_I I 109 (upd (I 109) x1.toNatClampNeg ((I 109) ((((nI 128) / (nI 2)) + x1).toNatClampNeg))))) (J' := J) (S' := S) am_e214 rfl rfl rfl rfl ?_
    refine w_st (i' := 2) (ls' := [.ref 109, .int (x1 + nI 1)]) (st' := []) (E' := E) (I' := (u_I I 109 (upd (I 109) x1.toNatClampNeg ((I 109) ((((nI 128) / (nI 2)) + x1).toNatClampNeg))))) (J' := J) (S' := S) am_e214 rfl rfl rfl rfl ?_
    exact h
