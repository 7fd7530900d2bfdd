/-! rows of methods, by program -/
-- 268 isRace
theorem g268_0 {p1 : Int32} {p2 : Int32} {E : am_Ev} {I : Nat → Nat → Int32} {J : Nat → Nat → Int64} {S : Nat → Nat → Option Nat} {Q : am_Qt}  (h : vp_in p1 401 ∧ (vp_in ((I 119) p1.toNatClampNeg) 128 ∧ (((((I 106) (((I 119) p1.toNatClampNeg).toNatClampNeg)) = (nI 2) → (True)) ∧ (¬ ((I 106) (((I 119) p1.toNatClampNeg).toNatClampNeg)) = (nI 2) → (vp_in p2 401 ∧ (vp_in ((I 119) p2.toNatClampNeg) 128 ∧ True)))) ∧ (∀ w5 : Int32, w5 = (if ((I 106) (((I 119) p1.toNatClampNeg).toNatClampNeg)) = (nI 2) then nI 1 else (if ((I 106) (((I 119) p2.toNatClampNeg).toNatClampNeg)) = (nI 2) then nI 1 else nI 0)) → ((((I 129) p1.toNatClampNeg) = (-1) → (Q (.inl (some (.int (nI 0)))) E I J S)) ∧ (¬ ((I 129) p1.toNatClampNeg) = (-1) → (vp_in p2 401 ∧ ((((I 129) p1.toNatClampNeg) = ((I 129) p2.toNatClampNeg) → ((((I 118) p1.toNatClampNeg) = ((I 118) p2.toNatClampNeg) → (Q (.inl (some (.int (nI 0)))) E I J S)) ∧ (¬ ((I 118) p1.toNatClampNeg) = ((I 118) p2.toNatClampNeg) → ((w5 = 0 → (Q (.inl (some (.int (nI 0)))) E I J S)) ∧ (¬ w5 = 0 → (vp_in (((nI 7) * p2) + (p1 / (nI 64))) 2807 ∧ (((lg_cmp ((((J 128) ((((nI 7) * p2) + (p1 / (nI 64))).toNatClampNeg)) >>> ((p1 - p1 / (nI 64) * (nI 64)).toInt64 &&& 63)) &&& (lN 1)) (lN 1)) = 0 → (Q (.inl (some (.int (nI 0)))) E I J S)) ∧ (¬ (lg_cmp ((((J 128) ((((nI 7) * p2) + (p1 / (nI 64))).toNatClampNeg)) >>> ((p1 - p1 / (nI 64) * (nI 64)).toInt64 &&& 63)) &&& (lN 1)) (lN 1)) = 0 → (Q (.inl (some (.int (nI 1)))) E I J S))))))))) ∧ (¬ ((I 129) p1.toNatClampNeg) = ((I 129) p2.toNatClampNeg) → (Q (.inl (some (.int (nI 0)))) E I J S)))))))))) : am_ww 268 0 [.ref 99, .int p1, .int p2, am_U] [] E I J S Q := by
  refine w_st (i' := 1) (ls' := [.ref 99, .int p1, .int p2, am_U]) (st' := [.ref 99]) (E' := E) (I' := I) (J' := J) (S' := S) am_e268 rfl rfl rfl rfl ?_
  refine w_st (i' := 2) (ls' := [.ref 99, .int p1, .int p2, am_U]) (st' := [.ref 106]) (E' := E) (I' := I) (J' := J) (S' := S) am_e268 rfl rfl rfl rfl ?_
  refine w_st (i' := 3) (ls' := [.ref 99, .int p1, .int p2, am_U]) (st' := [.ref 99, .ref 106]) (E' := E) (I' := I) (J' := J) (S' := S) am_e268 rfl rfl rfl rfl ?_
  refine w_st (i' := 4) (ls' := [.ref 99, .int p1, .int p2, am_U]) (st' := [.ref 119, .ref 106]) (E' := E) (I' := I) (J' := J) (S' := S) am_e268 rfl rfl rfl rfl ?_
  refine w_st (i' := 5) (ls' := [.ref 99, .int p1, .int p2, am_U]) (st' := [.int p1, .ref 119, .ref 106]) (E' := E) (I' := I) (J' := J) (S' := S) am_e268 rfl rfl rfl rfl ?_
  have hf1 := h.1
  replace h := h.2
  refine w_ia (k := 119) (n := 401) (jn := p1.toNatClampNeg) am_e268 rfl rfl (by decide) hf1 rfl ?_
  have hf2 := h.1
  replace h := h.2
  refine w_ia (k := 106) (n := 128) (jn := ((I 119) p1.toNatClampNeg).toNatClampNeg) am_e268 rfl rfl (by decide) hf2 rfl ?_
  refine w_st (i' := 8) (ls' := [.ref 99, .int p1, .int p2, am_U]) (st' := [.int (nI 2), .int ((I 106) (((I 119) p1.toNatClampNeg).toNatClampNeg))]) (E' := E) (I' := I) (J' := J) (S' := S) am_e268 rfl rfl rfl rfl ?_
  refine w_mg (i := 21) (ls' := [.ref 99, .int p1, .int p2, am_U]) (st' := [.int (if ((I 106) (((I 119) p1.toNatClampNeg).toNatClampNeg)) = (nI 2) then nI 1 else (if ((I 106) (((I 119) p2.toNatClampNeg).toNatClampNeg)) = (nI 2) then nI 1 else nI 0))]) (fun hm => ?_) ?_
  · replace h := h.1
    refine w_if2 am_e268 rfl rfl (fun c => ?_) (fun c => ?_)
    · have m3 : ((I 106) (((I 119) p1.toNatClampNeg).toNatClampNeg)) = (nI 2) := (of_decide_eq_true c)
      replace h := h.1 m3
      refine w_st (i' := 19) (ls' := [.ref 99, .int p1, .int p2, am_U]) (st' := [.int (nI 1)]) (E' := E) (I' := I) (J' := J) (S' := S) am_e268 rfl rfl rfl rfl ?_
      refine w_st (i' := 21) (ls' := [.ref 99, .int p1, .int p2, am_U]) (st' := [.int (nI 1)]) (E' := E) (I' := I) (J' := J) (S' := S) am_e268 rfl rfl rfl rfl ?_
      first | exact hm | (simp only [if_pos m3] at hm; exact hm)
    · have m3 : ¬ (((I 106) (((I 119) p1.toNatClampNeg).toNatClampNeg)) = (nI 2)) := (of_decide_eq_false c)
      replace h := h.2 m3
      refine w_st (i' := 10) (ls' := [.ref 99, .int p1, .int p2, am_U]) (st' := [.ref 99]) (E' := E) (I' := I) (J' := J) (S' := S) am_e268 rfl rfl rfl rfl ?_
      refine w_st (i' := 11) (ls' := [.ref 99, .int p1, .int p2, am_U]) (st' := [.ref 106]) (E' := E) (I' := I) (J' := J) (S' := S) am_e268 rfl rfl rfl rfl ?_
      refine w_st (i' := 12) (ls' := [.ref 99, .int p1, .int p2, am_U]) (st' := [.ref 99, .ref 106]) (E' := E) (I' := I) (J' := J) (S' := S) am_e268 rfl rfl rfl rfl ?_
      refine w_st (i' := 13) (ls' := [.ref 99, .int p1, .int p2, am_U]) (st' := [.ref 119, .ref 106]) (E' := E) (I' := I) (J' := J) (S' := S) am_e268 rfl rfl rfl rfl ?_
      refine w_st (i' := 14) (ls' := [.ref 99, .int p1, .int p2, am_U]) (st' := [.int p2, .ref 119, .ref 106]) (E' := E) (I' := I) (J' := J) (S' := S) am_e268 rfl rfl rfl rfl ?_
      refine w_ia (k := 119) (n := 401) (jn := p2.toNatClampNeg) am_e268 rfl rfl (by decide) h.1 rfl ?_
      replace h := h.2
      show am_ww 268 15 [.ref 99, .int p1, .int p2, am_U] [.int ((I 119) p2.toNatClampNeg), .ref 106] E I J S _
      refine w_ia (k := 106) (n := 128) (jn := ((I 119) p2.toNatClampNeg).toNatClampNeg) am_e268 rfl rfl (by decide) h.1 rfl ?_
      replace h := h.2
      show am_ww 268 16 [.ref 99, .int p1, .int p2, am_U] [.int ((I 106) (((I 119) p2.toNatClampNeg).toNatClampNeg))] E I J S _
      refine w_st (i' := 17) (ls' := [.ref 99, .int p1, .int p2, am_U]) (st' := [.int (nI 2), .int ((I 106) (((I 119) p2.toNatClampNeg).toNatClampNeg))]) (E' := E) (I' := I) (J' := J) (S' := S) am_e268 rfl rfl rfl rfl ?_
      refine w_if2 am_e268 rfl rfl (fun c => ?_) (fun c => ?_)
      · have m4 : ¬ (((I 106) (((I 119) p2.toNatClampNeg).toNatClampNeg)) = (nI 2)) := (of_decide_eq_true c)
        refine w_st (i' := 21) (ls' := [.ref 99, .int p1, .int p2, am_U]) (st' := [.int (nI 0)]) (E' := E) (I' := I) (J' := J) (S' := S) am_e268 rfl rfl rfl rfl ?_
        first | exact hm | (simp only [if_neg m3, if_neg m4] at hm; exact hm)
      · have m4 : ((I 106) (((I 119) p2.toNatClampNeg).toNatClampNeg)) = (nI 2) := (Decidable.not_not.mp (of_decide_eq_false c))
        refine w_st (i' := 19) (ls' := [.ref 99, .int p1, .int p2, am_U]) (st' := [.int (nI 1)]) (E' := E) (I' := I) (J' := J) (S' := S) am_e268 rfl rfl rfl rfl ?_
        refine w_st (i' := 21) (ls' := [.ref 99, .int p1, .int p2, am_U]) (st' := [.int (nI 1)]) (E' := E) (I' := I) (J' := J) (S' := S) am_e268 rfl rfl rfl rfl ?_
        first | exact hm | (simp only [if_neg m3, if_pos m4] at hm; exact hm)
  replace h := h.2
  refine w_var (fun w5 => am_ww 268 21 [.ref 99, .int p1, .int p2, am_U] [.int w5] E I J S _) (if ((I 106) (((I 119) p1.toNatClampNeg).toNatClampNeg)) = (nI 2) then nI 1 else (if ((I 106) (((I 119) p2.toNatClampNeg).toNatClampNeg)) = (nI 2) then nI 1 else nI 0)) (fun w5 hw5 => ?_)
  replace h := h w5 hw5
  refine w_st (i' := 22) (ls' := [.ref 99, .int p1, .int p2, .int w5]) (st' := []) (E' := E) (I' := I) (J' := J) (S' := S) am_e268 rfl rfl rfl rfl ?_
  refine w_st (i' := 23) (ls' := [.ref 99, .int p1, .int p2, .int w5]) (st' := [.ref 99]) (E' := E) (I' := I) (J' := J) (S' := S) am_e268 rfl rfl rfl rfl ?_
  refine w_st (i' := 24) (ls' := [.ref 99, .int p1, .int p2, .int w5]) (st' := [.ref 129]) (E' := E) (I' := I) (J' := J) (S' := S) am_e268 rfl rfl rfl rfl ?_
  refine w_st (i' := 25) (ls' := [.ref 99, .int p1, .int p2, .int w5]) (st' := [.int p1, .ref 129]) (E' := E) (I' := I) (J' := J) (S' := S) am_e268 rfl rfl rfl rfl ?_
  refine w_ia (k := 129) (n := 401) (jn := p1.toNatClampNeg) am_e268 rfl rfl (by decide) hf1 rfl ?_
  refine w_st (i' := 27) (ls' := [.ref 99, .int p1, .int p2, .int w5]) (st' := [.int (-1), .int ((I 129) p1.toNatClampNeg)]) (E' := E) (I' := I) (J' := J) (S' := S) am_e268 rfl rfl rfl rfl ?_
  refine w_if2 am_e268 rfl rfl (fun c => ?_) (fun c => ?_)
  · replace h := h.1 (of_decide_eq_true c)
    refine w_st (i' := 56) (ls' := [.ref 99, .int p1, .int p2, .int w5]) (st' := [.int (nI 0)]) (E' := E) (I' := I) (J' := J) (S' := S) am_e268 rfl rfl rfl rfl ?_
    exact w_end am_e268 rfl rfl rfl h
  · replace h := h.2 (of_decide_eq_false c)
    refine w_st (i' := 29) (ls' := [.ref 99, .int p1, .int p2, .int w5]) (st' := [.ref 99]) (E' := E) (I' := I) (J' := J) (S' := S) am_e268 rfl rfl rfl rfl ?_
    refine w_st (i' := 30) (ls' := [.ref 99, .int p1, .int p2, .int w5]) (st' := [.ref 129]) (E' := E) (I' := I) (J' := J) (S' := S) am_e268 rfl rfl rfl rfl ?_
    refine w_st (i' := 31) (ls' := [.ref 99, .int p1, .int p2, .int w5]) (st' := [.int p1, .ref 129]) (E' := E) (I' := I) (J' := J) (S' := S) am_e268 rfl rfl rfl rfl ?_
    refine w_ia (k := 129) (n := 401) (jn := p1.toNatClampNeg) am_e268 rfl rfl (by decide) hf1 rfl ?_
    refine w_st (i' := 33) (ls' := [.ref 99, .int p1, .int p2, .int w5]) (st' := [.ref 99, .int ((I 129) p1.toNatClampNeg)]) (E' := E) (I' := I) (J' := J) (S' := S) am_e268 rfl rfl rfl rfl ?_
    refine w_st (i' := 34) (ls' := [.ref 99, .int p1, .int p2, .int w5]) (st' := [.ref 129, .int ((I 129) p1.toNatClampNeg)]) (E' := E) (I' := I) (J' := J) (S' := S) am_e268 rfl rfl rfl rfl ?_
    refine w_st (i' := 35) (ls' := [.ref 99, .int p1, .int p2, .int w5]) (st' := [.int p2, .ref 129, .int ((I 129) p1.toNatClampNeg)]) (E' := E) (I' := I) (J' := J) (S' := S) am_e268 rfl rfl rfl rfl ?_
    have hf6 := h.1
    replace h := h.2
    refine w_ia (k := 129) (n := 401) (jn := p2.toNatClampNeg) am_e268 rfl rfl (by decide) hf6 rfl ?_
    refine w_if2 am_e268 rfl rfl (fun c => ?_) (fun c => ?_)
    · replace h := h.2 (of_decide_eq_true c)
      refine w_st (i' := 56) (ls' := [.ref 99, .int p1, .int p2, .int w5]) (st' := [.int (nI 0)]) (E' := E) (I' := I) (J' := J) (S' := S) am_e268 rfl rfl rfl rfl ?_
      exact w_end am_e268 rfl rfl rfl h
    · replace h := h.1 (Decidable.not_not.mp (of_decide_eq_false c))
      refine w_st (i' := 38) (ls' := [.ref 99, .int p1, .int p2, .int w5]) (st' := [.ref 99]) (E' := E) (I' := I) (J' := J) (S' := S) am_e268 rfl rfl rfl rfl ?_
      refine w_st (i' := 39) (ls' := [.ref 99, .int p1, .int p2, .int w5]) (st' := [.ref 118]) (E' := E) (I' := I) (J' := J) (S' := S) am_e268 rfl rfl rfl rfl ?_
      refine w_st (i' := 40) (ls' := [.ref 99, .int p1, .int p2, .int w5]) (st' := [.int p1, .ref 118]) (E' := E) (I' := I) (J' := J) (S' := S) am_e268 rfl rfl rfl rfl ?_
      refine w_ia (k := 118) (n := 401) (jn := p1.toNatClampNeg) am_e268 rfl rfl (by decide) hf1 rfl ?_
      refine w_st (i' := 42) (ls' := [.ref 99, .int p1, .int p2, .int w5]) (st' := [.ref 99, .int ((I 118) p1.toNatClampNeg)]) (E' := E) (I' := I) (J' := J) (S' := S) am_e268 rfl rfl rfl rfl ?_
      refine w_st (i' := 43) (ls' := [.ref 99, .int p1, .int p2, .int w5]) (st' := [.ref 118, .int ((I 118) p1.toNatClampNeg)]) (E' := E) (I' := I) (J' := J) (S' := S) am_e268 rfl rfl rfl rfl ?_
      refine w_st (i' := 44) (ls' := [.ref 99, .int p1, .int p2, .int w5]) (st' := [.int p2, .ref 118, .int ((I 118) p1.toNatClampNeg)]) (E' := E) (I' := I) (J' := J) (S' := S) am_e268 rfl rfl rfl rfl ?_
      refine w_ia (k := 118) (n := 401) (jn := p2.toNatClampNeg) am_e268 rfl rfl (by decide) hf6 rfl ?_
      refine w_if2 am_e268 rfl rfl (fun c => ?_) (fun c => ?_)
      · replace h := h.1 (of_decide_eq_true c)
        refine w_st (i' := 56) (ls' := [.ref 99, .int p1, .int p2, .int w5]) (st' := [.int (nI 0)]) (E' := E) (I' := I) (J' := J) (S' := S) am_e268 rfl rfl rfl rfl ?_
        exact w_end am_e268 rfl rfl rfl h
      · replace h := h.2 (of_decide_eq_false c)
        refine w_st (i' := 47) (ls' := [.ref 99, .int p1, .int p2, .int w5]) (st' := [.int w5]) (E' := E) (I' := I) (J' := J) (S' := S) am_e268 rfl rfl rfl rfl ?_
        refine w_if1 am_e268 rfl rfl (fun c => ?_) (fun c => ?_)
        · replace h := h.1 (of_decide_eq_true c)
          refine w_st (i' := 56) (ls' := [.ref 99, .int p1, .int p2, .int w5]) (st' := [.int (nI 0)]) (E' := E) (I' := I) (J' := J) (S' := S) am_e268 rfl rfl rfl rfl ?_
          exact w_end am_e268 rfl rfl rfl h
        · replace h := h.2 (of_decide_eq_false c)
          refine w_st (i' := 49) (ls' := [.ref 99, .int p1, .int p2, .int w5]) (st' := [.ref 99]) (E' := E) (I' := I) (J' := J) (S' := S) am_e268 rfl rfl rfl rfl ?_
          refine w_st (i' := 50) (ls' := [.ref 99, .int p1, .int p2, .int w5]) (st' := [.int p1, .ref 99]) (E' := E) (I' := I) (J' := J) (S' := S) am_e268 rfl rfl rfl rfl ?_
          refine w_st (i' := 51) (ls' := [.ref 99, .int p1, .int p2, .int w5]) (st' := [.int p2, .int p1, .ref 99]) (E' := E) (I' := I) (J' := J) (S' := S) am_e268 rfl rfl rfl rfl ?_
          refine w_cI am_e268 rfl rfl (as := [.ref 99, .int p1, .int p2]) (rest := []) rfl rfl ?_
          show am_ww 269 0 [.ref 99, .int p1, .int p2] [] E I J S _
          refine w_st (i' := 1) (ls' := [.ref 99, .int p1, .int p2]) (st' := [.ref 99]) (E' := E) (I' := I) (J' := J) (S' := S) am_e269 rfl rfl rfl rfl ?_
          refine w_st (i' := 2) (ls' := [.ref 99, .int p1, .int p2]) (st' := [.ref 128]) (E' := E) (I' := I) (J' := J) (S' := S) am_e269 rfl rfl rfl rfl ?_
          refine w_st (i' := 3) (ls' := [.ref 99, .int p1, .int p2]) (st' := [.int (nI 7), .ref 128]) (E' := E) (I' := I) (J' := J) (S' := S) am_e269 rfl rfl rfl rfl ?_
          refine w_st (i' := 4) (ls' := [.ref 99, .int p1, .int p2]) (st' := [.int p2, .int (nI 7), .ref 128]) (E' := E) (I' := I) (J' := J) (S' := S) am_e269 rfl rfl rfl rfl ?_
          refine w_st (i' := 5) (ls' := [.ref 99, .int p1, .int p2]) (st' := [.int ((nI 7) * p2), .ref 128]) (E' := E) (I' := I) (J' := J) (S' := S) am_e269 rfl rfl rfl rfl ?_
          refine w_st (i' := 6) (ls' := [.ref 99, .int p1, .int p2]) (st' := [.int p1, .int ((nI 7) * p2), .ref 128]) (E' := E) (I' := I) (J' := J) (S' := S) am_e269 rfl rfl rfl rfl ?_
          refine w_st (i' := 7) (ls' := [.ref 99, .int p1, .int p2]) (st' := [.int (nI 64), .int p1, .int ((nI 7) * p2), .ref 128]) (E' := E) (I' := I) (J' := J) (S' := S) am_e269 rfl rfl rfl rfl ?_
          refine w_dv (by decide) am_e269 rfl ?_
          refine w_st (i' := 9) (ls' := [.ref 99, .int p1, .int p2]) (st' := [.int (((nI 7) * p2) + (p1 / (nI 64))), .ref 128]) (E' := E) (I' := I) (J' := J) (S' := S) am_e269 rfl rfl rfl rfl ?_
          have hf7 := h.1
          replace h := h.2
          refine w_la (k := 128) (n := 2807) (jn := (((nI 7) * p2) + (p1 / (nI 64))).toNatClampNeg) am_e269 rfl rfl (by decide) hf7 rfl ?_
          refine w_st (i' := 11) (ls' := [.ref 99, .int p1, .int p2]) (st' := [.int p1, .long ((J 128) ((((nI 7) * p2) + (p1 / (nI 64))).toNatClampNeg))]) (E' := E) (I' := I) (J' := J) (S' := S) am_e269 rfl rfl rfl rfl ?_
          refine w_st (i' := 12) (ls' := [.ref 99, .int p1, .int p2]) (st' := [.int (nI 64), .int p1, .long ((J 128) ((((nI 7) * p2) + (p1 / (nI 64))).toNatClampNeg))]) (E' := E) (I' := I) (J' := J) (S' := S) am_e269 rfl rfl rfl rfl ?_
          refine w_rm (by decide) am_e269 rfl ?_
          refine w_st (i' := 14) (ls' := [.ref 99, .int p1, .int p2]) (st' := [.long (((J 128) ((((nI 7) * p2) + (p1 / (nI 64))).toNatClampNeg)) >>> ((p1 - p1 / (nI 64) * (nI 64)).toInt64 &&& 63))]) (E' := E) (I' := I) (J' := J) (S' := S) am_e269 rfl rfl rfl rfl ?_
          refine w_st (i' := 15) (ls' := [.ref 99, .int p1, .int p2]) (st' := [.long (lN 1), .long (((J 128) ((((nI 7) * p2) + (p1 / (nI 64))).toNatClampNeg)) >>> ((p1 - p1 / (nI 64) * (nI 64)).toInt64 &&& 63))]) (E' := E) (I' := I) (J' := J) (S' := S) am_e269 rfl rfl rfl rfl ?_
          refine w_st (i' := 16) (ls' := [.ref 99, .int p1, .int p2]) (st' := [.long ((((J 128) ((((nI 7) * p2) + (p1 / (nI 64))).toNatClampNeg)) >>> ((p1 - p1 / (nI 64) * (nI 64)).toInt64 &&& 63)) &&& (lN 1))]) (E' := E) (I' := I) (J' := J) (S' := S) am_e269 rfl rfl rfl rfl ?_
          refine w_st (i' := 17) (ls' := [.ref 99, .int p1, .int p2]) (st' := [.long (lN 1), .long ((((J 128) ((((nI 7) * p2) + (p1 / (nI 64))).toNatClampNeg)) >>> ((p1 - p1 / (nI 64) * (nI 64)).toInt64 &&& 63)) &&& (lN 1))]) (E' := E) (I' := I) (J' := J) (S' := S) am_e269 rfl rfl rfl rfl ?_
          refine w_st (i' := 18) (ls' := [.ref 99, .int p1, .int p2]) (st' := [.int (lg_cmp ((((J 128) ((((nI 7) * p2) + (p1 / (nI 64))).toNatClampNeg)) >>> ((p1 - p1 / (nI 64) * (nI 64)).toInt64 &&& 63)) &&& (lN 1)) (lN 1))]) (E' := E) (I' := I) (J' := J) (S' := S) am_e269 rfl rfl rfl rfl ?_
          refine w_if1 am_e269 rfl rfl (fun c => ?_) (fun c => ?_)
          · replace h := h.2 (of_decide_eq_true c)
            refine w_st (i' := 22) (ls' := [.ref 99, .int p1, .int p2]) (st' := [.int (nI 0)]) (E' := E) (I' := I) (J' := J) (S' := S) am_e269 rfl rfl rfl rfl ?_
            refine w_end (E' := E) (I' := I) (J' := J) (S' := S) am_e269 rfl rfl rfl (q_mkI ?_)
            show am_ww 268 52 [.ref 99, .int p1, .int p2, .int w5] [.int (nI 0)] E I J S _
            refine w_st (i' := 53) (ls' := [.ref 99, .int p1, .int p2, .int w5]) (st' := []) (E' := E) (I' := I) (J' := J) (S' := S) am_e268 rfl rfl rfl rfl ?_
            refine w_st (i' := 54) (ls' := [.ref 99, .int p1, .int p2, .int w5]) (st' := [.int (nI 1)]) (E' := E) (I' := I) (J' := J) (S' := S) am_e268 rfl rfl rfl rfl ?_
            refine w_st (i' := 56) (ls' := [.ref 99, .int p1, .int p2, .int w5]) (st' := [.int (nI 1)]) (E' := E) (I' := I) (J' := J) (S' := S) am_e268 rfl rfl rfl rfl ?_
            exact w_end am_e268 rfl rfl rfl h
          · replace h := h.1 (Decidable.not_not.mp (of_decide_eq_false c))
            refine w_st (i' := 20) (ls' := [.ref 99, .int p1, .int p2]) (st' := [.int (nI 1)]) (E' := E) (I' := I) (J' := J) (S' := S) am_e269 rfl rfl rfl rfl ?_
            refine w_st (i' := 22) (ls' := [.ref 99, .int p1, .int p2]) (st' := [.int (nI 1)]) (E' := E) (I' := I) (J' := J) (S' := S) am_e269 rfl rfl rfl rfl ?_
            refine w_end (E' := E) (I' := I) (J' := J) (S' := S) am_e269 rfl rfl rfl (q_mkI ?_)
            show am_ww 268 52 [.ref 99, .int p1, .int p2, .int w5] [.int (nI 1)] E I J S _
            refine w_st (i' := 55) (ls' := [.ref 99, .int p1, .int p2, .int w5]) (st' := []) (E' := E) (I' := I) (J' := J) (S' := S) am_e268 rfl rfl rfl rfl ?_
            refine w_st (i' := 56) (ls' := [.ref 99, .int p1, .int p2, .int w5]) (st' := [.int (nI 0)]) (E' := E) (I' := I) (J' := J) (S' := S) am_e268 rfl rfl rfl rfl ?_
            exact w_end am_e268 rfl rfl rfl h
-- 267 putAhead
theorem g267_0 {p1 : Int32} {p2 : Int32} {E : am_Ev} {I : Nat → Nat → Int32} {J : Nat → Nat → Int64} {S : Nat → Nat → Option Nat} {Q : am_Qt}  (h : am_ww 267 2 [.ref 99, .int p1, .int p2, .int (nI 0)] [] E I J S Q) : am_ww 267 0 [.ref 99, .int p1, .int p2, am_U] [] E I J S Q := by
  refine w_st (i' := 1) (ls' := [.ref 99, .int p1, .int p2, am_U]) (st' := [.int (nI 0)]) (E' := E) (I' := I) (J' := J) (S' := S) am_e267 rfl rfl rfl rfl ?_
  refine w_st (i' := 2) (ls' := [.ref 99, .int p1, .int p2, .int (nI 0)]) (st' := []) (E' := E) (I' := I) (J' := J) (S' := S) am_e267 rfl rfl rfl rfl ?_
  exact h
theorem g267_2 {x1 : Int32} {x2 : Int32} {x3 : Int32} {E : am_Ev} {I : Nat → Nat → Int32} {J : Nat → Nat → Int64} {S : Nat → Nat → Option Nat} {Q : am_Qt}  (h : ((nI 7) ≤ x3 → (vp_in (((nI 7) * x2) + (x1 / (nI 64))) 2807 ∧ (Q (.inl none) E I (u_J J 128 (vp_updL (J 128) ((((nI 7) * x2) + (x1 / (nI 64))).toNatClampNeg) (((J 128) ((((nI 7) * x2) + (x1 / (nI 64))).toNatClampNeg)) ||| ((lN 1) <<< ((x1 - x1 / (nI 64) * (nI 64)).toInt64 &&& 63))))) S))) ∧ (¬ (nI 7) ≤ x3 → (vp_in (((nI 7) * x2) + x3) 2807 ∧ (vp_in (((nI 7) * x1) + x3) 2807 ∧ (am_ww 267 2 [.ref 99, .int x1, .int x2, .int (x3 + nI 1)] [] E I (u_J J 128 (vp_updL (J 128) ((((nI 7) * x2) + x3).toNatClampNeg) (((J 128) ((((nI 7) * x2) + x3).toNatClampNeg)) ||| ((J 128) ((((nI 7) * x1) + x3).toNatClampNeg))))) S Q))))) : am_ww 267 2 [.ref 99, .int x1, .int x2, .int x3] [] E I J S Q := by
  refine w_st (i' := 3) (ls' := [.ref 99, .int x1, .int x2, .int x3]) (st' := [.int x3]) (E' := E) (I' := I) (J' := J) (S' := S) am_e267 rfl rfl rfl rfl ?_
  refine w_st (i' := 4) (ls' := [.ref 99, .int x1, .int x2, .int x3]) (st' := [.int (nI 7), .int x3]) (E' := E) (I' := I) (J' := J) (S' := S) am_e267 rfl rfl rfl rfl ?_
  refine w_if2 am_e267 rfl rfl (fun c => ?_) (fun c => ?_)
  · replace h := h.1 (of_decide_eq_true c)
    refine w_st (i' := 27) (ls' := [.ref 99, .int x1, .int x2, .int x3]) (st' := [.ref 99]) (E' := E) (I' := I) (J' := J) (S' := S) am_e267 rfl rfl rfl rfl ?_
    refine w_st (i' := 28) (ls' := [.ref 99, .int x1, .int x2, .int x3]) (st' := [.ref 128]) (E' := E) (I' := I) (J' := J) (S' := S) am_e267 rfl rfl rfl rfl ?_
    refine w_st (i' := 29) (ls' := [.ref 99, .int x1, .int x2, .int x3]) (st' := [.int (nI 7), .ref 128]) (E' := E) (I' := I) (J' := J) (S' := S) am_e267 rfl rfl rfl rfl ?_
    refine w_st (i' := 30) (ls' := [.ref 99, .int x1, .int x2, .int x3]) (st' := [.int x2, .int (nI 7), .ref 128]) (E' := E) (I' := I) (J' := J) (S' := S) am_e267 rfl rfl rfl rfl ?_
    refine w_st (i' := 31) (ls' := [.ref 99, .int x1, .int x2, .int x3]) (st' := [.int ((nI 7) * x2), .ref 128]) (E' := E) (I' := I) (J' := J) (S' := S) am_e267 rfl rfl rfl rfl ?_
    refine w_st (i' := 32) (ls' := [.ref 99, .int x1, .int x2, .int x3]) (st' := [.int x1, .int ((nI 7) * x2), .ref 128]) (E' := E) (I' := I) (J' := J) (S' := S) am_e267 rfl rfl rfl rfl ?_
    refine w_st (i' := 33) (ls' := [.ref 99, .int x1, .int x2, .int x3]) (st' := [.int (nI 64), .int x1, .int ((nI 7) * x2), .ref 128]) (E' := E) (I' := I) (J' := J) (S' := S) am_e267 rfl rfl rfl rfl ?_
    refine w_dv (by decide) am_e267 rfl ?_
    refine w_st (i' := 35) (ls' := [.ref 99, .int x1, .int x2, .int x3]) (st' := [.int (((nI 7) * x2) + (x1 / (nI 64))), .ref 128]) (E' := E) (I' := I) (J' := J) (S' := S) am_e267 rfl rfl rfl rfl ?_
    refine w_st (i' := 36) (ls' := [.ref 99, .int x1, .int x2, .int x3]) (st' := [.int (((nI 7) * x2) + (x1 / (nI 64))), .ref 128, .int (((nI 7) * x2) + (x1 / (nI 64))), .ref 128]) (E' := E) (I' := I) (J' := J) (S' := S) am_e267 rfl rfl rfl rfl ?_
    have hf1 := h.1
    replace h := h.2
    refine w_la (k := 128) (n := 2807) (jn := (((nI 7) * x2) + (x1 / (nI 64))).toNatClampNeg) am_e267 rfl rfl (by decide) hf1 rfl ?_
    refine w_st (i' := 38) (ls' := [.ref 99, .int x1, .int x2, .int x3]) (st' := [.long (lN 1), .long ((J 128) ((((nI 7) * x2) + (x1 / (nI 64))).toNatClampNeg)), .int (((nI 7) * x2) + (x1 / (nI 64))), .ref 128]) (E' := E) (I' := I) (J' := J) (S' := S) am_e267 rfl rfl rfl rfl ?_
    refine w_st (i' := 39) (ls' := [.ref 99, .int x1, .int x2, .int x3]) (st' := [.int x1, .long (lN 1), .long ((J 128) ((((nI 7) * x2) + (x1 / (nI 64))).toNatClampNeg)), .int (((nI 7) * x2) + (x1 / (nI 64))), .ref 128]) (E' := E) (I' := I) (J' := J) (S' := S) am_e267 rfl rfl rfl rfl ?_
    refine w_st (i' := 40) (ls' := [.ref 99, .int x1, .int x2, .int x3]) (st' := [.int (nI 64), .int x1, .long (lN 1), .long ((J 128) ((((nI 7) * x2) + (x1 / (nI 64))).toNatClampNeg)), .int (((nI 7) * x2) + (x1 / (nI 64))), .ref 128]) (E' := E) (I' := I) (J' := J) (S' := S) am_e267 rfl rfl rfl rfl ?_
    refine w_rm (by decide) am_e267 rfl ?_
    refine w_st (i' := 42) (ls' := [.ref 99, .int x1, .int x2, .int x3]) (st' := [.long ((lN 1) <<< ((x1 - x1 / (nI 64) * (nI 64)).toInt64 &&& 63)), .long ((J 128) ((((nI 7) * x2) + (x1 / (nI 64))).toNatClampNeg)), .int (((nI 7) * x2) + (x1 / (nI 64))), .ref 128]) (E' := E) (I' := I) (J' := J) (S' := S) am_e267 rfl rfl rfl rfl ?_
    refine w_st (i' := 43) (ls' := [.ref 99, .int x1, .int x2, .int x3]) (st' := [.long (((J 128) ((((nI 7) * x2) + (x1 / (nI 64))).toNatClampNeg)) ||| ((lN 1) <<< ((x1 - x1 / (nI 64) * (nI 64)).toInt64 &&& 63))), .int (((nI 7) * x2) + (x1 / (nI 64))), .ref 128]) (E' := E) (I' := I) (J' := J) (S' := S) am_e267 rfl rfl rfl rfl ?_
    refine w_ls (k := 128) (n := 2807) (jn := (((nI 7) * x2) + (x1 / (nI 64))).toNatClampNeg) am_e267 rfl rfl (by decide) hf1 rfl ?_
    show am_ww 267 44 [.ref 99, .int x1, .int x2, .int x3] [] E I (u_J J 128 (vp_updL (J 128) ((((nI 7) * x2) + (x1 / (nI 64))).toNatClampNeg) (((J 128) ((((nI 7) * x2) + (x1 / (nI 64))).toNatClampNeg)) ||| ((lN 1) <<< ((x1 - x1 / (nI 64) * (nI 64)).toInt64 &&& 63))))) S _
    exact w_end am_e267 rfl rfl rfl h
  · replace h := h.2 (of_decide_eq_false c)
    refine w_st (i' := 6) (ls' := [.ref 99, .int x1, .int x2, .int x3]) (st' := [.ref 99]) (E' := E) (I' := I) (J' := J) (S' := S) am_e267 rfl rfl rfl rfl ?_
    refine w_st (i' := 7) (ls' := [.ref 99, .int x1, .int x2, .int x3]) (st' := [.ref 128]) (E' := E) (I' := I) (J' := J) (S' := S) am_e267 rfl rfl rfl rfl ?_
    refine w_st (i' := 8) (ls' := [.ref 99, .int x1, .int x2, .int x3]) (st' := [.int (nI 7), .ref 128]) (E' := E) (I' := I) (J' := J) (S' := S) am_e267 rfl rfl rfl rfl ?_
    refine w_st (i' := 9) (ls' := [.ref 99, .int x1, .int x2, .int x3]) (st' := [.int x2, .int (nI 7), .ref 128]) (E' := E) (I' := I) (J' := J) (S' := S) am_e267 rfl rfl rfl rfl ?_
    refine w_st (i' := 10) (ls' := [.ref 99, .int x1, .int x2, .int x3]) (st' := [.int ((nI 7) * x2), .ref 128]) (E' := E) (I' := I) (J' := J) (S' := S) am_e267 rfl rfl rfl rfl ?_
    refine w_st (i' := 11) (ls' := [.ref 99, .int x1, .int x2, .int x3]) (st' := [.int x3, .int ((nI 7) * x2), .ref 128]) (E' := E) (I' := I) (J' := J) (S' := S) am_e267 rfl rfl rfl rfl ?_
    refine w_st (i' := 12) (ls' := [.ref 99, .int x1, .int x2, .int x3]) (st' := [.int (((nI 7) * x2) + x3), .ref 128]) (E' := E) (I' := I) (J' := J) (S' := S) am_e267 rfl rfl rfl rfl ?_
    refine w_st (i' := 13) (ls' := [.ref 99, .int x1, .int x2, .int x3]) (st' := [.int (((nI 7) * x2) + x3), .ref 128, .int (((nI 7) * x2) + x3), .ref 128]) (E' := E) (I' := I) (J' := J) (S' := S) am_e267 rfl rfl rfl rfl ?_
    have hf2 := h.1
    replace h := h.2
    refine w_la (k := 128) (n := 2807) (jn := (((nI 7) * x2) + x3).toNatClampNeg) am_e267 rfl rfl (by decide) hf2 rfl ?_
    refine w_st (i' := 15) (ls' := [.ref 99, .int x1, .int x2, .int x3]) (st' := [.ref 99, .long ((J 128) ((((nI 7) * x2) + x3).toNatClampNeg)), .int (((nI 7) * x2) + x3), .ref 128]) (E' := E) (I' := I) (J' := J) (S' := S) am_e267 rfl rfl rfl rfl ?_
    refine w_st (i' := 16) (ls' := [.ref 99, .int x1, .int x2, .int x3]) (st' := [.ref 128, .long ((J 128) ((((nI 7) * x2) + x3).toNatClampNeg)), .int (((nI 7) * x2) + x3), .ref 128]) (E' := E) (I' := I) (J' := J) (S' := S) am_e267 rfl rfl rfl rfl ?_
    refine w_st (i' := 17) (ls' := [.ref 99, .int x1, .int x2, .int x3]) (st' := [.int (nI 7), .ref 128, .long ((J 128) ((((nI 7) * x2) + x3).toNatClampNeg)), .int (((nI 7) * x2) + x3), .ref 128]) (E' := E) (I' := I) (J' := J) (S' := S) am_e267 rfl rfl rfl rfl ?_
    refine w_st (i' := 18) (ls' := [.ref 99, .int x1, .int x2, .int x3]) (st' := [.int x1, .int (nI 7), .ref 128, .long ((J 128) ((((nI 7) * x2) + x3).toNatClampNeg)), .int (((nI 7) * x2) + x3), .ref 128]) (E' := E) (I' := I) (J' := J) (S' := S) am_e267 rfl rfl rfl rfl ?_
    refine w_st (i' := 19) (ls' := [.ref 99, .int x1, .int x2, .int x3]) (st' := [.int ((nI 7) * x1), .ref 128, .long ((J 128) ((((nI 7) * x2) + x3).toNatClampNeg)), .int (((nI 7) * x2) + x3), .ref 128]) (E' := E) (I' := I) (J' := J) (S' := S) am_e267 rfl rfl rfl rfl ?_
    refine w_st (i' := 20) (ls' := [.ref 99, .int x1, .int x2, .int x3]) (st' := [.int x3, .int ((nI 7) * x1), .ref 128, .long ((J 128) ((((nI 7) * x2) + x3).toNatClampNeg)), .int (((nI 7) * x2) + x3), .ref 128]) (E' := E) (I' := I) (J' := J) (S' := S) am_e267 rfl rfl rfl rfl ?_
    refine w_st (i' := 21) (ls' := [.ref 99, .int x1, .int x2, .int x3]) (st' := [.int (((nI 7) * x1) + x3), .ref 128, .long ((J 128) ((((nI 7) * x2) + x3).toNatClampNeg)), .int (((nI 7) * x2) + x3), .ref 128]) (E' := E) (I' := I) (J' := J) (S' := S) am_e267 rfl rfl rfl rfl ?_
    have hf3 := h.1
    replace h := h.2
    refine w_la (k := 128) (n := 2807) (jn := (((nI 7) * x1) + x3).toNatClampNeg) am_e267 rfl rfl (by decide) hf3 rfl ?_
    refine w_st (i' := 23) (ls' := [.ref 99, .int x1, .int x2, .int x3]) (st' := [.long (((J 128) ((((nI 7) * x2) + x3).toNatClampNeg)) ||| ((J 128) ((((nI 7) * x1) + x3).toNatClampNeg))), .int (((nI 7) * x2) + x3), .ref 128]) (E' := E) (I' := I) (J' := J) (S' := S) am_e267 rfl rfl rfl rfl ?_
    refine w_ls (k := 128) (n := 2807) (jn := (((nI 7) * x2) + x3).toNatClampNeg) am_e267 rfl rfl (by decide) hf2 rfl ?_
    show am_ww 267 24 [.ref 99, .int x1, .int x2, .int x3] [] E I (u_J J 128 (vp_updL (J 128) ((((nI 7) * x2) + x3).toNatClampNeg) (((J 128) ((((nI 7) * x2) + x3).toNatClampNeg)) ||| ((J 128) ((((nI 7) * x1) + x3).toNatClampNeg))))) S _
    refine w_st (i' := 25) (ls' := [.ref 99, .int x1, .int x2, .int (x3 + nI 1)]) (st' := []) (E' := E) (I' := I) (J' := (u_J J 128 (vp_updL (J 128) ((((nI 7) * x2) + x3).toNatClampNeg) (((J 128) ((((nI 7) * x2) + x3).toNatClampNeg)) ||| ((J 128) ((((nI 7) * x1) + x3).toNatClampNeg)))))) (S' := S) am_e267 rfl rfl rfl rfl ?_
    refine w_st (i' := 2) (ls' := [.ref 99, .int x1, .int x2, .int (x3 + nI 1)]) (st' := []) (E' := E) (I' := I) (J' := (u_J J 128 (vp_updL (J 128) ((((nI 7) * x2) + x3).toNatClampNeg) (((J 128) ((((nI 7) * x2) + x3).toNatClampNeg)) ||| ((J 128) ((((nI 7) * x1) + x3).toNatClampNeg)))))) (S' := S) am_e267 rfl rfl rfl rfl ?_
    exact h
-- 265 tellAhead
theorem g265_0  {E : am_Ev} {I : Nat → Nat → Int32} {J : Nat → Nat → Int64} {S : Nat → Nat → Option Nat} {Q : am_Qt}  (h : am_ww 265 2 [.ref 99, .int (nI 1), am_U, am_U, am_U] [] E I J S Q) : am_ww 265 0 [.ref 99, am_U, am_U, am_U, am_U] [] E I J S Q := by
  refine w_st (i' := 1) (ls' := [.ref 99, am_U, am_U, am_U, am_U]) (st' := [.int (nI 1)]) (E' := E) (I' := I) (J' := J) (S' := S) am_e265 rfl rfl rfl rfl ?_
  refine w_st (i' := 2) (ls' := [.ref 99, .int (nI 1), am_U, am_U, am_U]) (st' := []) (E' := E) (I' := I) (J' := J) (S' := S) am_e265 rfl rfl rfl rfl ?_
  exact h
theorem g265_2 {x1 : Int32} {d2 : Value} {d3 : Value} {d4 : Value} {E : am_Ev} {I : Nat → Nat → Int32} {J : Nat → Nat → Int64} {S : Nat → Nat → Option Nat} {Q : am_Qt} (hd2 : am_isL d2 = false) (hd3 : am_isL d3 = false) (hd4 : am_isL d4 = false) (h : (((I 99) 12) < x1 → (Q (.inl none) E I J S)) ∧ (¬ ((I 99) 12) < x1 → (am_ww 265 8 [.ref 99, .int x1, .int (nI 0), d3, d4] [] E I J S Q))) : am_ww 265 2 [.ref 99, .int x1, d2, d3, d4] [] E I J S Q := by
  refine w_st (i' := 3) (ls' := [.ref 99, .int x1, d2, d3, d4]) (st' := [.int x1]) (E' := E) (I' := I) (J' := J) (S' := S) am_e265 rfl rfl rfl rfl ?_
  refine w_st (i' := 4) (ls' := [.ref 99, .int x1, d2, d3, d4]) (st' := [.ref 99, .int x1]) (E' := E) (I' := I) (J' := J) (S' := S) am_e265 rfl rfl rfl rfl ?_
  refine w_st (i' := 5) (ls' := [.ref 99, .int x1, d2, d3, d4]) (st' := [.int ((I 99) 12), .int x1]) (E' := E) (I' := I) (J' := J) (S' := S) am_e265 rfl rfl rfl rfl ?_
  refine w_if2 am_e265 rfl rfl (fun c => ?_) (fun c => ?_)
  · replace h := h.1 (of_decide_eq_true c)
    exact w_end am_e265 rfl rfl rfl h
  · replace h := h.2 (of_decide_eq_false c)
    refine w_st (i' := 7) (ls' := [.ref 99, .int x1, d2, d3, d4]) (st' := [.int (nI 0)]) (E' := E) (I' := I) (J' := J) (S' := S) am_e265 rfl rfl rfl rfl ?_
    refine w_st (i' := 8) (ls' := [.ref 99, .int x1, .int (nI 0), d3, d4]) (st' := []) (E' := E) (I' := I) (J' := J) (S' := S) am_e265 rfl rfl rfl rfl ?_
    exact h
theorem g265_8 {x1 : Int32} {x2 : Int32} {d3 : Value} {d4 : Value} {E : am_Ev} {I : Nat → Nat → Int32} {J : Nat → Nat → Int64} {S : Nat → Nat → Option Nat} {Q : am_Qt} (hd3 : am_isL d3 = false) (hd4 : am_isL d4 = false) (h : ((nI 7) ≤ x2 → (vp_in x1 401 ∧ (vp_in ((I 119) x1.toNatClampNeg) 128 ∧ (∀ w5 : Int32, w5 = (if ((I 106) (((I 119) x1.toNatClampNeg).toNatClampNeg)) = (nI 1) then ((I 108) (((I 119) x1.toNatClampNeg).toNatClampNeg)) else (if ((I 106) (((I 119) x1.toNatClampNeg).toNatClampNeg)) = (nI 2) then ((I 107) (((I 119) x1.toNatClampNeg).toNatClampNeg)) else (-1))) → (am_ww 265 56 [.ref 99, .int x1, .int ((I 119) x1.toNatClampNeg), .int (nI 1), d4] [] E (u_I I 129 (upd (I 129) x1.toNatClampNeg w5)) J S Q))))) ∧ (¬ (nI 7) ≤ x2 → (vp_in (((nI 7) * x1) + x2) 2807 ∧ (am_ww 265 8 [.ref 99, .int x1, .int (x2 + nI 1), d3, d4] [] E I (u_J J 128 (vp_updL (J 128) ((((nI 7) * x1) + x2).toNatClampNeg) (lN 0))) S Q)))) : am_ww 265 8 [.ref 99, .int x1, .int x2, d3, d4] [] E I J S Q := by
  refine w_st (i' := 9) (ls' := [.ref 99, .int x1, .int x2, d3, d4]) (st' := [.int x2]) (E' := E) (I' := I) (J' := J) (S' := S) am_e265 rfl rfl rfl rfl ?_
  refine w_st (i' := 10) (ls' := [.ref 99, .int x1, .int x2, d3, d4]) (st' := [.int (nI 7), .int x2]) (E' := E) (I' := I) (J' := J) (S' := S) am_e265 rfl rfl rfl rfl ?_
  refine w_if2 am_e265 rfl rfl (fun c => ?_) (fun c => ?_)
  · replace h := h.1 (of_decide_eq_true c)
    refine w_st (i' := 23) (ls' := [.ref 99, .int x1, .int x2, d3, d4]) (st' := [.ref 99]) (E' := E) (I' := I) (J' := J) (S' := S) am_e265 rfl rfl rfl rfl ?_
    refine w_st (i' := 24) (ls' := [.ref 99, .int x1, .int x2, d3, d4]) (st' := [.ref 119]) (E' := E) (I' := I) (J' := J) (S' := S) am_e265 rfl rfl rfl rfl ?_
    refine w_st (i' := 25) (ls' := [.ref 99, .int x1, .int x2, d3, d4]) (st' := [.int x1, .ref 119]) (E' := E) (I' := I) (J' := J) (S' := S) am_e265 rfl rfl rfl rfl ?_
    have hf1 := h.1
    replace h := h.2
    refine w_ia (k := 119) (n := 401) (jn := x1.toNatClampNeg) am_e265 rfl rfl (by decide) hf1 rfl ?_
    refine w_st (i' := 27) (ls' := [.ref 99, .int x1, .int ((I 119) x1.toNatClampNeg), d3, d4]) (st' := []) (E' := E) (I' := I) (J' := J) (S' := S) am_e265 rfl rfl rfl rfl ?_
    refine w_st (i' := 28) (ls' := [.ref 99, .int x1, .int ((I 119) x1.toNatClampNeg), d3, d4]) (st' := [.ref 99]) (E' := E) (I' := I) (J' := J) (S' := S) am_e265 rfl rfl rfl rfl ?_
    refine w_st (i' := 29) (ls' := [.ref 99, .int x1, .int ((I 119) x1.toNatClampNeg), d3, d4]) (st' := [.ref 129]) (E' := E) (I' := I) (J' := J) (S' := S) am_e265 rfl rfl rfl rfl ?_
    refine w_st (i' := 30) (ls' := [.ref 99, .int x1, .int ((I 119) x1.toNatClampNeg), d3, d4]) (st' := [.int x1, .ref 129]) (E' := E) (I' := I) (J' := J) (S' := S) am_e265 rfl rfl rfl rfl ?_
    refine w_st (i' := 31) (ls' := [.ref 99, .int x1, .int ((I 119) x1.toNatClampNeg), d3, d4]) (st' := [.ref 99, .int x1, .ref 129]) (E' := E) (I' := I) (J' := J) (S' := S) am_e265 rfl rfl rfl rfl ?_
    refine w_st (i' := 32) (ls' := [.ref 99, .int x1, .int ((I 119) x1.toNatClampNeg), d3, d4]) (st' := [.ref 106, .int x1, .ref 129]) (E' := E) (I' := I) (J' := J) (S' := S) am_e265 rfl rfl rfl rfl ?_
    refine w_st (i' := 33) (ls' := [.ref 99, .int x1, .int ((I 119) x1.toNatClampNeg), d3, d4]) (st' := [.int ((I 119) x1.toNatClampNeg), .ref 106, .int x1, .ref 129]) (E' := E) (I' := I) (J' := J) (S' := S) am_e265 rfl rfl rfl rfl ?_
    have hf2 := h.1
    replace h := h.2
    refine w_ia (k := 106) (n := 128) (jn := ((I 119) x1.toNatClampNeg).toNatClampNeg) am_e265 rfl rfl (by decide) hf2 rfl ?_
    refine w_st (i' := 35) (ls' := [.ref 99, .int x1, .int ((I 119) x1.toNatClampNeg), d3, d4]) (st' := [.int (nI 1), .int ((I 106) (((I 119) x1.toNatClampNeg).toNatClampNeg)), .int x1, .ref 129]) (E' := E) (I' := I) (J' := J) (S' := S) am_e265 rfl rfl rfl rfl ?_
    refine w_mg (i := 53) (ls' := [.ref 99, .int x1, .int ((I 119) x1.toNatClampNeg), d3, d4]) (st' := [.int (if ((I 106) (((I 119) x1.toNatClampNeg).toNatClampNeg)) = (nI 1) then ((I 108) (((I 119) x1.toNatClampNeg).toNatClampNeg)) else (if ((I 106) (((I 119) x1.toNatClampNeg).toNatClampNeg)) = (nI 2) then ((I 107) (((I 119) x1.toNatClampNeg).toNatClampNeg)) else (-1))), .int x1, .ref 129]) (fun hm => ?_) ?_
    · clear h
      refine w_if2 am_e265 rfl rfl (fun c => ?_) (fun c => ?_)
      · have m3 : ¬ (((I 106) (((I 119) x1.toNatClampNeg).toNatClampNeg)) = (nI 1)) := (of_decide_eq_true c)
        refine w_st (i' := 42) (ls' := [.ref 99, .int x1, .int ((I 119) x1.toNatClampNeg), d3, d4]) (st' := [.ref 99, .int x1, .ref 129]) (E' := E) (I' := I) (J' := J) (S' := S) am_e265 rfl rfl rfl rfl ?_
        refine w_st (i' := 43) (ls' := [.ref 99, .int x1, .int ((I 119) x1.toNatClampNeg), d3, d4]) (st' := [.ref 106, .int x1, .ref 129]) (E' := E) (I' := I) (J' := J) (S' := S) am_e265 rfl rfl rfl rfl ?_
        refine w_st (i' := 44) (ls' := [.ref 99, .int x1, .int ((I 119) x1.toNatClampNeg), d3, d4]) (st' := [.int ((I 119) x1.toNatClampNeg), .ref 106, .int x1, .ref 129]) (E' := E) (I' := I) (J' := J) (S' := S) am_e265 rfl rfl rfl rfl ?_
        refine w_ia (k := 106) (n := 128) (jn := ((I 119) x1.toNatClampNeg).toNatClampNeg) am_e265 rfl rfl (by decide) hf2 rfl ?_
        show am_ww 265 45 [.ref 99, .int x1, .int ((I 119) x1.toNatClampNeg), d3, d4] [.int ((I 106) (((I 119) x1.toNatClampNeg).toNatClampNeg)), .int x1, .ref 129] E I J S _
        refine w_st (i' := 46) (ls' := [.ref 99, .int x1, .int ((I 119) x1.toNatClampNeg), d3, d4]) (st' := [.int (nI 2), .int ((I 106) (((I 119) x1.toNatClampNeg).toNatClampNeg)), .int x1, .ref 129]) (E' := E) (I' := I) (J' := J) (S' := S) am_e265 rfl rfl rfl rfl ?_
        refine w_if2 am_e265 rfl rfl (fun c => ?_) (fun c => ?_)
        · have m4 : ¬ (((I 106) (((I 119) x1.toNatClampNeg).toNatClampNeg)) = (nI 2)) := (of_decide_eq_true c)
          refine w_st (i' := 53) (ls' := [.ref 99, .int x1, .int ((I 119) x1.toNatClampNeg), d3, d4]) (st' := [.int (-1), .int x1, .ref 129]) (E' := E) (I' := I) (J' := J) (S' := S) am_e265 rfl rfl rfl rfl ?_
          first | exact hm | (simp only [if_neg m3, if_neg m4] at hm; exact hm)
        · have m4 : ((I 106) (((I 119) x1.toNatClampNeg).toNatClampNeg)) = (nI 2) := (Decidable.not_not.mp (of_decide_eq_false c))
          refine w_st (i' := 48) (ls' := [.ref 99, .int x1, .int ((I 119) x1.toNatClampNeg), d3, d4]) (st' := [.ref 99, .int x1, .ref 129]) (E' := E) (I' := I) (J' := J) (S' := S) am_e265 rfl rfl rfl rfl ?_
          refine w_st (i' := 49) (ls' := [.ref 99, .int x1, .int ((I 119) x1.toNatClampNeg), d3, d4]) (st' := [.ref 107, .int x1, .ref 129]) (E' := E) (I' := I) (J' := J) (S' := S) am_e265 rfl rfl rfl rfl ?_
          refine w_st (i' := 50) (ls' := [.ref 99, .int x1, .int ((I 119) x1.toNatClampNeg), d3, d4]) (st' := [.int ((I 119) x1.toNatClampNeg), .ref 107, .int x1, .ref 129]) (E' := E) (I' := I) (J' := J) (S' := S) am_e265 rfl rfl rfl rfl ?_
          refine w_ia (k := 107) (n := 128) (jn := ((I 119) x1.toNatClampNeg).toNatClampNeg) am_e265 rfl rfl (by decide) hf2 rfl ?_
          show am_ww 265 51 [.ref 99, .int x1, .int ((I 119) x1.toNatClampNeg), d3, d4] [.int ((I 107) (((I 119) x1.toNatClampNeg).toNatClampNeg)), .int x1, .ref 129] E I J S _
          refine w_st (i' := 53) (ls' := [.ref 99, .int x1, .int ((I 119) x1.toNatClampNeg), d3, d4]) (st' := [.int ((I 107) (((I 119) x1.toNatClampNeg).toNatClampNeg)), .int x1, .ref 129]) (E' := E) (I' := I) (J' := J) (S' := S) am_e265 rfl rfl rfl rfl ?_
          first | exact hm | (simp only [if_neg m3, if_pos m4] at hm; exact hm)
      · have m3 : ((I 106) (((I 119) x1.toNatClampNeg).toNatClampNeg)) = (nI 1) := (Decidable.not_not.mp (of_decide_eq_false c))
        refine w_st (i' := 37) (ls' := [.ref 99, .int x1, .int ((I 119) x1.toNatClampNeg), d3, d4]) (st' := [.ref 99, .int x1, .ref 129]) (E' := E) (I' := I) (J' := J) (S' := S) am_e265 rfl rfl rfl rfl ?_
        refine w_st (i' := 38) (ls' := [.ref 99, .int x1, .int ((I 119) x1.toNatClampNeg), d3, d4]) (st' := [.ref 108, .int x1, .ref 129]) (E' := E) (I' := I) (J' := J) (S' := S) am_e265 rfl rfl rfl rfl ?_
        refine w_st (i' := 39) (ls' := [.ref 99, .int x1, .int ((I 119) x1.toNatClampNeg), d3, d4]) (st' := [.int ((I 119) x1.toNatClampNeg), .ref 108, .int x1, .ref 129]) (E' := E) (I' := I) (J' := J) (S' := S) am_e265 rfl rfl rfl rfl ?_
        refine w_ia (k := 108) (n := 128) (jn := ((I 119) x1.toNatClampNeg).toNatClampNeg) am_e265 rfl rfl (by decide) hf2 rfl ?_
        show am_ww 265 40 [.ref 99, .int x1, .int ((I 119) x1.toNatClampNeg), d3, d4] [.int ((I 108) (((I 119) x1.toNatClampNeg).toNatClampNeg)), .int x1, .ref 129] E I J S _
        refine w_st (i' := 53) (ls' := [.ref 99, .int x1, .int ((I 119) x1.toNatClampNeg), d3, d4]) (st' := [.int ((I 108) (((I 119) x1.toNatClampNeg).toNatClampNeg)), .int x1, .ref 129]) (E' := E) (I' := I) (J' := J) (S' := S) am_e265 rfl rfl rfl rfl ?_
        first | exact hm | (simp only [if_pos m3] at hm; exact hm)
    refine w_var (fun w5 => am_ww 265 53 [.ref 99, .int x1, .int ((I 119) x1.toNatClampNeg), d3, d4] [.int w5, .int x1, .ref 129] E I J S _) (if ((I 106) (((I 119) x1.toNatClampNeg).toNatClampNeg)) = (nI 1) then ((I 108) (((I 119) x1.toNatClampNeg).toNatClampNeg)) else (if ((I 106) (((I 119) x1.toNatClampNeg).toNatClampNeg)) = (nI 2) then ((I 107) (((I 119) x1.toNatClampNeg).toNatClampNeg)) else (-1))) (fun w5 hw5 => ?_)
    replace h := h w5 hw5
    refine w_is (k := 129) (n := 401) (jn := x1.toNatClampNeg) am_e265 rfl rfl (by decide) hf1 rfl ?_
    show am_ww 265 54 [.ref 99, .int x1, .int ((I 119) x1.toNatClampNeg), d3, d4] [] E (u_I I 129 (upd (I 129) x1.toNatClampNeg w5)) J S _
    refine w_st (i' := 55) (ls' := [.ref 99, .int x1, .int ((I 119) x1.toNatClampNeg), d3, d4]) (st' := [.int (nI 1)]) (E' := E) (I' := (u_I I 129 (upd (I 129) x1.toNatClampNeg w5))) (J' := J) (S' := S) am_e265 rfl rfl rfl rfl ?_
    refine w_st (i' := 56) (ls' := [.ref 99, .int x1, .int ((I 119) x1.toNatClampNeg), .int (nI 1), d4]) (st' := []) (E' := E) (I' := (u_I I 129 (upd (I 129) x1.toNatClampNeg w5))) (J' := J) (S' := S) am_e265 rfl rfl rfl rfl ?_
    exact h
  · replace h := h.2 (of_decide_eq_false c)
    refine w_st (i' := 12) (ls' := [.ref 99, .int x1, .int x2, d3, d4]) (st' := [.ref 99]) (E' := E) (I' := I) (J' := J) (S' := S) am_e265 rfl rfl rfl rfl ?_
    refine w_st (i' := 13) (ls' := [.ref 99, .int x1, .int x2, d3, d4]) (st' := [.ref 128]) (E' := E) (I' := I) (J' := J) (S' := S) am_e265 rfl rfl rfl rfl ?_
    refine w_st (i' := 14) (ls' := [.ref 99, .int x1, .int x2, d3, d4]) (st' := [.int (nI 7), .ref 128]) (E' := E) (I' := I) (J' := J) (S' := S) am_e265 rfl rfl rfl rfl ?_
    refine w_st (i' := 15) (ls' := [.ref 99, .int x1, .int x2, d3, d4]) (st' := [.int x1, .int (nI 7), .ref 128]) (E' := E) (I' := I) (J' := J) (S' := S) am_e265 rfl rfl rfl rfl ?_
    refine w_st (i' := 16) (ls' := [.ref 99, .int x1, .int x2, d3, d4]) (st' := [.int ((nI 7) * x1), .ref 128]) (E' := E) (I' := I) (J' := J) (S' := S) am_e265 rfl rfl rfl rfl ?_
    refine w_st (i' := 17) (ls' := [.ref 99, .int x1, .int x2, d3, d4]) (st' := [.int x2, .int ((nI 7) * x1), .ref 128]) (E' := E) (I' := I) (J' := J) (S' := S) am_e265 rfl rfl rfl rfl ?_
    refine w_st (i' := 18) (ls' := [.ref 99, .int x1, .int x2, d3, d4]) (st' := [.int (((nI 7) * x1) + x2), .ref 128]) (E' := E) (I' := I) (J' := J) (S' := S) am_e265 rfl rfl rfl rfl ?_
    refine w_st (i' := 19) (ls' := [.ref 99, .int x1, .int x2, d3, d4]) (st' := [.long (lN 0), .int (((nI 7) * x1) + x2), .ref 128]) (E' := E) (I' := I) (J' := J) (S' := S) am_e265 rfl rfl rfl rfl ?_
    have hf6 := h.1
    replace h := h.2
    refine w_ls (k := 128) (n := 2807) (jn := (((nI 7) * x1) + x2).toNatClampNeg) am_e265 rfl rfl (by decide) hf6 rfl ?_
    show am_ww 265 20 [.ref 99, .int x1, .int x2, d3, d4] [] E I (u_J J 128 (vp_updL (J 128) ((((nI 7) * x1) + x2).toNatClampNeg) (lN 0))) S _
    refine w_st (i' := 21) (ls' := [.ref 99, .int x1, .int (x2 + nI 1), d3, d4]) (st' := []) (E' := E) (I' := I) (J' := (u_J J 128 (vp_updL (J 128) ((((nI 7) * x1) + x2).toNatClampNeg) (lN 0)))) (S' := S) am_e265 rfl rfl rfl rfl ?_
    refine w_st (i' := 8) (ls' := [.ref 99, .int x1, .int (x2 + nI 1), d3, d4]) (st' := []) (E' := E) (I' := I) (J' := (u_J J 128 (vp_updL (J 128) ((((nI 7) * x1) + x2).toNatClampNeg) (lN 0)))) (S' := S) am_e265 rfl rfl rfl rfl ?_
    exact h
theorem g265_56 {x1 : Int32} {x2 : Int32} {x3 : Int32} {d4 : Value} {E : am_Ev} {I : Nat → Nat → Int32} {J : Nat → Nat → Int64} {S : Nat → Nat → Option Nat} {Q : am_Qt} (hd4 : am_isL d4 = false) (h : (x1 ≤ x3 → (am_ww 265 2 [.ref 99, .int (x1 + nI 1), .int x2, .int x3, d4] [] E I J S Q)) ∧ (¬ x1 ≤ x3 → (vp_in x3 401 ∧ (vp_in x1 401 ∧ ((((I 118) x3.toNatClampNeg) = ((I 118) x1.toNatClampNeg) → (am_cl 267 [.ref 99, .int x3, .int x1] E I J S (q_V fun E3 I3 J3 S3 => am_ww 265 56 [.ref 99, .int x1, .int x2, .int (x3 + nI 1), .int (nI 1)] [] E3 I3 J3 S3 Q))) ∧ (¬ ((I 118) x3.toNatClampNeg) = ((I 118) x1.toNatClampNeg) → (vp_in x2 128 ∧ ((((I 106) x2.toNatClampNeg) = (nI 7) → (vp_in ((I 119) x3.toNatClampNeg) 128 ∧ ((((I 106) (((I 119) x3.toNatClampNeg).toNatClampNeg)) = (nI 8) → ((((I 107) (((I 119) x3.toNatClampNeg).toNatClampNeg)) = ((I 107) x2.toNatClampNeg) → (∀ w6 : Int32, w6 = ((nI 40) + ((I 107) x2.toNatClampNeg)) → (vp_in (((nI 51) * (x3 - (nI 1))) + w6) 20451 ∧ (∀ w8 : Int32, w8 = ((I 117) ((((nI 51) * (x3 - (nI 1))) + w6).toNatClampNeg)) → ((w8 = ((I 118) x3.toNatClampNeg) → (am_cl 267 [.ref 99, .int x3, .int x1] E I J S (q_V fun E9 I9 J9 S9 => am_ww 265 56 [.ref 99, .int x1, .int x2, .int (x3 + nI 1), .int (nI 1)] [] E9 I9 J9 S9 Q))) ∧ (¬ w8 = ((I 118) x3.toNatClampNeg) → (am_ww 265 56 [.ref 99, .int x1, .int x2, .int (x3 + nI 1), .int (nI 0)] [] E I J S Q))))))) ∧ (¬ ((I 107) (((I 119) x3.toNatClampNeg).toNatClampNeg)) = ((I 107) x2.toNatClampNeg) → (am_ww 265 56 [.ref 99, .int x1, .int x2, .int (x3 + nI 1), .int (nI 0)] [] E I J S Q)))) ∧ (¬ ((I 106) (((I 119) x3.toNatClampNeg).toNatClampNeg)) = (nI 8) → (am_ww 265 56 [.ref 99, .int x1, .int x2, .int (x3 + nI 1), .int (nI 0)] [] E I J S Q))))) ∧ (¬ ((I 106) x2.toNatClampNeg) = (nI 7) → (am_ww 265 56 [.ref 99, .int x1, .int x2, .int (x3 + nI 1), .int (nI 0)] [] E I J S Q)))))))))) : am_ww 265 56 [.ref 99, .int x1, .int x2, .int x3, d4] [] E I J S Q := by
  refine w_st (i' := 57) (ls' := [.ref 99, .int x1, .int x2, .int x3, d4]) (st' := [.int x3]) (E' := E) (I' := I) (J' := J) (S' := S) am_e265 rfl rfl rfl rfl ?_
  refine w_st (i' := 58) (ls' := [.ref 99, .int x1, .int x2, .int x3, d4]) (st' := [.int x1, .int x3]) (E' := E) (I' := I) (J' := J) (S' := S) am_e265 rfl rfl rfl rfl ?_
  refine w_if2 am_e265 rfl rfl (fun c => ?_) (fun c => ?_)
  · replace h := h.1 (of_decide_eq_true c)
    refine w_st (i' := 95) (ls' := [.ref 99, .int (x1 + nI 1), .int x2, .int x3, d4]) (st' := []) (E' := E) (I' := I) (J' := J) (S' := S) am_e265 rfl rfl rfl rfl ?_
    refine w_st (i' := 2) (ls' := [.ref 99, .int (x1 + nI 1), .int x2, .int x3, d4]) (st' := []) (E' := E) (I' := I) (J' := J) (S' := S) am_e265 rfl rfl rfl rfl ?_
    exact h
  · replace h := h.2 (of_decide_eq_false c)
    refine w_st (i' := 60) (ls' := [.ref 99, .int x1, .int x2, .int x3, d4]) (st' := [.ref 99]) (E' := E) (I' := I) (J' := J) (S' := S) am_e265 rfl rfl rfl rfl ?_
    refine w_st (i' := 61) (ls' := [.ref 99, .int x1, .int x2, .int x3, d4]) (st' := [.ref 118]) (E' := E) (I' := I) (J' := J) (S' := S) am_e265 rfl rfl rfl rfl ?_
    refine w_st (i' := 62) (ls' := [.ref 99, .int x1, .int x2, .int x3, d4]) (st' := [.int x3, .ref 118]) (E' := E) (I' := I) (J' := J) (S' := S) am_e265 rfl rfl rfl rfl ?_
    have hf1 := h.1
    replace h := h.2
    refine w_ia (k := 118) (n := 401) (jn := x3.toNatClampNeg) am_e265 rfl rfl (by decide) hf1 rfl ?_
    refine w_st (i' := 64) (ls' := [.ref 99, .int x1, .int x2, .int x3, d4]) (st' := [.ref 99, .int ((I 118) x3.toNatClampNeg)]) (E' := E) (I' := I) (J' := J) (S' := S) am_e265 rfl rfl rfl rfl ?_
    refine w_st (i' := 65) (ls' := [.ref 99, .int x1, .int x2, .int x3, d4]) (st' := [.ref 118, .int ((I 118) x3.toNatClampNeg)]) (E' := E) (I' := I) (J' := J) (S' := S) am_e265 rfl rfl rfl rfl ?_
    refine w_st (i' := 66) (ls' := [.ref 99, .int x1, .int x2, .int x3, d4]) (st' := [.int x1, .ref 118, .int ((I 118) x3.toNatClampNeg)]) (E' := E) (I' := I) (J' := J) (S' := S) am_e265 rfl rfl rfl rfl ?_
    have hf2 := h.1
    replace h := h.2
    refine w_ia (k := 118) (n := 401) (jn := x1.toNatClampNeg) am_e265 rfl rfl (by decide) hf2 rfl ?_
    refine w_if2 am_e265 rfl rfl (fun c => ?_) (fun c => ?_)
    · replace h := h.1 (of_decide_eq_true c)
      refine w_st (i' := 83) (ls' := [.ref 99, .int x1, .int x2, .int x3, d4]) (st' := [.int (nI 1)]) (E' := E) (I' := I) (J' := J) (S' := S) am_e265 rfl rfl rfl rfl ?_
      refine w_st (i' := 85) (ls' := [.ref 99, .int x1, .int x2, .int x3, d4]) (st' := [.int (nI 1)]) (E' := E) (I' := I) (J' := J) (S' := S) am_e265 rfl rfl rfl rfl ?_
      refine w_st (i' := 86) (ls' := [.ref 99, .int x1, .int x2, .int x3, .int (nI 1)]) (st' := []) (E' := E) (I' := I) (J' := J) (S' := S) am_e265 rfl rfl rfl rfl ?_
      refine w_st (i' := 87) (ls' := [.ref 99, .int x1, .int x2, .int x3, .int (nI 1)]) (st' := [.int (nI 1)]) (E' := E) (I' := I) (J' := J) (S' := S) am_e265 rfl rfl rfl rfl ?_
      refine w_st (i' := 88) (ls' := [.ref 99, .int x1, .int x2, .int x3, .int (nI 1)]) (st' := []) (E' := E) (I' := I) (J' := J) (S' := S) am_e265 rfl rfl rfl rfl ?_
      refine w_st (i' := 89) (ls' := [.ref 99, .int x1, .int x2, .int x3, .int (nI 1)]) (st' := [.ref 99]) (E' := E) (I' := I) (J' := J) (S' := S) am_e265 rfl rfl rfl rfl ?_
      refine w_st (i' := 90) (ls' := [.ref 99, .int x1, .int x2, .int x3, .int (nI 1)]) (st' := [.int x3, .ref 99]) (E' := E) (I' := I) (J' := J) (S' := S) am_e265 rfl rfl rfl rfl ?_
      refine w_st (i' := 91) (ls' := [.ref 99, .int x1, .int x2, .int x3, .int (nI 1)]) (st' := [.int x1, .int x3, .ref 99]) (E' := E) (I' := I) (J' := J) (S' := S) am_e265 rfl rfl rfl rfl ?_
      refine w_cV am_e265 rfl rfl (as := [.ref 99, .int x3, .int x1]) (rest := []) rfl rfl (am_ww.mono h ?_)
      rintro _ E3 I3 J3 S3 ⟨rfl, h⟩
      refine q_mkV ?_
      refine w_st (i' := 93) (ls' := [.ref 99, .int x1, .int x2, .int (x3 + nI 1), .int (nI 1)]) (st' := []) (E' := E3) (I' := I3) (J' := J3) (S' := S3) am_e265 rfl rfl rfl rfl ?_
      refine w_st (i' := 56) (ls' := [.ref 99, .int x1, .int x2, .int (x3 + nI 1), .int (nI 1)]) (st' := []) (E' := E3) (I' := I3) (J' := J3) (S' := S3) am_e265 rfl rfl rfl rfl ?_
      exact h
    · replace h := h.2 (of_decide_eq_false c)
      refine w_st (i' := 69) (ls' := [.ref 99, .int x1, .int x2, .int x3, d4]) (st' := [.ref 99]) (E' := E) (I' := I) (J' := J) (S' := S) am_e265 rfl rfl rfl rfl ?_
      refine w_st (i' := 70) (ls' := [.ref 99, .int x1, .int x2, .int x3, d4]) (st' := [.ref 106]) (E' := E) (I' := I) (J' := J) (S' := S) am_e265 rfl rfl rfl rfl ?_
      refine w_st (i' := 71) (ls' := [.ref 99, .int x1, .int x2, .int x3, d4]) (st' := [.int x2, .ref 106]) (E' := E) (I' := I) (J' := J) (S' := S) am_e265 rfl rfl rfl rfl ?_
      have hf4 := h.1
      replace h := h.2
      refine w_ia (k := 106) (n := 128) (jn := x2.toNatClampNeg) am_e265 rfl rfl (by decide) hf4 rfl ?_
      refine w_st (i' := 73) (ls' := [.ref 99, .int x1, .int x2, .int x3, d4]) (st' := [.int (nI 7), .int ((I 106) x2.toNatClampNeg)]) (E' := E) (I' := I) (J' := J) (S' := S) am_e265 rfl rfl rfl rfl ?_
      refine w_if2 am_e265 rfl rfl (fun c => ?_) (fun c => ?_)
      · replace h := h.2 (of_decide_eq_true c)
        refine w_st (i' := 85) (ls' := [.ref 99, .int x1, .int x2, .int x3, d4]) (st' := [.int (nI 0)]) (E' := E) (I' := I) (J' := J) (S' := S) am_e265 rfl rfl rfl rfl ?_
        refine w_st (i' := 86) (ls' := [.ref 99, .int x1, .int x2, .int x3, .int (nI 0)]) (st' := []) (E' := E) (I' := I) (J' := J) (S' := S) am_e265 rfl rfl rfl rfl ?_
        refine w_st (i' := 87) (ls' := [.ref 99, .int x1, .int x2, .int x3, .int (nI 0)]) (st' := [.int (nI 0)]) (E' := E) (I' := I) (J' := J) (S' := S) am_e265 rfl rfl rfl rfl ?_
        refine w_st (i' := 92) (ls' := [.ref 99, .int x1, .int x2, .int x3, .int (nI 0)]) (st' := []) (E' := E) (I' := I) (J' := J) (S' := S) am_e265 rfl rfl rfl rfl ?_
        refine w_st (i' := 93) (ls' := [.ref 99, .int x1, .int x2, .int (x3 + nI 1), .int (nI 0)]) (st' := []) (E' := E) (I' := I) (J' := J) (S' := S) am_e265 rfl rfl rfl rfl ?_
        refine w_st (i' := 56) (ls' := [.ref 99, .int x1, .int x2, .int (x3 + nI 1), .int (nI 0)]) (st' := []) (E' := E) (I' := I) (J' := J) (S' := S) am_e265 rfl rfl rfl rfl ?_
        exact h
      · replace h := h.1 (Decidable.not_not.mp (of_decide_eq_false c))
        refine w_st (i' := 75) (ls' := [.ref 99, .int x1, .int x2, .int x3, d4]) (st' := [.ref 99]) (E' := E) (I' := I) (J' := J) (S' := S) am_e265 rfl rfl rfl rfl ?_
        refine w_st (i' := 76) (ls' := [.ref 99, .int x1, .int x2, .int x3, d4]) (st' := [.int x3, .ref 99]) (E' := E) (I' := I) (J' := J) (S' := S) am_e265 rfl rfl rfl rfl ?_
        refine w_st (i' := 77) (ls' := [.ref 99, .int x1, .int x2, .int x3, d4]) (st' := [.ref 99, .int x3, .ref 99]) (E' := E) (I' := I) (J' := J) (S' := S) am_e265 rfl rfl rfl rfl ?_
        refine w_st (i' := 78) (ls' := [.ref 99, .int x1, .int x2, .int x3, d4]) (st' := [.ref 107, .int x3, .ref 99]) (E' := E) (I' := I) (J' := J) (S' := S) am_e265 rfl rfl rfl rfl ?_
        refine w_st (i' := 79) (ls' := [.ref 99, .int x1, .int x2, .int x3, d4]) (st' := [.int x2, .ref 107, .int x3, .ref 99]) (E' := E) (I' := I) (J' := J) (S' := S) am_e265 rfl rfl rfl rfl ?_
        refine w_ia (k := 107) (n := 128) (jn := x2.toNatClampNeg) am_e265 rfl rfl (by decide) hf4 rfl ?_
        refine w_cI am_e265 rfl rfl (as := [.ref 99, .int x3, .int ((I 107) x2.toNatClampNeg)]) (rest := []) rfl rfl ?_
        show am_ww 266 0 [.ref 99, .int x3, .int ((I 107) x2.toNatClampNeg)] [] E I J S _
        refine w_st (i' := 1) (ls' := [.ref 99, .int x3, .int ((I 107) x2.toNatClampNeg)]) (st' := [.ref 99]) (E' := E) (I' := I) (J' := J) (S' := S) am_e266 rfl rfl rfl rfl ?_
        refine w_st (i' := 2) (ls' := [.ref 99, .int x3, .int ((I 107) x2.toNatClampNeg)]) (st' := [.ref 106]) (E' := E) (I' := I) (J' := J) (S' := S) am_e266 rfl rfl rfl rfl ?_
        refine w_st (i' := 3) (ls' := [.ref 99, .int x3, .int ((I 107) x2.toNatClampNeg)]) (st' := [.ref 99, .ref 106]) (E' := E) (I' := I) (J' := J) (S' := S) am_e266 rfl rfl rfl rfl ?_
        refine w_st (i' := 4) (ls' := [.ref 99, .int x3, .int ((I 107) x2.toNatClampNeg)]) (st' := [.ref 119, .ref 106]) (E' := E) (I' := I) (J' := J) (S' := S) am_e266 rfl rfl rfl rfl ?_
        refine w_st (i' := 5) (ls' := [.ref 99, .int x3, .int ((I 107) x2.toNatClampNeg)]) (st' := [.int x3, .ref 119, .ref 106]) (E' := E) (I' := I) (J' := J) (S' := S) am_e266 rfl rfl rfl rfl ?_
        refine w_ia (k := 119) (n := 401) (jn := x3.toNatClampNeg) am_e266 rfl rfl (by decide) hf1 rfl ?_
        have hf5 := h.1
        replace h := h.2
        refine w_ia (k := 106) (n := 128) (jn := ((I 119) x3.toNatClampNeg).toNatClampNeg) am_e266 rfl rfl (by decide) hf5 rfl ?_
        refine w_st (i' := 8) (ls' := [.ref 99, .int x3, .int ((I 107) x2.toNatClampNeg)]) (st' := [.int (nI 8), .int ((I 106) (((I 119) x3.toNatClampNeg).toNatClampNeg))]) (E' := E) (I' := I) (J' := J) (S' := S) am_e266 rfl rfl rfl rfl ?_
        refine w_if2 am_e266 rfl rfl (fun c => ?_) (fun c => ?_)
        · replace h := h.2 (of_decide_eq_true c)
          refine w_st (i' := 34) (ls' := [.ref 99, .int x3, .int ((I 107) x2.toNatClampNeg)]) (st' := [.int (nI 0)]) (E' := E) (I' := I) (J' := J) (S' := S) am_e266 rfl rfl rfl rfl ?_
          refine w_end (E' := E) (I' := I) (J' := J) (S' := S) am_e266 rfl rfl rfl (q_mkI ?_)
          show am_ww 265 81 [.ref 99, .int x1, .int x2, .int x3, d4] [.int (nI 0)] E I J S _
          refine w_st (i' := 84) (ls' := [.ref 99, .int x1, .int x2, .int x3, d4]) (st' := []) (E' := E) (I' := I) (J' := J) (S' := S) am_e265 rfl rfl rfl rfl ?_
          refine w_st (i' := 85) (ls' := [.ref 99, .int x1, .int x2, .int x3, d4]) (st' := [.int (nI 0)]) (E' := E) (I' := I) (J' := J) (S' := S) am_e265 rfl rfl rfl rfl ?_
          refine w_st (i' := 86) (ls' := [.ref 99, .int x1, .int x2, .int x3, .int (nI 0)]) (st' := []) (E' := E) (I' := I) (J' := J) (S' := S) am_e265 rfl rfl rfl rfl ?_
          refine w_st (i' := 87) (ls' := [.ref 99, .int x1, .int x2, .int x3, .int (nI 0)]) (st' := [.int (nI 0)]) (E' := E) (I' := I) (J' := J) (S' := S) am_e265 rfl rfl rfl rfl ?_
          refine w_st (i' := 92) (ls' := [.ref 99, .int x1, .int x2, .int x3, .int (nI 0)]) (st' := []) (E' := E) (I' := I) (J' := J) (S' := S) am_e265 rfl rfl rfl rfl ?_
          refine w_st (i' := 93) (ls' := [.ref 99, .int x1, .int x2, .int (x3 + nI 1), .int (nI 0)]) (st' := []) (E' := E) (I' := I) (J' := J) (S' := S) am_e265 rfl rfl rfl rfl ?_
          refine w_st (i' := 56) (ls' := [.ref 99, .int x1, .int x2, .int (x3 + nI 1), .int (nI 0)]) (st' := []) (E' := E) (I' := I) (J' := J) (S' := S) am_e265 rfl rfl rfl rfl ?_
          exact h
        · replace h := h.1 (Decidable.not_not.mp (of_decide_eq_false c))
          refine w_st (i' := 10) (ls' := [.ref 99, .int x3, .int ((I 107) x2.toNatClampNeg)]) (st' := [.ref 99]) (E' := E) (I' := I) (J' := J) (S' := S) am_e266 rfl rfl rfl rfl ?_
          refine w_st (i' := 11) (ls' := [.ref 99, .int x3, .int ((I 107) x2.toNatClampNeg)]) (st' := [.ref 107]) (E' := E) (I' := I) (J' := J) (S' := S) am_e266 rfl rfl rfl rfl ?_
          refine w_st (i' := 12) (ls' := [.ref 99, .int x3, .int ((I 107) x2.toNatClampNeg)]) (st' := [.ref 99, .ref 107]) (E' := E) (I' := I) (J' := J) (S' := S) am_e266 rfl rfl rfl rfl ?_
          refine w_st (i' := 13) (ls' := [.ref 99, .int x3, .int ((I 107) x2.toNatClampNeg)]) (st' := [.ref 119, .ref 107]) (E' := E) (I' := I) (J' := J) (S' := S) am_e266 rfl rfl rfl rfl ?_
          refine w_st (i' := 14) (ls' := [.ref 99, .int x3, .int ((I 107) x2.toNatClampNeg)]) (st' := [.int x3, .ref 119, .ref 107]) (E' := E) (I' := I) (J' := J) (S' := S) am_e266 rfl rfl rfl rfl ?_
          refine w_ia (k := 119) (n := 401) (jn := x3.toNatClampNeg) am_e266 rfl rfl (by decide) hf1 rfl ?_
          refine w_ia (k := 107) (n := 128) (jn := ((I 119) x3.toNatClampNeg).toNatClampNeg) am_e266 rfl rfl (by decide) hf5 rfl ?_
          refine w_st (i' := 17) (ls' := [.ref 99, .int x3, .int ((I 107) x2.toNatClampNeg)]) (st' := [.int ((I 107) x2.toNatClampNeg), .int ((I 107) (((I 119) x3.toNatClampNeg).toNatClampNeg))]) (E' := E) (I' := I) (J' := J) (S' := S) am_e266 rfl rfl rfl rfl ?_
          refine w_if2 am_e266 rfl rfl (fun c => ?_) (fun c => ?_)
          · replace h := h.2 (of_decide_eq_true c)
            refine w_st (i' := 34) (ls' := [.ref 99, .int x3, .int ((I 107) x2.toNatClampNeg)]) (st' := [.int (nI 0)]) (E' := E) (I' := I) (J' := J) (S' := S) am_e266 rfl rfl rfl rfl ?_
            refine w_end (E' := E) (I' := I) (J' := J) (S' := S) am_e266 rfl rfl rfl (q_mkI ?_)
            show am_ww 265 81 [.ref 99, .int x1, .int x2, .int x3, d4] [.int (nI 0)] E I J S _
            refine w_st (i' := 84) (ls' := [.ref 99, .int x1, .int x2, .int x3, d4]) (st' := []) (E' := E) (I' := I) (J' := J) (S' := S) am_e265 rfl rfl rfl rfl ?_
            refine w_st (i' := 85) (ls' := [.ref 99, .int x1, .int x2, .int x3, d4]) (st' := [.int (nI 0)]) (E' := E) (I' := I) (J' := J) (S' := S) am_e265 rfl rfl rfl rfl ?_
            refine w_st (i' := 86) (ls' := [.ref 99, .int x1, .int x2, .int x3, .int (nI 0)]) (st' := []) (E' := E) (I' := I) (J' := J) (S' := S) am_e265 rfl rfl rfl rfl ?_
            refine w_st (i' := 87) (ls' := [.ref 99, .int x1, .int x2, .int x3, .int (nI 0)]) (st' := [.int (nI 0)]) (E' := E) (I' := I) (J' := J) (S' := S) am_e265 rfl rfl rfl rfl ?_
            refine w_st (i' := 92) (ls' := [.ref 99, .int x1, .int x2, .int x3, .int (nI 0)]) (st' := []) (E' := E) (I' := I) (J' := J) (S' := S) am_e265 rfl rfl rfl rfl ?_
            refine w_st (i' := 93) (ls' := [.ref 99, .int x1, .int x2, .int (x3 + nI 1), .int (nI 0)]) (st' := []) (E' := E) (I' := I) (J' := J) (S' := S) am_e265 rfl rfl rfl rfl ?_
            refine w_st (i' := 56) (ls' := [.ref 99, .int x1, .int x2, .int (x3 + nI 1), .int (nI 0)]) (st' := []) (E' := E) (I' := I) (J' := J) (S' := S) am_e265 rfl rfl rfl rfl ?_
            exact h
          · replace h := h.1 (Decidable.not_not.mp (of_decide_eq_false c))
            refine w_st (i' := 19) (ls' := [.ref 99, .int x3, .int ((I 107) x2.toNatClampNeg)]) (st' := [.ref 99]) (E' := E) (I' := I) (J' := J) (S' := S) am_e266 rfl rfl rfl rfl ?_
            refine w_st (i' := 20) (ls' := [.ref 99, .int x3, .int ((I 107) x2.toNatClampNeg)]) (st' := [.int x3, .ref 99]) (E' := E) (I' := I) (J' := J) (S' := S) am_e266 rfl rfl rfl rfl ?_
            refine w_st (i' := 21) (ls' := [.ref 99, .int x3, .int ((I 107) x2.toNatClampNeg)]) (st' := [.int (nI 1), .int x3, .ref 99]) (E' := E) (I' := I) (J' := J) (S' := S) am_e266 rfl rfl rfl rfl ?_
            refine w_st (i' := 22) (ls' := [.ref 99, .int x3, .int ((I 107) x2.toNatClampNeg)]) (st' := [.int (x3 - (nI 1)), .ref 99]) (E' := E) (I' := I) (J' := J) (S' := S) am_e266 rfl rfl rfl rfl ?_
            refine w_st (i' := 23) (ls' := [.ref 99, .int x3, .int ((I 107) x2.toNatClampNeg)]) (st' := [.int (nI 40), .int (x3 - (nI 1)), .ref 99]) (E' := E) (I' := I) (J' := J) (S' := S) am_e266 rfl rfl rfl rfl ?_
            refine w_st (i' := 24) (ls' := [.ref 99, .int x3, .int ((I 107) x2.toNatClampNeg)]) (st' := [.int ((I 107) x2.toNatClampNeg), .int (nI 40), .int (x3 - (nI 1)), .ref 99]) (E' := E) (I' := I) (J' := J) (S' := S) am_e266 rfl rfl rfl rfl ?_
            refine w_st (i' := 25) (ls' := [.ref 99, .int x3, .int ((I 107) x2.toNatClampNeg)]) (st' := [.int ((nI 40) + ((I 107) x2.toNatClampNeg)), .int (x3 - (nI 1)), .ref 99]) (E' := E) (I' := I) (J' := J) (S' := S) am_e266 rfl rfl rfl rfl ?_
            refine w_cI am_e266 rfl rfl (as := [.ref 99, .int (x3 - (nI 1)), .int ((nI 40) + ((I 107) x2.toNatClampNeg))]) (rest := []) rfl rfl ?_
            show am_ww 245 0 [.ref 99, .int (x3 - (nI 1)), .int ((nI 40) + ((I 107) x2.toNatClampNeg))] [] E I J S _
            refine w_var (fun w6 => am_ww 245 0 [.ref 99, .int (x3 - (nI 1)), .int w6] [] E I J S _) ((nI 40) + ((I 107) x2.toNatClampNeg)) (fun w6 hw6 => ?_)
            replace h := h w6 hw6
            refine w_st (i' := 1) (ls' := [.ref 99, .int (x3 - (nI 1)), .int w6]) (st' := [.ref 99]) (E' := E) (I' := I) (J' := J) (S' := S) am_e245 rfl rfl rfl rfl ?_
            refine w_st (i' := 2) (ls' := [.ref 99, .int (x3 - (nI 1)), .int w6]) (st' := [.ref 117]) (E' := E) (I' := I) (J' := J) (S' := S) am_e245 rfl rfl rfl rfl ?_
            refine w_st (i' := 3) (ls' := [.ref 99, .int (x3 - (nI 1)), .int w6]) (st' := [.int (nI 51), .ref 117]) (E' := E) (I' := I) (J' := J) (S' := S) am_e245 rfl rfl rfl rfl ?_
            refine w_st (i' := 4) (ls' := [.ref 99, .int (x3 - (nI 1)), .int w6]) (st' := [.int (x3 - (nI 1)), .int (nI 51), .ref 117]) (E' := E) (I' := I) (J' := J) (S' := S) am_e245 rfl rfl rfl rfl ?_
            refine w_st (i' := 5) (ls' := [.ref 99, .int (x3 - (nI 1)), .int w6]) (st' := [.int ((nI 51) * (x3 - (nI 1))), .ref 117]) (E' := E) (I' := I) (J' := J) (S' := S) am_e245 rfl rfl rfl rfl ?_
            refine w_st (i' := 6) (ls' := [.ref 99, .int (x3 - (nI 1)), .int w6]) (st' := [.int w6, .int ((nI 51) * (x3 - (nI 1))), .ref 117]) (E' := E) (I' := I) (J' := J) (S' := S) am_e245 rfl rfl rfl rfl ?_
            refine w_st (i' := 7) (ls' := [.ref 99, .int (x3 - (nI 1)), .int w6]) (st' := [.int (((nI 51) * (x3 - (nI 1))) + w6), .ref 117]) (E' := E) (I' := I) (J' := J) (S' := S) am_e245 rfl rfl rfl rfl ?_
            have hf7 := h.1
            replace h := h.2
            refine w_ia (k := 117) (n := 20451) (jn := (((nI 51) * (x3 - (nI 1))) + w6).toNatClampNeg) am_e245 rfl rfl (by decide) hf7 rfl ?_
            refine w_ri am_e245 rfl rfl (q_mkI ?_)
            show am_ww 266 26 [.ref 99, .int x3, .int ((I 107) x2.toNatClampNeg)] [.int ((I 117) ((((nI 51) * (x3 - (nI 1))) + w6).toNatClampNeg))] E I J S _
            refine w_var (fun w8 => am_ww 266 26 [.ref 99, .int x3, .int ((I 107) x2.toNatClampNeg)] [.int w8] E I J S _) ((I 117) ((((nI 51) * (x3 - (nI 1))) + w6).toNatClampNeg)) (fun w8 hw8 => ?_)
            replace h := h w8 hw8
            refine w_st (i' := 27) (ls' := [.ref 99, .int x3, .int ((I 107) x2.toNatClampNeg)]) (st' := [.ref 99, .int w8]) (E' := E) (I' := I) (J' := J) (S' := S) am_e266 rfl rfl rfl rfl ?_
            refine w_st (i' := 28) (ls' := [.ref 99, .int x3, .int ((I 107) x2.toNatClampNeg)]) (st' := [.ref 118, .int w8]) (E' := E) (I' := I) (J' := J) (S' := S) am_e266 rfl rfl rfl rfl ?_
            refine w_st (i' := 29) (ls' := [.ref 99, .int x3, .int ((I 107) x2.toNatClampNeg)]) (st' := [.int x3, .ref 118, .int w8]) (E' := E) (I' := I) (J' := J) (S' := S) am_e266 rfl rfl rfl rfl ?_
            refine w_ia (k := 118) (n := 401) (jn := x3.toNatClampNeg) am_e266 rfl rfl (by decide) hf1 rfl ?_
            refine w_if2 am_e266 rfl rfl (fun c => ?_) (fun c => ?_)
            · replace h := h.2 (of_decide_eq_true c)
              refine w_st (i' := 34) (ls' := [.ref 99, .int x3, .int ((I 107) x2.toNatClampNeg)]) (st' := [.int (nI 0)]) (E' := E) (I' := I) (J' := J) (S' := S) am_e266 rfl rfl rfl rfl ?_
              refine w_end (E' := E) (I' := I) (J' := J) (S' := S) am_e266 rfl rfl rfl (q_mkI ?_)
              show am_ww 265 81 [.ref 99, .int x1, .int x2, .int x3, d4] [.int (nI 0)] E I J S _
              refine w_st (i' := 84) (ls' := [.ref 99, .int x1, .int x2, .int x3, d4]) (st' := []) (E' := E) (I' := I) (J' := J) (S' := S) am_e265 rfl rfl rfl rfl ?_
              refine w_st (i' := 85) (ls' := [.ref 99, .int x1, .int x2, .int x3, d4]) (st' := [.int (nI 0)]) (E' := E) (I' := I) (J' := J) (S' := S) am_e265 rfl rfl rfl rfl ?_
              refine w_st (i' := 86) (ls' := [.ref 99, .int x1, .int x2, .int x3, .int (nI 0)]) (st' := []) (E' := E) (I' := I) (J' := J) (S' := S) am_e265 rfl rfl rfl rfl ?_
              refine w_st (i' := 87) (ls' := [.ref 99, .int x1, .int x2, .int x3, .int (nI 0)]) (st' := [.int (nI 0)]) (E' := E) (I' := I) (J' := J) (S' := S) am_e265 rfl rfl rfl rfl ?_
              refine w_st (i' := 92) (ls' := [.ref 99, .int x1, .int x2, .int x3, .int (nI 0)]) (st' := []) (E' := E) (I' := I) (J' := J) (S' := S) am_e265 rfl rfl rfl rfl ?_
              refine w_st (i' := 93) (ls' := [.ref 99, .int x1, .int x2, .int (x3 + nI 1), .int (nI 0)]) (st' := []) (E' := E) (I' := I) (J' := J) (S' := S) am_e265 rfl rfl rfl rfl ?_
              refine w_st (i' := 56) (ls' := [.ref 99, .int x1, .int x2, .int (x3 + nI 1), .int (nI 0)]) (st' := []) (E' := E) (I' := I) (J' := J) (S' := S) am_e265 rfl rfl rfl rfl ?_
              exact h
            · replace h := h.1 (Decidable.not_not.mp (of_decide_eq_false c))
              refine w_st (i' := 32) (ls' := [.ref 99, .int x3, .int ((I 107) x2.toNatClampNeg)]) (st' := [.int (nI 1)]) (E' := E) (I' := I) (J' := J) (S' := S) am_e266 rfl rfl rfl rfl ?_
              refine w_st (i' := 34) (ls' := [.ref 99, .int x3, .int ((I 107) x2.toNatClampNeg)]) (st' := [.int (nI 1)]) (E' := E) (I' := I) (J' := J) (S' := S) am_e266 rfl rfl rfl rfl ?_
              refine w_end (E' := E) (I' := I) (J' := J) (S' := S) am_e266 rfl rfl rfl (q_mkI ?_)
              show am_ww 265 81 [.ref 99, .int x1, .int x2, .int x3, d4] [.int (nI 1)] E I J S _
              refine w_st (i' := 82) (ls' := [.ref 99, .int x1, .int x2, .int x3, d4]) (st' := []) (E' := E) (I' := I) (J' := J) (S' := S) am_e265 rfl rfl rfl rfl ?_
              refine w_st (i' := 83) (ls' := [.ref 99, .int x1, .int x2, .int x3, d4]) (st' := [.int (nI 1)]) (E' := E) (I' := I) (J' := J) (S' := S) am_e265 rfl rfl rfl rfl ?_
              refine w_st (i' := 85) (ls' := [.ref 99, .int x1, .int x2, .int x3, d4]) (st' := [.int (nI 1)]) (E' := E) (I' := I) (J' := J) (S' := S) am_e265 rfl rfl rfl rfl ?_
              refine w_st (i' := 86) (ls' := [.ref 99, .int x1, .int x2, .int x3, .int (nI 1)]) (st' := []) (E' := E) (I' := I) (J' := J) (S' := S) am_e265 rfl rfl rfl rfl ?_
              refine w_st (i' := 87) (ls' := [.ref 99, .int x1, .int x2, .int x3, .int (nI 1)]) (st' := [.int (nI 1)]) (E' := E) (I' := I) (J' := J) (S' := S) am_e265 rfl rfl rfl rfl ?_
              refine w_st (i' := 88) (ls' := [.ref 99, .int x1, .int x2, .int x3, .int (nI 1)]) (st' := []) (E' := E) (I' := I) (J' := J) (S' := S) am_e265 rfl rfl rfl rfl ?_
              refine w_st (i' := 89) (ls' := [.ref 99, .int x1, .int x2, .int x3, .int (nI 1)]) (st' := [.ref 99]) (E' := E) (I' := I) (J' := J) (S' := S) am_e265 rfl rfl rfl rfl ?_
              refine w_st (i' := 90) (ls' := [.ref 99, .int x1, .int x2, .int x3, .int (nI 1)]) (st' := [.int x3, .ref 99]) (E' := E) (I' := I) (J' := J) (S' := S) am_e265 rfl rfl rfl rfl ?_
              refine w_st (i' := 91) (ls' := [.ref 99, .int x1, .int x2, .int x3, .int (nI 1)]) (st' := [.int x1, .int x3, .ref 99]) (E' := E) (I' := I) (J' := J) (S' := S) am_e265 rfl rfl rfl rfl ?_
              refine w_cV am_e265 rfl rfl (as := [.ref 99, .int x3, .int x1]) (rest := []) rfl rfl (am_ww.mono h ?_)
              rintro _ E9 I9 J9 S9 ⟨rfl, h⟩
              refine q_mkV ?_
              refine w_st (i' := 93) (ls' := [.ref 99, .int x1, .int x2, .int (x3 + nI 1), .int (nI 1)]) (st' := []) (E' := E9) (I' := I9) (J' := J9) (S' := S9) am_e265 rfl rfl rfl rfl ?_
              refine w_st (i' := 56) (ls' := [.ref 99, .int x1, .int x2, .int (x3 + nI 1), .int (nI 1)]) (st' := []) (E' := E9) (I' := I9) (J' := J9) (S' := S9) am_e265 rfl rfl rfl rfl ?_
              exact h
-- 264 races
theorem g264_0 {p1 : Int32} {E : am_Ev} {I : Nat → Nat → Int32} {J : Nat → Nat → Int64} {S : Nat → Nat → Option Nat} {Q : am_Qt}  (h : (p1 < (nI 0) → (Q (.inl (some (.int (nI 0)))) E (u_I I 99 (upd (upd (I 99) 3 (nI 0)) 3 (nI 1))) J S)) ∧ (¬ p1 < (nI 0) → (((nI 2) < p1 → (Q (.inl (some (.int (nI 0)))) E (u_I I 99 (upd (upd (I 99) 3 (nI 0)) 3 (nI 1))) J S)) ∧ (¬ (nI 2) < p1 → (am_cl 265 [.ref 99] E (u_I I 99 (upd (I 99) 3 (nI 0))) J S (q_V fun E1 I1 J1 S1 => am_ww 264 16 [.ref 99, .int p1, .int (nI 0), am_U, am_U, am_U, am_U, am_U] [] E1 I1 J1 S1 Q)))))) : am_ww 264 0 [.ref 99, .int p1, am_U, am_U, am_U, am_U, am_U, am_U] [] E I J S Q := by
  refine w_st (i' := 1) (ls' := [.ref 99, .int p1, am_U, am_U, am_U, am_U, am_U, am_U]) (st' := [.ref 99]) (E' := E) (I' := I) (J' := J) (S' := S) am_e264 rfl rfl rfl rfl ?_
  refine w_st (i' := 2) (ls' := [.ref 99, .int p1, am_U, am_U, am_U, am_U, am_U, am_U]) (st' := [.int (nI 0), .ref 99]) (E' := E) (I' := I) (J' := J) (S' := S) am_e264 rfl rfl rfl rfl ?_
  refine w_st (i' := 3) (ls' := [.ref 99, .int p1, am_U, am_U, am_U, am_U, am_U, am_U]) (st' := []) (E' := E) (I' := (u_I I 99 (upd (I 99) 3 (nI 0)))) (J' := J) (S' := S) am_e264 rfl rfl rfl rfl ?_
  refine w_st (i' := 4) (ls' := [.ref 99, .int p1, am_U, am_U, am_U, am_U, am_U, am_U]) (st' := [.int p1]) (E' := E) (I' := (u_I I 99 (upd (I 99) 3 (nI 0)))) (J' := J) (S' := S) am_e264 rfl rfl rfl rfl ?_
  refine w_st (i' := 5) (ls' := [.ref 99, .int p1, am_U, am_U, am_U, am_U, am_U, am_U]) (st' := [.int (nI 0), .int p1]) (E' := E) (I' := (u_I I 99 (upd (I 99) 3 (nI 0)))) (J' := J) (S' := S) am_e264 rfl rfl rfl rfl ?_
  refine w_st (i' := 6) (ls' := [.ref 99, .int p1, am_U, am_U, am_U, am_U, am_U, am_U]) (st' := [.int (nI 2), .int (nI 0), .int p1]) (E' := E) (I' := (u_I I 99 (upd (I 99) 3 (nI 0)))) (J' := J) (S' := S) am_e264 rfl rfl rfl rfl ?_
  refine w_cI am_e264 rfl rfl (as := [.int p1, .int (nI 0), .int (nI 2)]) (rest := []) rfl rfl ?_
  show am_ww 232 0 [.int p1, .int (nI 0), .int (nI 2)] [] E (u_I I 99 (upd (I 99) 3 (nI 0))) J S _
  refine w_st (i' := 1) (ls' := [.int p1, .int (nI 0), .int (nI 2)]) (st' := [.int p1]) (E' := E) (I' := (u_I I 99 (upd (I 99) 3 (nI 0)))) (J' := J) (S' := S) am_e232 rfl rfl rfl rfl ?_
  refine w_st (i' := 2) (ls' := [.int p1, .int (nI 0), .int (nI 2)]) (st' := [.int (nI 0), .int p1]) (E' := E) (I' := (u_I I 99 (upd (I 99) 3 (nI 0)))) (J' := J) (S' := S) am_e232 rfl rfl rfl rfl ?_
  refine w_if2 am_e232 rfl rfl (fun c => ?_) (fun c => ?_)
  · replace h := h.1 (of_decide_eq_true c)
    refine w_st (i' := 9) (ls' := [.int p1, .int (nI 0), .int (nI 2)]) (st' := [.int (nI 0)]) (E' := E) (I' := (u_I I 99 (upd (I 99) 3 (nI 0)))) (J' := J) (S' := S) am_e232 rfl rfl rfl rfl ?_
    refine w_end (E' := E) (I' := (u_I I 99 (upd (I 99) 3 (nI 0)))) (J' := J) (S' := S) am_e232 rfl rfl rfl (q_mkI ?_)
    show am_ww 264 7 [.ref 99, .int p1, am_U, am_U, am_U, am_U, am_U, am_U] [.int (nI 0)] E (u_I I 99 (upd (I 99) 3 (nI 0))) J S _
    refine w_st (i' := 8) (ls' := [.ref 99, .int p1, am_U, am_U, am_U, am_U, am_U, am_U]) (st' := []) (E' := E) (I' := (u_I I 99 (upd (I 99) 3 (nI 0)))) (J' := J) (S' := S) am_e264 rfl rfl rfl rfl ?_
    refine w_st (i' := 9) (ls' := [.ref 99, .int p1, am_U, am_U, am_U, am_U, am_U, am_U]) (st' := [.ref 99]) (E' := E) (I' := (u_I I 99 (upd (I 99) 3 (nI 0)))) (J' := J) (S' := S) am_e264 rfl rfl rfl rfl ?_
    refine w_st (i' := 10) (ls' := [.ref 99, .int p1, am_U, am_U, am_U, am_U, am_U, am_U]) (st' := [.int (nI 1), .ref 99]) (E' := E) (I' := (u_I I 99 (upd (I 99) 3 (nI 0)))) (J' := J) (S' := S) am_e264 rfl rfl rfl rfl ?_
    refine w_cI am_e264 rfl rfl (as := [.ref 99, .int (nI 1)]) (rest := []) rfl rfl ?_
    show am_ww 189 0 [.ref 99, .int (nI 1)] [] E (u_I I 99 (upd (I 99) 3 (nI 0))) J S _
    refine w_st (i' := 1) (ls' := [.ref 99, .int (nI 1)]) (st' := [.ref 99]) (E' := E) (I' := (u_I I 99 (upd (I 99) 3 (nI 0)))) (J' := J) (S' := S) am_e189 rfl rfl rfl rfl ?_
    refine w_st (i' := 2) (ls' := [.ref 99, .int (nI 1)]) (st' := [.int (nI 1), .ref 99]) (E' := E) (I' := (u_I I 99 (upd (I 99) 3 (nI 0)))) (J' := J) (S' := S) am_e189 rfl rfl rfl rfl ?_
    refine w_st (i' := 3) (ls' := [.ref 99, .int (nI 1)]) (st' := []) (E' := E) (I' := (u_I (u_I I 99 (upd (I 99) 3 (nI 0))) 99 (upd (upd (I 99) 3 (nI 0)) 3 (nI 1)))) (J' := J) (S' := S) am_e189 rfl rfl rfl rfl ?_
    refine w_eI (uI_0 ..) ?_
    show am_ww 189 3 [.ref 99, .int (nI 1)] [] E (u_I I 99 (upd (upd (I 99) 3 (nI 0)) 3 (nI 1))) J S _
    refine w_st (i' := 4) (ls' := [.ref 99, .int (nI 1)]) (st' := [.int (nI 0)]) (E' := E) (I' := (u_I I 99 (upd (upd (I 99) 3 (nI 0)) 3 (nI 1)))) (J' := J) (S' := S) am_e189 rfl rfl rfl rfl ?_
    refine w_end (E' := E) (I' := (u_I I 99 (upd (upd (I 99) 3 (nI 0)) 3 (nI 1)))) (J' := J) (S' := S) am_e189 rfl rfl rfl (q_mkI ?_)
    show am_ww 264 11 [.ref 99, .int p1, am_U, am_U, am_U, am_U, am_U, am_U] [.int (nI 0)] E (u_I I 99 (upd (upd (I 99) 3 (nI 0)) 3 (nI 1))) J S _
    exact w_end am_e264 rfl rfl rfl h
  · replace h := h.2 (of_decide_eq_false c)
    refine w_st (i' := 4) (ls' := [.int p1, .int (nI 0), .int (nI 2)]) (st' := [.int p1]) (E' := E) (I' := (u_I I 99 (upd (I 99) 3 (nI 0)))) (J' := J) (S' := S) am_e232 rfl rfl rfl rfl ?_
    refine w_st (i' := 5) (ls' := [.int p1, .int (nI 0), .int (nI 2)]) (st' := [.int (nI 2), .int p1]) (E' := E) (I' := (u_I I 99 (upd (I 99) 3 (nI 0)))) (J' := J) (S' := S) am_e232 rfl rfl rfl rfl ?_
    refine w_if2 am_e232 rfl rfl (fun c => ?_) (fun c => ?_)
    · replace h := h.1 (of_decide_eq_true c)
      refine w_st (i' := 9) (ls' := [.int p1, .int (nI 0), .int (nI 2)]) (st' := [.int (nI 0)]) (E' := E) (I' := (u_I I 99 (upd (I 99) 3 (nI 0)))) (J' := J) (S' := S) am_e232 rfl rfl rfl rfl ?_
      refine w_end (E' := E) (I' := (u_I I 99 (upd (I 99) 3 (nI 0)))) (J' := J) (S' := S) am_e232 rfl rfl rfl (q_mkI ?_)
      show am_ww 264 7 [.ref 99, .int p1, am_U, am_U, am_U, am_U, am_U, am_U] [.int (nI 0)] E (u_I I 99 (upd (I 99) 3 (nI 0))) J S _
      refine w_st (i' := 8) (ls' := [.ref 99, .int p1, am_U, am_U, am_U, am_U, am_U, am_U]) (st' := []) (E' := E) (I' := (u_I I 99 (upd (I 99) 3 (nI 0)))) (J' := J) (S' := S) am_e264 rfl rfl rfl rfl ?_
      refine w_st (i' := 9) (ls' := [.ref 99, .int p1, am_U, am_U, am_U, am_U, am_U, am_U]) (st' := [.ref 99]) (E' := E) (I' := (u_I I 99 (upd (I 99) 3 (nI 0)))) (J' := J) (S' := S) am_e264 rfl rfl rfl rfl ?_
      refine w_st (i' := 10) (ls' := [.ref 99, .int p1, am_U, am_U, am_U, am_U, am_U, am_U]) (st' := [.int (nI 1), .ref 99]) (E' := E) (I' := (u_I I 99 (upd (I 99) 3 (nI 0)))) (J' := J) (S' := S) am_e264 rfl rfl rfl rfl ?_
      refine w_cI am_e264 rfl rfl (as := [.ref 99, .int (nI 1)]) (rest := []) rfl rfl ?_
      show am_ww 189 0 [.ref 99, .int (nI 1)] [] E (u_I I 99 (upd (I 99) 3 (nI 0))) J S _
      refine w_st (i' := 1) (ls' := [.ref 99, .int (nI 1)]) (st' := [.ref 99]) (E' := E) (I' := (u_I I 99 (upd (I 99) 3 (nI 0)))) (J' := J) (S' := S) am_e189 rfl rfl rfl rfl ?_
      refine w_st (i' := 2) (ls' := [.ref 99, .int (nI 1)]) (st' := [.int (nI 1), .ref 99]) (E' := E) (I' := (u_I I 99 (upd (I 99) 3 (nI 0)))) (J' := J) (S' := S) am_e189 rfl rfl rfl rfl ?_
      refine w_st (i' := 3) (ls' := [.ref 99, .int (nI 1)]) (st' := []) (E' := E) (I' := (u_I (u_I I 99 (upd (I 99) 3 (nI 0))) 99 (upd (upd (I 99) 3 (nI 0)) 3 (nI 1)))) (J' := J) (S' := S) am_e189 rfl rfl rfl rfl ?_
      refine w_eI (uI_0 ..) ?_
      show am_ww 189 3 [.ref 99, .int (nI 1)] [] E (u_I I 99 (upd (upd (I 99) 3 (nI 0)) 3 (nI 1))) J S _
      refine w_st (i' := 4) (ls' := [.ref 99, .int (nI 1)]) (st' := [.int (nI 0)]) (E' := E) (I' := (u_I I 99 (upd (upd (I 99) 3 (nI 0)) 3 (nI 1)))) (J' := J) (S' := S) am_e189 rfl rfl rfl rfl ?_
      refine w_end (E' := E) (I' := (u_I I 99 (upd (upd (I 99) 3 (nI 0)) 3 (nI 1)))) (J' := J) (S' := S) am_e189 rfl rfl rfl (q_mkI ?_)
      show am_ww 264 11 [.ref 99, .int p1, am_U, am_U, am_U, am_U, am_U, am_U] [.int (nI 0)] E (u_I I 99 (upd (upd (I 99) 3 (nI 0)) 3 (nI 1))) J S _
      exact w_end am_e264 rfl rfl rfl h
    · replace h := h.2 (of_decide_eq_false c)
      refine w_st (i' := 7) (ls' := [.int p1, .int (nI 0), .int (nI 2)]) (st' := [.int (nI 1)]) (E' := E) (I' := (u_I I 99 (upd (I 99) 3 (nI 0)))) (J' := J) (S' := S) am_e232 rfl rfl rfl rfl ?_
      refine w_st (i' := 9) (ls' := [.int p1, .int (nI 0), .int (nI 2)]) (st' := [.int (nI 1)]) (E' := E) (I' := (u_I I 99 (upd (I 99) 3 (nI 0)))) (J' := J) (S' := S) am_e232 rfl rfl rfl rfl ?_
      refine w_end (E' := E) (I' := (u_I I 99 (upd (I 99) 3 (nI 0)))) (J' := J) (S' := S) am_e232 rfl rfl rfl (q_mkI ?_)
      show am_ww 264 7 [.ref 99, .int p1, am_U, am_U, am_U, am_U, am_U, am_U] [.int (nI 1)] E (u_I I 99 (upd (I 99) 3 (nI 0))) J S _
      refine w_st (i' := 12) (ls' := [.ref 99, .int p1, am_U, am_U, am_U, am_U, am_U, am_U]) (st' := []) (E' := E) (I' := (u_I I 99 (upd (I 99) 3 (nI 0)))) (J' := J) (S' := S) am_e264 rfl rfl rfl rfl ?_
      refine w_st (i' := 13) (ls' := [.ref 99, .int p1, am_U, am_U, am_U, am_U, am_U, am_U]) (st' := [.ref 99]) (E' := E) (I' := (u_I I 99 (upd (I 99) 3 (nI 0)))) (J' := J) (S' := S) am_e264 rfl rfl rfl rfl ?_
      refine w_cV am_e264 rfl rfl (as := [.ref 99]) (rest := []) rfl rfl (am_ww.mono h ?_)
      rintro _ E1 I1 J1 S1 ⟨rfl, h⟩
      refine q_mkV ?_
      refine w_st (i' := 15) (ls' := [.ref 99, .int p1, am_U, am_U, am_U, am_U, am_U, am_U]) (st' := [.int (nI 0)]) (E' := E1) (I' := I1) (J' := J1) (S' := S1) am_e264 rfl rfl rfl rfl ?_
      refine w_st (i' := 16) (ls' := [.ref 99, .int p1, .int (nI 0), am_U, am_U, am_U, am_U, am_U]) (st' := []) (E' := E1) (I' := I1) (J' := J1) (S' := S1) am_e264 rfl rfl rfl rfl ?_
      exact h
theorem g264_16 {x1 : Int32} {x2 : Int32} {d3 : Value} {d4 : Value} {d5 : Value} {d6 : Value} {d7 : Value} {E : am_Ev} {I : Nat → Nat → Int32} {J : Nat → Nat → Int64} {S : Nat → Nat → Option Nat} {Q : am_Qt} (hd3 : am_isL d3 = false) (hd4 : am_isL d4 = false) (hd5 : am_isL d5 = false) (hd6 : am_isL d6 = false) (hd7 : am_isL d7 = false) (h : ((nI 4096) ≤ x2 → (am_ww 264 36 [.ref 99, .int x1, .int (nI 0), .int (nI 0), .int (nI 0), .int (nI 1), d6, d7] [] E I J S Q)) ∧ (¬ (nI 4096) ≤ x2 → (vp_in x2 4096 ∧ (am_ww 264 16 [.ref 99, .int x1, .int (x2 + nI 1), d3, d4, d5, d6, d7] [] E (u_I I 130 (upd (I 130) x2.toNatClampNeg (nI 0))) J S Q)))) : am_ww 264 16 [.ref 99, .int x1, .int x2, d3, d4, d5, d6, d7] [] E I J S Q := by
  refine w_st (i' := 17) (ls' := [.ref 99, .int x1, .int x2, d3, d4, d5, d6, d7]) (st' := [.int x2]) (E' := E) (I' := I) (J' := J) (S' := S) am_e264 rfl rfl rfl rfl ?_
  refine w_st (i' := 18) (ls' := [.ref 99, .int x1, .int x2, d3, d4, d5, d6, d7]) (st' := [.ref 99, .int x2]) (E' := E) (I' := I) (J' := J) (S' := S) am_e264 rfl rfl rfl rfl ?_
  refine w_st (i' := 19) (ls' := [.ref 99, .int x1, .int x2, d3, d4, d5, d6, d7]) (st' := [.ref 130, .int x2]) (E' := E) (I' := I) (J' := J) (S' := S) am_e264 rfl rfl rfl rfl ?_
  refine w_st (i' := 20) (ls' := [.ref 99, .int x1, .int x2, d3, d4, d5, d6, d7]) (st' := [.int (nI 4096), .int x2]) (E' := E) (I' := I) (J' := J) (S' := S) am_e264 rfl rfl rfl rfl ?_
  refine w_if2 am_e264 rfl rfl (fun c => ?_) (fun c => ?_)
  · replace h := h.1 (of_decide_eq_true c)
    refine w_st (i' := 29) (ls' := [.ref 99, .int x1, .int x2, d3, d4, d5, d6, d7]) (st' := [.int (nI 0)]) (E' := E) (I' := I) (J' := J) (S' := S) am_e264 rfl rfl rfl rfl ?_
    refine w_st (i' := 30) (ls' := [.ref 99, .int x1, .int (nI 0), d3, d4, d5, d6, d7]) (st' := []) (E' := E) (I' := I) (J' := J) (S' := S) am_e264 rfl rfl rfl rfl ?_
    refine w_st (i' := 31) (ls' := [.ref 99, .int x1, .int (nI 0), d3, d4, d5, d6, d7]) (st' := [.int (nI 0)]) (E' := E) (I' := I) (J' := J) (S' := S) am_e264 rfl rfl rfl rfl ?_
    refine w_st (i' := 32) (ls' := [.ref 99, .int x1, .int (nI 0), .int (nI 0), d4, d5, d6, d7]) (st' := []) (E' := E) (I' := I) (J' := J) (S' := S) am_e264 rfl rfl rfl rfl ?_
    refine w_st (i' := 33) (ls' := [.ref 99, .int x1, .int (nI 0), .int (nI 0), d4, d5, d6, d7]) (st' := [.int (nI 0)]) (E' := E) (I' := I) (J' := J) (S' := S) am_e264 rfl rfl rfl rfl ?_
    refine w_st (i' := 34) (ls' := [.ref 99, .int x1, .int (nI 0), .int (nI 0), .int (nI 0), d5, d6, d7]) (st' := []) (E' := E) (I' := I) (J' := J) (S' := S) am_e264 rfl rfl rfl rfl ?_
    refine w_st (i' := 35) (ls' := [.ref 99, .int x1, .int (nI 0), .int (nI 0), .int (nI 0), d5, d6, d7]) (st' := [.int (nI 1)]) (E' := E) (I' := I) (J' := J) (S' := S) am_e264 rfl rfl rfl rfl ?_
    refine w_st (i' := 36) (ls' := [.ref 99, .int x1, .int (nI 0), .int (nI 0), .int (nI 0), .int (nI 1), d6, d7]) (st' := []) (E' := E) (I' := I) (J' := J) (S' := S) am_e264 rfl rfl rfl rfl ?_
    exact h
  · replace h := h.2 (of_decide_eq_false c)
    refine w_st (i' := 22) (ls' := [.ref 99, .int x1, .int x2, d3, d4, d5, d6, d7]) (st' := [.ref 99]) (E' := E) (I' := I) (J' := J) (S' := S) am_e264 rfl rfl rfl rfl ?_
    refine w_st (i' := 23) (ls' := [.ref 99, .int x1, .int x2, d3, d4, d5, d6, d7]) (st' := [.ref 130]) (E' := E) (I' := I) (J' := J) (S' := S) am_e264 rfl rfl rfl rfl ?_
    refine w_st (i' := 24) (ls' := [.ref 99, .int x1, .int x2, d3, d4, d5, d6, d7]) (st' := [.int x2, .ref 130]) (E' := E) (I' := I) (J' := J) (S' := S) am_e264 rfl rfl rfl rfl ?_
    refine w_st (i' := 25) (ls' := [.ref 99, .int x1, .int x2, d3, d4, d5, d6, d7]) (st' := [.int (nI 0), .int x2, .ref 130]) (E' := E) (I' := I) (J' := J) (S' := S) am_e264 rfl rfl rfl rfl ?_
    have hf1 := h.1
    replace h := h.2
    refine w_zs (k := 130) (n := 4096) (jn := x2.toNatClampNeg) am_e264 rfl rfl (by decide) hf1 rfl ?_
    show am_ww 264 26 [.ref 99, .int x1, .int x2, d3, d4, d5, d6, d7] [] E (u_I I 130 (upd (I 130) x2.toNatClampNeg (nI 0))) J S _
    refine w_st (i' := 27) (ls' := [.ref 99, .int x1, .int (x2 + nI 1), d3, d4, d5, d6, d7]) (st' := []) (E' := E) (I' := (u_I I 130 (upd (I 130) x2.toNatClampNeg (nI 0)))) (J' := J) (S' := S) am_e264 rfl rfl rfl rfl ?_
    refine w_st (i' := 16) (ls' := [.ref 99, .int x1, .int (x2 + nI 1), d3, d4, d5, d6, d7]) (st' := []) (E' := E) (I' := (u_I I 130 (upd (I 130) x2.toNatClampNeg (nI 0)))) (J' := J) (S' := S) am_e264 rfl rfl rfl rfl ?_
    exact h
theorem g264_36 {x1 : Int32} {x2 : Int32} {x3 : Int32} {x4 : Int32} {x5 : Int32} {d6 : Value} {d7 : Value} {E : am_Ev} {I : Nat → Nat → Int32} {J : Nat → Nat → Int64} {S : Nat → Nat → Option Nat} {Q : am_Qt} (hd6 : am_isL d6 = false) (hd7 : am_isL d7 = false) (h : (((I 99) 12) < x5 → ((x1 = 0 → (Q (.inl (some (.int x2))) E I J S)) ∧ (¬ x1 = 0 → ((x1 = (nI 1) → (am_cl 153 [.int x4] E I J S (q_I fun v1 E1 I1 J1 S1 => Q (.inl (some (.int v1))) E1 I1 J1 S1))) ∧ (¬ x1 = (nI 1) → (Q (.inl (some (.int x3))) E I J S)))))) ∧ (¬ ((I 99) 12) < x5 → (am_ww 264 42 [.ref 99, .int x1, .int x2, .int x3, .int x4, .int x5, .int (nI 1), d7] [] E I J S Q))) : am_ww 264 36 [.ref 99, .int x1, .int x2, .int x3, .int x4, .int x5, d6, d7] [] E I J S Q := by
  refine w_st (i' := 37) (ls' := [.ref 99, .int x1, .int x2, .int x3, .int x4, .int x5, d6, d7]) (st' := [.int x5]) (E' := E) (I' := I) (J' := J) (S' := S) am_e264 rfl rfl rfl rfl ?_
  refine w_st (i' := 38) (ls' := [.ref 99, .int x1, .int x2, .int x3, .int x4, .int x5, d6, d7]) (st' := [.ref 99, .int x5]) (E' := E) (I' := I) (J' := J) (S' := S) am_e264 rfl rfl rfl rfl ?_
  refine w_st (i' := 39) (ls' := [.ref 99, .int x1, .int x2, .int x3, .int x4, .int x5, d6, d7]) (st' := [.int ((I 99) 12), .int x5]) (E' := E) (I' := I) (J' := J) (S' := S) am_e264 rfl rfl rfl rfl ?_
  refine w_if2 am_e264 rfl rfl (fun c => ?_) (fun c => ?_)
  · replace h := h.1 (of_decide_eq_true c)
    refine w_st (i' := 94) (ls' := [.ref 99, .int x1, .int x2, .int x3, .int x4, .int x5, d6, d7]) (st' := [.int x1]) (E' := E) (I' := I) (J' := J) (S' := S) am_e264 rfl rfl rfl rfl ?_
    refine w_if1 am_e264 rfl rfl (fun c => ?_) (fun c => ?_)
    · replace h := h.2 (of_decide_eq_true c)
      refine w_st (i' := 98) (ls' := [.ref 99, .int x1, .int x2, .int x3, .int x4, .int x5, d6, d7]) (st' := [.int x1]) (E' := E) (I' := I) (J' := J) (S' := S) am_e264 rfl rfl rfl rfl ?_
      refine w_st (i' := 99) (ls' := [.ref 99, .int x1, .int x2, .int x3, .int x4, .int x5, d6, d7]) (st' := [.int (nI 1), .int x1]) (E' := E) (I' := I) (J' := J) (S' := S) am_e264 rfl rfl rfl rfl ?_
      refine w_if2 am_e264 rfl rfl (fun c => ?_) (fun c => ?_)
      · replace h := h.2 (of_decide_eq_true c)
        refine w_st (i' := 104) (ls' := [.ref 99, .int x1, .int x2, .int x3, .int x4, .int x5, d6, d7]) (st' := [.int x3]) (E' := E) (I' := I) (J' := J) (S' := S) am_e264 rfl rfl rfl rfl ?_
        exact w_ri am_e264 rfl rfl h
      · replace h := h.1 (Decidable.not_not.mp (of_decide_eq_false c))
        refine w_st (i' := 101) (ls' := [.ref 99, .int x1, .int x2, .int x3, .int x4, .int x5, d6, d7]) (st' := [.int x4]) (E' := E) (I' := I) (J' := J) (S' := S) am_e264 rfl rfl rfl rfl ?_
        refine w_cI am_e264 rfl rfl (as := [.int x4]) (rest := []) rfl rfl (am_ww.mono h ?_)
        rintro _ E1 I1 J1 S1 ⟨v1, rfl, h⟩
        refine q_mkI ?_
        refine w_st (i' := 104) (ls' := [.ref 99, .int x1, .int x2, .int x3, .int x4, .int x5, d6, d7]) (st' := [.int v1]) (E' := E1) (I' := I1) (J' := J1) (S' := S1) am_e264 rfl rfl rfl rfl ?_
        exact w_ri am_e264 rfl rfl h
    · replace h := h.1 (Decidable.not_not.mp (of_decide_eq_false c))
      refine w_st (i' := 96) (ls' := [.ref 99, .int x1, .int x2, .int x3, .int x4, .int x5, d6, d7]) (st' := [.int x2]) (E' := E) (I' := I) (J' := J) (S' := S) am_e264 rfl rfl rfl rfl ?_
      refine w_st (i' := 104) (ls' := [.ref 99, .int x1, .int x2, .int x3, .int x4, .int x5, d6, d7]) (st' := [.int x2]) (E' := E) (I' := I) (J' := J) (S' := S) am_e264 rfl rfl rfl rfl ?_
      exact w_ri am_e264 rfl rfl h
  · replace h := h.2 (of_decide_eq_false c)
    refine w_st (i' := 41) (ls' := [.ref 99, .int x1, .int x2, .int x3, .int x4, .int x5, d6, d7]) (st' := [.int (nI 1)]) (E' := E) (I' := I) (J' := J) (S' := S) am_e264 rfl rfl rfl rfl ?_
    refine w_st (i' := 42) (ls' := [.ref 99, .int x1, .int x2, .int x3, .int x4, .int x5, .int (nI 1), d7]) (st' := []) (E' := E) (I' := I) (J' := J) (S' := S) am_e264 rfl rfl rfl rfl ?_
    exact h
theorem g264_42 {x1 : Int32} {x2 : Int32} {x3 : Int32} {x4 : Int32} {x5 : Int32} {x6 : Int32} {d7 : Value} {E : am_Ev} {I : Nat → Nat → Int32} {J : Nat → Nat → Int64} {S : Nat → Nat → Option Nat} {Q : am_Qt} (hd7 : am_isL d7 = false) (h : (x5 ≤ x6 → (am_ww 264 36 [.ref 99, .int x1, .int x2, .int x3, .int x4, .int (x5 + nI 1), .int x6, d7] [] E I J S Q)) ∧ (¬ x5 ≤ x6 → (am_cl 268 [.ref 99, .int x6, .int x5] E I J S (q_I fun v1 E1 I1 J1 S1 => (v1 = 0 → (am_ww 264 42 [.ref 99, .int x1, .int x2, .int x3, .int x4, .int x5, .int (x6 + nI 1), d7] [] E1 I1 J1 S1 Q)) ∧ (¬ v1 = 0 → (vp_in x5 401 ∧ (∀ w3 : Int32, w3 = (x4 ||| ((nI 1) <<< (((I1 129) x5.toNatClampNeg) &&& 31))) → (vp_in x6 401 ∧ (∀ w5 : Int32, w5 = (((nI 64) * ((I1 119) x6.toNatClampNeg)) + ((I1 119) x5.toNatClampNeg)) → (vp_in w5 4096 ∧ (∀ w8 : Int32, w8 = (if ((I1 130) w5.toNatClampNeg) = 0 then nI 1 else nI 0) → (am_ww 264 42 [.ref 99, .int x1, .int (x2 + nI 1), .int (x3 + w8), .int w3, .int x5, .int (x6 + nI 1), .int w5] [] E1 (u_I I1 130 (upd (I1 130) w5.toNatClampNeg (nI 1))) J1 S1 Q)))))))))))) : am_ww 264 42 [.ref 99, .int x1, .int x2, .int x3, .int x4, .int x5, .int x6, d7] [] E I J S Q := by
  refine w_st (i' := 43) (ls' := [.ref 99, .int x1, .int x2, .int x3, .int x4, .int x5, .int x6, d7]) (st' := [.int x6]) (E' := E) (I' := I) (J' := J) (S' := S) am_e264 rfl rfl rfl rfl ?_
  refine w_st (i' := 44) (ls' := [.ref 99, .int x1, .int x2, .int x3, .int x4, .int x5, .int x6, d7]) (st' := [.int x5, .int x6]) (E' := E) (I' := I) (J' := J) (S' := S) am_e264 rfl rfl rfl rfl ?_
  refine w_if2 am_e264 rfl rfl (fun c => ?_) (fun c => ?_)
  · replace h := h.1 (of_decide_eq_true c)
    refine w_st (i' := 92) (ls' := [.ref 99, .int x1, .int x2, .int x3, .int x4, .int (x5 + nI 1), .int x6, d7]) (st' := []) (E' := E) (I' := I) (J' := J) (S' := S) am_e264 rfl rfl rfl rfl ?_
    refine w_st (i' := 36) (ls' := [.ref 99, .int x1, .int x2, .int x3, .int x4, .int (x5 + nI 1), .int x6, d7]) (st' := []) (E' := E) (I' := I) (J' := J) (S' := S) am_e264 rfl rfl rfl rfl ?_
    exact h
  · replace h := h.2 (of_decide_eq_false c)
    refine w_st (i' := 46) (ls' := [.ref 99, .int x1, .int x2, .int x3, .int x4, .int x5, .int x6, d7]) (st' := [.ref 99]) (E' := E) (I' := I) (J' := J) (S' := S) am_e264 rfl rfl rfl rfl ?_
    refine w_st (i' := 47) (ls' := [.ref 99, .int x1, .int x2, .int x3, .int x4, .int x5, .int x6, d7]) (st' := [.int x6, .ref 99]) (E' := E) (I' := I) (J' := J) (S' := S) am_e264 rfl rfl rfl rfl ?_
    refine w_st (i' := 48) (ls' := [.ref 99, .int x1, .int x2, .int x3, .int x4, .int x5, .int x6, d7]) (st' := [.int x5, .int x6, .ref 99]) (E' := E) (I' := I) (J' := J) (S' := S) am_e264 rfl rfl rfl rfl ?_
    refine w_cI am_e264 rfl rfl (as := [.ref 99, .int x6, .int x5]) (rest := []) rfl rfl (am_ww.mono h ?_)
    rintro _ E1 I1 J1 S1 ⟨v1, rfl, h⟩
    refine q_mkI ?_
    refine w_if1 am_e264 rfl rfl (fun c => ?_) (fun c => ?_)
    · replace h := h.2 (of_decide_eq_true c)
      refine w_st (i' := 52) (ls' := [.ref 99, .int x1, .int (x2 + nI 1), .int x3, .int x4, .int x5, .int x6, d7]) (st' := []) (E' := E1) (I' := I1) (J' := J1) (S' := S1) am_e264 rfl rfl rfl rfl ?_
      refine w_st (i' := 53) (ls' := [.ref 99, .int x1, .int (x2 + nI 1), .int x3, .int x4, .int x5, .int x6, d7]) (st' := [.int x4]) (E' := E1) (I' := I1) (J' := J1) (S' := S1) am_e264 rfl rfl rfl rfl ?_
      refine w_st (i' := 54) (ls' := [.ref 99, .int x1, .int (x2 + nI 1), .int x3, .int x4, .int x5, .int x6, d7]) (st' := [.int (nI 1), .int x4]) (E' := E1) (I' := I1) (J' := J1) (S' := S1) am_e264 rfl rfl rfl rfl ?_
      refine w_st (i' := 55) (ls' := [.ref 99, .int x1, .int (x2 + nI 1), .int x3, .int x4, .int x5, .int x6, d7]) (st' := [.ref 99, .int (nI 1), .int x4]) (E' := E1) (I' := I1) (J' := J1) (S' := S1) am_e264 rfl rfl rfl rfl ?_
      refine w_st (i' := 56) (ls' := [.ref 99, .int x1, .int (x2 + nI 1), .int x3, .int x4, .int x5, .int x6, d7]) (st' := [.ref 129, .int (nI 1), .int x4]) (E' := E1) (I' := I1) (J' := J1) (S' := S1) am_e264 rfl rfl rfl rfl ?_
      refine w_st (i' := 57) (ls' := [.ref 99, .int x1, .int (x2 + nI 1), .int x3, .int x4, .int x5, .int x6, d7]) (st' := [.int x5, .ref 129, .int (nI 1), .int x4]) (E' := E1) (I' := I1) (J' := J1) (S' := S1) am_e264 rfl rfl rfl rfl ?_
      have hf2 := h.1
      replace h := h.2
      refine w_ia (k := 129) (n := 401) (jn := x5.toNatClampNeg) am_e264 rfl rfl (by decide) hf2 rfl ?_
      refine w_st (i' := 59) (ls' := [.ref 99, .int x1, .int (x2 + nI 1), .int x3, .int x4, .int x5, .int x6, d7]) (st' := [.int ((nI 1) <<< (((I1 129) x5.toNatClampNeg) &&& 31)), .int x4]) (E' := E1) (I' := I1) (J' := J1) (S' := S1) am_e264 rfl rfl rfl rfl ?_
      refine w_st (i' := 60) (ls' := [.ref 99, .int x1, .int (x2 + nI 1), .int x3, .int x4, .int x5, .int x6, d7]) (st' := [.int (x4 ||| ((nI 1) <<< (((I1 129) x5.toNatClampNeg) &&& 31)))]) (E' := E1) (I' := I1) (J' := J1) (S' := S1) am_e264 rfl rfl rfl rfl ?_
      refine w_st (i' := 61) (ls' := [.ref 99, .int x1, .int (x2 + nI 1), .int x3, .int (x4 ||| ((nI 1) <<< (((I1 129) x5.toNatClampNeg) &&& 31))), .int x5, .int x6, d7]) (st' := []) (E' := E1) (I' := I1) (J' := J1) (S' := S1) am_e264 rfl rfl rfl rfl ?_
      refine w_var (fun w3 => am_ww 264 61 [.ref 99, .int x1, .int (x2 + nI 1), .int x3, .int w3, .int x5, .int x6, d7] [] E1 I1 J1 S1 _) (x4 ||| ((nI 1) <<< (((I1 129) x5.toNatClampNeg) &&& 31))) (fun w3 hw3 => ?_)
      replace h := h w3 hw3
      refine w_st (i' := 62) (ls' := [.ref 99, .int x1, .int (x2 + nI 1), .int x3, .int w3, .int x5, .int x6, d7]) (st' := [.int (nI 64)]) (E' := E1) (I' := I1) (J' := J1) (S' := S1) am_e264 rfl rfl rfl rfl ?_
      refine w_st (i' := 63) (ls' := [.ref 99, .int x1, .int (x2 + nI 1), .int x3, .int w3, .int x5, .int x6, d7]) (st' := [.ref 99, .int (nI 64)]) (E' := E1) (I' := I1) (J' := J1) (S' := S1) am_e264 rfl rfl rfl rfl ?_
      refine w_st (i' := 64) (ls' := [.ref 99, .int x1, .int (x2 + nI 1), .int x3, .int w3, .int x5, .int x6, d7]) (st' := [.ref 119, .int (nI 64)]) (E' := E1) (I' := I1) (J' := J1) (S' := S1) am_e264 rfl rfl rfl rfl ?_
      refine w_st (i' := 65) (ls' := [.ref 99, .int x1, .int (x2 + nI 1), .int x3, .int w3, .int x5, .int x6, d7]) (st' := [.int x6, .ref 119, .int (nI 64)]) (E' := E1) (I' := I1) (J' := J1) (S' := S1) am_e264 rfl rfl rfl rfl ?_
      have hf4 := h.1
      replace h := h.2
      refine w_ia (k := 119) (n := 401) (jn := x6.toNatClampNeg) am_e264 rfl rfl (by decide) hf4 rfl ?_
      refine w_st (i' := 67) (ls' := [.ref 99, .int x1, .int (x2 + nI 1), .int x3, .int w3, .int x5, .int x6, d7]) (st' := [.int ((nI 64) * ((I1 119) x6.toNatClampNeg))]) (E' := E1) (I' := I1) (J' := J1) (S' := S1) am_e264 rfl rfl rfl rfl ?_
      refine w_st (i' := 68) (ls' := [.ref 99, .int x1, .int (x2 + nI 1), .int x3, .int w3, .int x5, .int x6, d7]) (st' := [.ref 99, .int ((nI 64) * ((I1 119) x6.toNatClampNeg))]) (E' := E1) (I' := I1) (J' := J1) (S' := S1) am_e264 rfl rfl rfl rfl ?_
      refine w_st (i' := 69) (ls' := [.ref 99, .int x1, .int (x2 + nI 1), .int x3, .int w3, .int x5, .int x6, d7]) (st' := [.ref 119, .int ((nI 64) * ((I1 119) x6.toNatClampNeg))]) (E' := E1) (I' := I1) (J' := J1) (S' := S1) am_e264 rfl rfl rfl rfl ?_
      refine w_st (i' := 70) (ls' := [.ref 99, .int x1, .int (x2 + nI 1), .int x3, .int w3, .int x5, .int x6, d7]) (st' := [.int x5, .ref 119, .int ((nI 64) * ((I1 119) x6.toNatClampNeg))]) (E' := E1) (I' := I1) (J' := J1) (S' := S1) am_e264 rfl rfl rfl rfl ?_
      refine w_ia (k := 119) (n := 401) (jn := x5.toNatClampNeg) am_e264 rfl rfl (by decide) hf2 rfl ?_
      refine w_st (i' := 72) (ls' := [.ref 99, .int x1, .int (x2 + nI 1), .int x3, .int w3, .int x5, .int x6, d7]) (st' := [.int (((nI 64) * ((I1 119) x6.toNatClampNeg)) + ((I1 119) x5.toNatClampNeg))]) (E' := E1) (I' := I1) (J' := J1) (S' := S1) am_e264 rfl rfl rfl rfl ?_
      refine w_st (i' := 73) (ls' := [.ref 99, .int x1, .int (x2 + nI 1), .int x3, .int w3, .int x5, .int x6, .int (((nI 64) * ((I1 119) x6.toNatClampNeg)) + ((I1 119) x5.toNatClampNeg))]) (st' := []) (E' := E1) (I' := I1) (J' := J1) (S' := S1) am_e264 rfl rfl rfl rfl ?_
      refine w_var (fun w5 => am_ww 264 73 [.ref 99, .int x1, .int (x2 + nI 1), .int x3, .int w3, .int x5, .int x6, .int w5] [] E1 I1 J1 S1 _) (((nI 64) * ((I1 119) x6.toNatClampNeg)) + ((I1 119) x5.toNatClampNeg)) (fun w5 hw5 => ?_)
      replace h := h w5 hw5
      refine w_st (i' := 74) (ls' := [.ref 99, .int x1, .int (x2 + nI 1), .int x3, .int w3, .int x5, .int x6, .int w5]) (st' := [.int x3]) (E' := E1) (I' := I1) (J' := J1) (S' := S1) am_e264 rfl rfl rfl rfl ?_
      refine w_st (i' := 75) (ls' := [.ref 99, .int x1, .int (x2 + nI 1), .int x3, .int w3, .int x5, .int x6, .int w5]) (st' := [.ref 99, .int x3]) (E' := E1) (I' := I1) (J' := J1) (S' := S1) am_e264 rfl rfl rfl rfl ?_
      refine w_st (i' := 76) (ls' := [.ref 99, .int x1, .int (x2 + nI 1), .int x3, .int w3, .int x5, .int x6, .int w5]) (st' := [.ref 130, .int x3]) (E' := E1) (I' := I1) (J' := J1) (S' := S1) am_e264 rfl rfl rfl rfl ?_
      refine w_st (i' := 77) (ls' := [.ref 99, .int x1, .int (x2 + nI 1), .int x3, .int w3, .int x5, .int x6, .int w5]) (st' := [.int w5, .ref 130, .int x3]) (E' := E1) (I' := I1) (J' := J1) (S' := S1) am_e264 rfl rfl rfl rfl ?_
      have hf6 := h.1
      replace h := h.2
      refine w_za (k := 130) (n := 4096) (jn := w5.toNatClampNeg) am_e264 rfl rfl (by decide) hf6 rfl ?_
      refine w_mg (i := 82) (ls' := [.ref 99, .int x1, .int (x2 + nI 1), .int x3, .int w3, .int x5, .int x6, .int w5]) (st' := [.int (if ((I1 130) w5.toNatClampNeg) = 0 then nI 1 else nI 0), .int x3]) (fun hm => ?_) ?_
      · clear h
        refine w_if1 am_e264 rfl rfl (fun c => ?_) (fun c => ?_)
        · have m7 : ((I1 130) w5.toNatClampNeg) = 0 := (of_decide_eq_true c)
          refine w_st (i' := 82) (ls' := [.ref 99, .int x1, .int (x2 + nI 1), .int x3, .int w3, .int x5, .int x6, .int w5]) (st' := [.int (nI 1), .int x3]) (E' := E1) (I' := I1) (J' := J1) (S' := S1) am_e264 rfl rfl rfl rfl ?_
          first | exact hm | (simp only [if_pos m7] at hm; exact hm)
        · have m7 : ¬ (((I1 130) w5.toNatClampNeg) = 0) := (of_decide_eq_false c)
          refine w_st (i' := 80) (ls' := [.ref 99, .int x1, .int (x2 + nI 1), .int x3, .int w3, .int x5, .int x6, .int w5]) (st' := [.int (nI 0), .int x3]) (E' := E1) (I' := I1) (J' := J1) (S' := S1) am_e264 rfl rfl rfl rfl ?_
          refine w_st (i' := 82) (ls' := [.ref 99, .int x1, .int (x2 + nI 1), .int x3, .int w3, .int x5, .int x6, .int w5]) (st' := [.int (nI 0), .int x3]) (E' := E1) (I' := I1) (J' := J1) (S' := S1) am_e264 rfl rfl rfl rfl ?_
          first | exact hm | (simp only [if_neg m7] at hm; exact hm)
      refine w_var (fun w8 => am_ww 264 82 [.ref 99, .int x1, .int (x2 + nI 1), .int x3, .int w3, .int x5, .int x6, .int w5] [.int w8, .int x3] E1 I1 J1 S1 _) (if ((I1 130) w5.toNatClampNeg) = 0 then nI 1 else nI 0) (fun w8 hw8 => ?_)
      replace h := h w8 hw8
      refine w_st (i' := 83) (ls' := [.ref 99, .int x1, .int (x2 + nI 1), .int x3, .int w3, .int x5, .int x6, .int w5]) (st' := [.int (x3 + w8)]) (E' := E1) (I' := I1) (J' := J1) (S' := S1) am_e264 rfl rfl rfl rfl ?_
      refine w_st (i' := 84) (ls' := [.ref 99, .int x1, .int (x2 + nI 1), .int (x3 + w8), .int w3, .int x5, .int x6, .int w5]) (st' := []) (E' := E1) (I' := I1) (J' := J1) (S' := S1) am_e264 rfl rfl rfl rfl ?_
      refine w_st (i' := 85) (ls' := [.ref 99, .int x1, .int (x2 + nI 1), .int (x3 + w8), .int w3, .int x5, .int x6, .int w5]) (st' := [.ref 99]) (E' := E1) (I' := I1) (J' := J1) (S' := S1) am_e264 rfl rfl rfl rfl ?_
      refine w_st (i' := 86) (ls' := [.ref 99, .int x1, .int (x2 + nI 1), .int (x3 + w8), .int w3, .int x5, .int x6, .int w5]) (st' := [.ref 130]) (E' := E1) (I' := I1) (J' := J1) (S' := S1) am_e264 rfl rfl rfl rfl ?_
      refine w_st (i' := 87) (ls' := [.ref 99, .int x1, .int (x2 + nI 1), .int (x3 + w8), .int w3, .int x5, .int x6, .int w5]) (st' := [.int w5, .ref 130]) (E' := E1) (I' := I1) (J' := J1) (S' := S1) am_e264 rfl rfl rfl rfl ?_
      refine w_st (i' := 88) (ls' := [.ref 99, .int x1, .int (x2 + nI 1), .int (x3 + w8), .int w3, .int x5, .int x6, .int w5]) (st' := [.int (nI 1), .int w5, .ref 130]) (E' := E1) (I' := I1) (J' := J1) (S' := S1) am_e264 rfl rfl rfl rfl ?_
      refine w_zs (k := 130) (n := 4096) (jn := w5.toNatClampNeg) am_e264 rfl rfl (by decide) hf6 rfl ?_
      show am_ww 264 89 [.ref 99, .int x1, .int (x2 + nI 1), .int (x3 + w8), .int w3, .int x5, .int x6, .int w5] [] E1 (u_I I1 130 (upd (I1 130) w5.toNatClampNeg (nI 1))) J1 S1 _
      refine w_st (i' := 90) (ls' := [.ref 99, .int x1, .int (x2 + nI 1), .int (x3 + w8), .int w3, .int x5, .int (x6 + nI 1), .int w5]) (st' := []) (E' := E1) (I' := (u_I I1 130 (upd (I1 130) w5.toNatClampNeg (nI 1)))) (J' := J1) (S' := S1) am_e264 rfl rfl rfl rfl ?_
      refine w_st (i' := 42) (ls' := [.ref 99, .int x1, .int (x2 + nI 1), .int (x3 + w8), .int w3, .int x5, .int (x6 + nI 1), .int w5]) (st' := []) (E' := E1) (I' := (u_I I1 130 (upd (I1 130) w5.toNatClampNeg (nI 1)))) (J' := J1) (S' := S1) am_e264 rfl rfl rfl rfl ?_
      exact h
    · replace h := h.1 (Decidable.not_not.mp (of_decide_eq_false c))
      refine w_st (i' := 89) (ls' := [.ref 99, .int x1, .int x2, .int x3, .int x4, .int x5, .int x6, d7]) (st' := []) (E' := E1) (I' := I1) (J' := J1) (S' := S1) am_e264 rfl rfl rfl rfl ?_
      refine w_st (i' := 90) (ls' := [.ref 99, .int x1, .int x2, .int x3, .int x4, .int x5, .int (x6 + nI 1), d7]) (st' := []) (E' := E1) (I' := I1) (J' := J1) (S' := S1) am_e264 rfl rfl rfl rfl ?_
      refine w_st (i' := 42) (ls' := [.ref 99, .int x1, .int x2, .int x3, .int x4, .int x5, .int (x6 + nI 1), d7]) (st' := []) (E' := E1) (I' := I1) (J' := J1) (S' := S1) am_e264 rfl rfl rfl rfl ?_
      exact h
-- 270 race
theorem g270_0 {p1 : Int32} {p2 : Int32} {E : am_Ev} {I : Nat → Nat → Int32} {J : Nat → Nat → Int64} {S : Nat → Nat → Option Nat} {Q : am_Qt}  (h : (p1 < 0 → (Q (.inl (some (.int (nI 0)))) E (u_I I 99 (upd (upd (I 99) 3 (nI 0)) 3 (nI 1))) J S)) ∧ (¬ p1 < 0 → ((p2 < (nI 0) → (Q (.inl (some (.int (nI 0)))) E (u_I I 99 (upd (upd (I 99) 3 (nI 0)) 3 (nI 1))) J S)) ∧ (¬ p2 < (nI 0) → (((nI 2) < p2 → (Q (.inl (some (.int (nI 0)))) E (u_I I 99 (upd (upd (I 99) 3 (nI 0)) 3 (nI 1))) J S)) ∧ (¬ (nI 2) < p2 → (am_cl 265 [.ref 99] E (u_I I 99 (upd (I 99) 3 (nI 0))) J S (q_V fun E1 I1 J1 S1 => am_ww 270 20 [.ref 99, .int p1, .int p2, .int (nI 0), .int (nI 1), am_U] [] E1 I1 J1 S1 Q)))))))) : am_ww 270 0 [.ref 99, .int p1, .int p2, am_U, am_U, am_U] [] E I J S Q := by
  refine w_st (i' := 1) (ls' := [.ref 99, .int p1, .int p2, am_U, am_U, am_U]) (st' := [.ref 99]) (E' := E) (I' := I) (J' := J) (S' := S) am_e270 rfl rfl rfl rfl ?_
  refine w_st (i' := 2) (ls' := [.ref 99, .int p1, .int p2, am_U, am_U, am_U]) (st' := [.int (nI 0), .ref 99]) (E' := E) (I' := I) (J' := J) (S' := S) am_e270 rfl rfl rfl rfl ?_
  refine w_st (i' := 3) (ls' := [.ref 99, .int p1, .int p2, am_U, am_U, am_U]) (st' := []) (E' := E) (I' := (u_I I 99 (upd (I 99) 3 (nI 0)))) (J' := J) (S' := S) am_e270 rfl rfl rfl rfl ?_
  refine w_st (i' := 4) (ls' := [.ref 99, .int p1, .int p2, am_U, am_U, am_U]) (st' := [.int p1]) (E' := E) (I' := (u_I I 99 (upd (I 99) 3 (nI 0)))) (J' := J) (S' := S) am_e270 rfl rfl rfl rfl ?_
  refine w_if1 am_e270 rfl rfl (fun c => ?_) (fun c => ?_)
  · replace h := h.1 (of_decide_eq_true c)
    refine w_st (i' := 11) (ls' := [.ref 99, .int p1, .int p2, am_U, am_U, am_U]) (st' := [.ref 99]) (E' := E) (I' := (u_I I 99 (upd (I 99) 3 (nI 0)))) (J' := J) (S' := S) am_e270 rfl rfl rfl rfl ?_
    refine w_st (i' := 12) (ls' := [.ref 99, .int p1, .int p2, am_U, am_U, am_U]) (st' := [.int (nI 1), .ref 99]) (E' := E) (I' := (u_I I 99 (upd (I 99) 3 (nI 0)))) (J' := J) (S' := S) am_e270 rfl rfl rfl rfl ?_
    refine w_cI am_e270 rfl rfl (as := [.ref 99, .int (nI 1)]) (rest := []) rfl rfl ?_
    show am_ww 189 0 [.ref 99, .int (nI 1)] [] E (u_I I 99 (upd (I 99) 3 (nI 0))) J S _
    refine w_st (i' := 1) (ls' := [.ref 99, .int (nI 1)]) (st' := [.ref 99]) (E' := E) (I' := (u_I I 99 (upd (I 99) 3 (nI 0)))) (J' := J) (S' := S) am_e189 rfl rfl rfl rfl ?_
    refine w_st (i' := 2) (ls' := [.ref 99, .int (nI 1)]) (st' := [.int (nI 1), .ref 99]) (E' := E) (I' := (u_I I 99 (upd (I 99) 3 (nI 0)))) (J' := J) (S' := S) am_e189 rfl rfl rfl rfl ?_
    refine w_st (i' := 3) (ls' := [.ref 99, .int (nI 1)]) (st' := []) (E' := E) (I' := (u_I (u_I I 99 (upd (I 99) 3 (nI 0))) 99 (upd (upd (I 99) 3 (nI 0)) 3 (nI 1)))) (J' := J) (S' := S) am_e189 rfl rfl rfl rfl ?_
    refine w_eI (uI_0 ..) ?_
    show am_ww 189 3 [.ref 99, .int (nI 1)] [] E (u_I I 99 (upd (upd (I 99) 3 (nI 0)) 3 (nI 1))) J S _
    refine w_st (i' := 4) (ls' := [.ref 99, .int (nI 1)]) (st' := [.int (nI 0)]) (E' := E) (I' := (u_I I 99 (upd (upd (I 99) 3 (nI 0)) 3 (nI 1)))) (J' := J) (S' := S) am_e189 rfl rfl rfl rfl ?_
    refine w_end (E' := E) (I' := (u_I I 99 (upd (upd (I 99) 3 (nI 0)) 3 (nI 1)))) (J' := J) (S' := S) am_e189 rfl rfl rfl (q_mkI ?_)
    show am_ww 270 13 [.ref 99, .int p1, .int p2, am_U, am_U, am_U] [.int (nI 0)] E (u_I I 99 (upd (upd (I 99) 3 (nI 0)) 3 (nI 1))) J S _
    exact w_end am_e270 rfl rfl rfl h
  · replace h := h.2 (of_decide_eq_false c)
    refine w_st (i' := 6) (ls' := [.ref 99, .int p1, .int p2, am_U, am_U, am_U]) (st' := [.int p2]) (E' := E) (I' := (u_I I 99 (upd (I 99) 3 (nI 0)))) (J' := J) (S' := S) am_e270 rfl rfl rfl rfl ?_
    refine w_st (i' := 7) (ls' := [.ref 99, .int p1, .int p2, am_U, am_U, am_U]) (st' := [.int (nI 0), .int p2]) (E' := E) (I' := (u_I I 99 (upd (I 99) 3 (nI 0)))) (J' := J) (S' := S) am_e270 rfl rfl rfl rfl ?_
    refine w_st (i' := 8) (ls' := [.ref 99, .int p1, .int p2, am_U, am_U, am_U]) (st' := [.int (nI 2), .int (nI 0), .int p2]) (E' := E) (I' := (u_I I 99 (upd (I 99) 3 (nI 0)))) (J' := J) (S' := S) am_e270 rfl rfl rfl rfl ?_
    refine w_cI am_e270 rfl rfl (as := [.int p2, .int (nI 0), .int (nI 2)]) (rest := []) rfl rfl ?_
    show am_ww 232 0 [.int p2, .int (nI 0), .int (nI 2)] [] E (u_I I 99 (upd (I 99) 3 (nI 0))) J S _
    refine w_st (i' := 1) (ls' := [.int p2, .int (nI 0), .int (nI 2)]) (st' := [.int p2]) (E' := E) (I' := (u_I I 99 (upd (I 99) 3 (nI 0)))) (J' := J) (S' := S) am_e232 rfl rfl rfl rfl ?_
    refine w_st (i' := 2) (ls' := [.int p2, .int (nI 0), .int (nI 2)]) (st' := [.int (nI 0), .int p2]) (E' := E) (I' := (u_I I 99 (upd (I 99) 3 (nI 0)))) (J' := J) (S' := S) am_e232 rfl rfl rfl rfl ?_
    refine w_if2 am_e232 rfl rfl (fun c => ?_) (fun c => ?_)
    · replace h := h.1 (of_decide_eq_true c)
      refine w_st (i' := 9) (ls' := [.int p2, .int (nI 0), .int (nI 2)]) (st' := [.int (nI 0)]) (E' := E) (I' := (u_I I 99 (upd (I 99) 3 (nI 0)))) (J' := J) (S' := S) am_e232 rfl rfl rfl rfl ?_
      refine w_end (E' := E) (I' := (u_I I 99 (upd (I 99) 3 (nI 0)))) (J' := J) (S' := S) am_e232 rfl rfl rfl (q_mkI ?_)
      show am_ww 270 9 [.ref 99, .int p1, .int p2, am_U, am_U, am_U] [.int (nI 0)] E (u_I I 99 (upd (I 99) 3 (nI 0))) J S _
      refine w_st (i' := 10) (ls' := [.ref 99, .int p1, .int p2, am_U, am_U, am_U]) (st' := []) (E' := E) (I' := (u_I I 99 (upd (I 99) 3 (nI 0)))) (J' := J) (S' := S) am_e270 rfl rfl rfl rfl ?_
      refine w_st (i' := 11) (ls' := [.ref 99, .int p1, .int p2, am_U, am_U, am_U]) (st' := [.ref 99]) (E' := E) (I' := (u_I I 99 (upd (I 99) 3 (nI 0)))) (J' := J) (S' := S) am_e270 rfl rfl rfl rfl ?_
      refine w_st (i' := 12) (ls' := [.ref 99, .int p1, .int p2, am_U, am_U, am_U]) (st' := [.int (nI 1), .ref 99]) (E' := E) (I' := (u_I I 99 (upd (I 99) 3 (nI 0)))) (J' := J) (S' := S) am_e270 rfl rfl rfl rfl ?_
      refine w_cI am_e270 rfl rfl (as := [.ref 99, .int (nI 1)]) (rest := []) rfl rfl ?_
      show am_ww 189 0 [.ref 99, .int (nI 1)] [] E (u_I I 99 (upd (I 99) 3 (nI 0))) J S _
      refine w_st (i' := 1) (ls' := [.ref 99, .int (nI 1)]) (st' := [.ref 99]) (E' := E) (I' := (u_I I 99 (upd (I 99) 3 (nI 0)))) (J' := J) (S' := S) am_e189 rfl rfl rfl rfl ?_
      refine w_st (i' := 2) (ls' := [.ref 99, .int (nI 1)]) (st' := [.int (nI 1), .ref 99]) (E' := E) (I' := (u_I I 99 (upd (I 99) 3 (nI 0)))) (J' := J) (S' := S) am_e189 rfl rfl rfl rfl ?_
      refine w_st (i' := 3) (ls' := [.ref 99, .int (nI 1)]) (st' := []) (E' := E) (I' := (u_I (u_I I 99 (upd (I 99) 3 (nI 0))) 99 (upd (upd (I 99) 3 (nI 0)) 3 (nI 1)))) (J' := J) (S' := S) am_e189 rfl rfl rfl rfl ?_
      refine w_eI (uI_0 ..) ?_
      show am_ww 189 3 [.ref 99, .int (nI 1)] [] E (u_I I 99 (upd (upd (I 99) 3 (nI 0)) 3 (nI 1))) J S _
      refine w_st (i' := 4) (ls' := [.ref 99, .int (nI 1)]) (st' := [.int (nI 0)]) (E' := E) (I' := (u_I I 99 (upd (upd (I 99) 3 (nI 0)) 3 (nI 1)))) (J' := J) (S' := S) am_e189 rfl rfl rfl rfl ?_
      refine w_end (E' := E) (I' := (u_I I 99 (upd (upd (I 99) 3 (nI 0)) 3 (nI 1)))) (J' := J) (S' := S) am_e189 rfl rfl rfl (q_mkI ?_)
      show am_ww 270 13 [.ref 99, .int p1, .int p2, am_U, am_U, am_U] [.int (nI 0)] E (u_I I 99 (upd (upd (I 99) 3 (nI 0)) 3 (nI 1))) J S _
      exact w_end am_e270 rfl rfl rfl h
    · replace h := h.2 (of_decide_eq_false c)
      refine w_st (i' := 4) (ls' := [.int p2, .int (nI 0), .int (nI 2)]) (st' := [.int p2]) (E' := E) (I' := (u_I I 99 (upd (I 99) 3 (nI 0)))) (J' := J) (S' := S) am_e232 rfl rfl rfl rfl ?_
      refine w_st (i' := 5) (ls' := [.int p2, .int (nI 0), .int (nI 2)]) (st' := [.int (nI 2), .int p2]) (E' := E) (I' := (u_I I 99 (upd (I 99) 3 (nI 0)))) (J' := J) (S' := S) am_e232 rfl rfl rfl rfl ?_
      refine w_if2 am_e232 rfl rfl (fun c => ?_) (fun c => ?_)
      · replace h := h.1 (of_decide_eq_true c)
        refine w_st (i' := 9) (ls' := [.int p2, .int (nI 0), .int (nI 2)]) (st' := [.int (nI 0)]) (E' := E) (I' := (u_I I 99 (upd (I 99) 3 (nI 0)))) (J' := J) (S' := S) am_e232 rfl rfl rfl rfl ?_
        refine w_end (E' := E) (I' := (u_I I 99 (upd (I 99) 3 (nI 0)))) (J' := J) (S' := S) am_e232 rfl rfl rfl (q_mkI ?_)
        show am_ww 270 9 [.ref 99, .int p1, .int p2, am_U, am_U, am_U] [.int (nI 0)] E (u_I I 99 (upd (I 99) 3 (nI 0))) J S _
        refine w_st (i' := 10) (ls' := [.ref 99, .int p1, .int p2, am_U, am_U, am_U]) (st' := []) (E' := E) (I' := (u_I I 99 (upd (I 99) 3 (nI 0)))) (J' := J) (S' := S) am_e270 rfl rfl rfl rfl ?_
        refine w_st (i' := 11) (ls' := [.ref 99, .int p1, .int p2, am_U, am_U, am_U]) (st' := [.ref 99]) (E' := E) (I' := (u_I I 99 (upd (I 99) 3 (nI 0)))) (J' := J) (S' := S) am_e270 rfl rfl rfl rfl ?_
        refine w_st (i' := 12) (ls' := [.ref 99, .int p1, .int p2, am_U, am_U, am_U]) (st' := [.int (nI 1), .ref 99]) (E' := E) (I' := (u_I I 99 (upd (I 99) 3 (nI 0)))) (J' := J) (S' := S) am_e270 rfl rfl rfl rfl ?_
        refine w_cI am_e270 rfl rfl (as := [.ref 99, .int (nI 1)]) (rest := []) rfl rfl ?_
        show am_ww 189 0 [.ref 99, .int (nI 1)] [] E (u_I I 99 (upd (I 99) 3 (nI 0))) J S _
        refine w_st (i' := 1) (ls' := [.ref 99, .int (nI 1)]) (st' := [.ref 99]) (E' := E) (I' := (u_I I 99 (upd (I 99) 3 (nI 0)))) (J' := J) (S' := S) am_e189 rfl rfl rfl rfl ?_
        refine w_st (i' := 2) (ls' := [.ref 99, .int (nI 1)]) (st' := [.int (nI 1), .ref 99]) (E' := E) (I' := (u_I I 99 (upd (I 99) 3 (nI 0)))) (J' := J) (S' := S) am_e189 rfl rfl rfl rfl ?_
        refine w_st (i' := 3) (ls' := [.ref 99, .int (nI 1)]) (st' := []) (E' := E) (I' := (u_I (u_I I 99 (upd (I 99) 3 (nI 0))) 99 (upd (upd (I 99) 3 (nI 0)) 3 (nI 1)))) (J' := J) (S' := S) am_e189 rfl rfl rfl rfl ?_
        refine w_eI (uI_0 ..) ?_
        show am_ww 189 3 [.ref 99, .int (nI 1)] [] E (u_I I 99 (upd (upd (I 99) 3 (nI 0)) 3 (nI 1))) J S _
        refine w_st (i' := 4) (ls' := [.ref 99, .int (nI 1)]) (st' := [.int (nI 0)]) (E' := E) (I' := (u_I I 99 (upd (upd (I 99) 3 (nI 0)) 3 (nI 1)))) (J' := J) (S' := S) am_e189 rfl rfl rfl rfl ?_
        refine w_end (E' := E) (I' := (u_I I 99 (upd (upd (I 99) 3 (nI 0)) 3 (nI 1)))) (J' := J) (S' := S) am_e189 rfl rfl rfl (q_mkI ?_)
        show am_ww 270 13 [.ref 99, .int p1, .int p2, am_U, am_U, am_U] [.int (nI 0)] E (u_I I 99 (upd (upd (I 99) 3 (nI 0)) 3 (nI 1))) J S _
        exact w_end am_e270 rfl rfl rfl h
      · replace h := h.2 (of_decide_eq_false c)
        refine w_st (i' := 7) (ls' := [.int p2, .int (nI 0), .int (nI 2)]) (st' := [.int (nI 1)]) (E' := E) (I' := (u_I I 99 (upd (I 99) 3 (nI 0)))) (J' := J) (S' := S) am_e232 rfl rfl rfl rfl ?_
        refine w_st (i' := 9) (ls' := [.int p2, .int (nI 0), .int (nI 2)]) (st' := [.int (nI 1)]) (E' := E) (I' := (u_I I 99 (upd (I 99) 3 (nI 0)))) (J' := J) (S' := S) am_e232 rfl rfl rfl rfl ?_
        refine w_end (E' := E) (I' := (u_I I 99 (upd (I 99) 3 (nI 0)))) (J' := J) (S' := S) am_e232 rfl rfl rfl (q_mkI ?_)
        show am_ww 270 9 [.ref 99, .int p1, .int p2, am_U, am_U, am_U] [.int (nI 1)] E (u_I I 99 (upd (I 99) 3 (nI 0))) J S _
        refine w_st (i' := 14) (ls' := [.ref 99, .int p1, .int p2, am_U, am_U, am_U]) (st' := []) (E' := E) (I' := (u_I I 99 (upd (I 99) 3 (nI 0)))) (J' := J) (S' := S) am_e270 rfl rfl rfl rfl ?_
        refine w_st (i' := 15) (ls' := [.ref 99, .int p1, .int p2, am_U, am_U, am_U]) (st' := [.ref 99]) (E' := E) (I' := (u_I I 99 (upd (I 99) 3 (nI 0)))) (J' := J) (S' := S) am_e270 rfl rfl rfl rfl ?_
        refine w_cV am_e270 rfl rfl (as := [.ref 99]) (rest := []) rfl rfl (am_ww.mono h ?_)
        rintro _ E1 I1 J1 S1 ⟨rfl, h⟩
        refine q_mkV ?_
        refine w_st (i' := 17) (ls' := [.ref 99, .int p1, .int p2, am_U, am_U, am_U]) (st' := [.int (nI 0)]) (E' := E1) (I' := I1) (J' := J1) (S' := S1) am_e270 rfl rfl rfl rfl ?_
        refine w_st (i' := 18) (ls' := [.ref 99, .int p1, .int p2, .int (nI 0), am_U, am_U]) (st' := []) (E' := E1) (I' := I1) (J' := J1) (S' := S1) am_e270 rfl rfl rfl rfl ?_
        refine w_st (i' := 19) (ls' := [.ref 99, .int p1, .int p2, .int (nI 0), am_U, am_U]) (st' := [.int (nI 1)]) (E' := E1) (I' := I1) (J' := J1) (S' := S1) am_e270 rfl rfl rfl rfl ?_
        refine w_st (i' := 20) (ls' := [.ref 99, .int p1, .int p2, .int (nI 0), .int (nI 1), am_U]) (st' := []) (E' := E1) (I' := I1) (J' := J1) (S' := S1) am_e270 rfl rfl rfl rfl ?_
        exact h
theorem g270_20 {x1 : Int32} {x2 : Int32} {x3 : Int32} {x4 : Int32} {d5 : Value} {E : am_Ev} {I : Nat → Nat → Int32} {J : Nat → Nat → Int64} {S : Nat → Nat → Option Nat} {Q : am_Qt} (hd5 : am_isL d5 = false) (h : (((I 99) 12) < x4 → (Q (.inl (some (.int (nI 0)))) E (u_I I 99 (upd (I 99) 3 (nI 1))) J S)) ∧ (¬ ((I 99) 12) < x4 → (am_ww 270 26 [.ref 99, .int x1, .int x2, .int x3, .int x4, .int (nI 1)] [] E I J S Q))) : am_ww 270 20 [.ref 99, .int x1, .int x2, .int x3, .int x4, d5] [] E I J S Q := by
  refine w_st (i' := 21) (ls' := [.ref 99, .int x1, .int x2, .int x3, .int x4, d5]) (st' := [.int x4]) (E' := E) (I' := I) (J' := J) (S' := S) am_e270 rfl rfl rfl rfl ?_
  refine w_st (i' := 22) (ls' := [.ref 99, .int x1, .int x2, .int x3, .int x4, d5]) (st' := [.ref 99, .int x4]) (E' := E) (I' := I) (J' := J) (S' := S) am_e270 rfl rfl rfl rfl ?_
  refine w_st (i' := 23) (ls' := [.ref 99, .int x1, .int x2, .int x3, .int x4, d5]) (st' := [.int ((I 99) 12), .int x4]) (E' := E) (I' := I) (J' := J) (S' := S) am_e270 rfl rfl rfl rfl ?_
  refine w_if2 am_e270 rfl rfl (fun c => ?_) (fun c => ?_)
  · replace h := h.1 (of_decide_eq_true c)
    refine w_st (i' := 58) (ls' := [.ref 99, .int x1, .int x2, .int x3, .int x4, d5]) (st' := [.ref 99]) (E' := E) (I' := I) (J' := J) (S' := S) am_e270 rfl rfl rfl rfl ?_
    refine w_st (i' := 59) (ls' := [.ref 99, .int x1, .int x2, .int x3, .int x4, d5]) (st' := [.int (nI 1), .ref 99]) (E' := E) (I' := I) (J' := J) (S' := S) am_e270 rfl rfl rfl rfl ?_
    refine w_cI am_e270 rfl rfl (as := [.ref 99, .int (nI 1)]) (rest := []) rfl rfl ?_
    show am_ww 189 0 [.ref 99, .int (nI 1)] [] E I J S _
    refine w_st (i' := 1) (ls' := [.ref 99, .int (nI 1)]) (st' := [.ref 99]) (E' := E) (I' := I) (J' := J) (S' := S) am_e189 rfl rfl rfl rfl ?_
    refine w_st (i' := 2) (ls' := [.ref 99, .int (nI 1)]) (st' := [.int (nI 1), .ref 99]) (E' := E) (I' := I) (J' := J) (S' := S) am_e189 rfl rfl rfl rfl ?_
    refine w_st (i' := 3) (ls' := [.ref 99, .int (nI 1)]) (st' := []) (E' := E) (I' := (u_I I 99 (upd (I 99) 3 (nI 1)))) (J' := J) (S' := S) am_e189 rfl rfl rfl rfl ?_
    refine w_st (i' := 4) (ls' := [.ref 99, .int (nI 1)]) (st' := [.int (nI 0)]) (E' := E) (I' := (u_I I 99 (upd (I 99) 3 (nI 1)))) (J' := J) (S' := S) am_e189 rfl rfl rfl rfl ?_
    refine w_end (E' := E) (I' := (u_I I 99 (upd (I 99) 3 (nI 1)))) (J' := J) (S' := S) am_e189 rfl rfl rfl (q_mkI ?_)
    show am_ww 270 60 [.ref 99, .int x1, .int x2, .int x3, .int x4, d5] [.int (nI 0)] E (u_I I 99 (upd (I 99) 3 (nI 1))) J S _
    exact w_end am_e270 rfl rfl rfl h
  · replace h := h.2 (of_decide_eq_false c)
    refine w_st (i' := 25) (ls' := [.ref 99, .int x1, .int x2, .int x3, .int x4, d5]) (st' := [.int (nI 1)]) (E' := E) (I' := I) (J' := J) (S' := S) am_e270 rfl rfl rfl rfl ?_
    refine w_st (i' := 26) (ls' := [.ref 99, .int x1, .int x2, .int x3, .int x4, .int (nI 1)]) (st' := []) (E' := E) (I' := I) (J' := J) (S' := S) am_e270 rfl rfl rfl rfl ?_
    exact h
theorem g270_26 {x1 : Int32} {x2 : Int32} {x3 : Int32} {x4 : Int32} {x5 : Int32} {E : am_Ev} {I : Nat → Nat → Int32} {J : Nat → Nat → Int64} {S : Nat → Nat → Option Nat} {Q : am_Qt}  (h : (x4 ≤ x5 → (am_ww 270 20 [.ref 99, .int x1, .int x2, .int x3, .int (x4 + nI 1), .int x5] [] E I J S Q)) ∧ (¬ x4 ≤ x5 → (am_cl 268 [.ref 99, .int x5, .int x4] E I J S (q_I fun v1 E1 I1 J1 S1 => (v1 = 0 → (am_ww 270 26 [.ref 99, .int x1, .int x2, .int x3, .int x4, .int (x5 + nI 1)] [] E1 I1 J1 S1 Q)) ∧ (¬ v1 = 0 → ((x3 = x1 → (((x2 = 0 → (True)) ∧ (¬ x2 = 0 → ((x2 = (nI 1) → (True)) ∧ (¬ x2 = (nI 1) → (vp_in x4 401 ∧ True))))) ∧ (∀ w4 : Int32, w4 = (if x2 = 0 then x5 else (if x2 = (nI 1) then x4 else ((I1 129) x4.toNatClampNeg))) → (Q (.inl (some (.int w4))) E1 I1 J1 S1)))) ∧ (¬ x3 = x1 → (am_ww 270 26 [.ref 99, .int x1, .int x2, .int (x3 + nI 1), .int x4, .int (x5 + nI 1)] [] E1 I1 J1 S1 Q)))))))) : am_ww 270 26 [.ref 99, .int x1, .int x2, .int x3, .int x4, .int x5] [] E I J S Q := by
  refine w_st (i' := 27) (ls' := [.ref 99, .int x1, .int x2, .int x3, .int x4, .int x5]) (st' := [.int x5]) (E' := E) (I' := I) (J' := J) (S' := S) am_e270 rfl rfl rfl rfl ?_
  refine w_st (i' := 28) (ls' := [.ref 99, .int x1, .int x2, .int x3, .int x4, .int x5]) (st' := [.int x4, .int x5]) (E' := E) (I' := I) (J' := J) (S' := S) am_e270 rfl rfl rfl rfl ?_
  refine w_if2 am_e270 rfl rfl (fun c => ?_) (fun c => ?_)
  · replace h := h.1 (of_decide_eq_true c)
    refine w_st (i' := 56) (ls' := [.ref 99, .int x1, .int x2, .int x3, .int (x4 + nI 1), .int x5]) (st' := []) (E' := E) (I' := I) (J' := J) (S' := S) am_e270 rfl rfl rfl rfl ?_
    refine w_st (i' := 20) (ls' := [.ref 99, .int x1, .int x2, .int x3, .int (x4 + nI 1), .int x5]) (st' := []) (E' := E) (I' := I) (J' := J) (S' := S) am_e270 rfl rfl rfl rfl ?_
    exact h
  · replace h := h.2 (of_decide_eq_false c)
    refine w_st (i' := 30) (ls' := [.ref 99, .int x1, .int x2, .int x3, .int x4, .int x5]) (st' := [.ref 99]) (E' := E) (I' := I) (J' := J) (S' := S) am_e270 rfl rfl rfl rfl ?_
    refine w_st (i' := 31) (ls' := [.ref 99, .int x1, .int x2, .int x3, .int x4, .int x5]) (st' := [.int x5, .ref 99]) (E' := E) (I' := I) (J' := J) (S' := S) am_e270 rfl rfl rfl rfl ?_
    refine w_st (i' := 32) (ls' := [.ref 99, .int x1, .int x2, .int x3, .int x4, .int x5]) (st' := [.int x4, .int x5, .ref 99]) (E' := E) (I' := I) (J' := J) (S' := S) am_e270 rfl rfl rfl rfl ?_
    refine w_cI am_e270 rfl rfl (as := [.ref 99, .int x5, .int x4]) (rest := []) rfl rfl (am_ww.mono h ?_)
    rintro _ E1 I1 J1 S1 ⟨v1, rfl, h⟩
    refine q_mkI ?_
    refine w_if1 am_e270 rfl rfl (fun c => ?_) (fun c => ?_)
    · replace h := h.2 (of_decide_eq_true c)
      refine w_st (i' := 36) (ls' := [.ref 99, .int x1, .int x2, .int x3, .int x4, .int x5]) (st' := [.int x3]) (E' := E1) (I' := I1) (J' := J1) (S' := S1) am_e270 rfl rfl rfl rfl ?_
      refine w_st (i' := 37) (ls' := [.ref 99, .int x1, .int x2, .int x3, .int x4, .int x5]) (st' := [.int x1, .int x3]) (E' := E1) (I' := I1) (J' := J1) (S' := S1) am_e270 rfl rfl rfl rfl ?_
      refine w_if2 am_e270 rfl rfl (fun c => ?_) (fun c => ?_)
      · replace h := h.2 (of_decide_eq_true c)
        refine w_st (i' := 53) (ls' := [.ref 99, .int x1, .int x2, .int (x3 + nI 1), .int x4, .int x5]) (st' := []) (E' := E1) (I' := I1) (J' := J1) (S' := S1) am_e270 rfl rfl rfl rfl ?_
        refine w_st (i' := 54) (ls' := [.ref 99, .int x1, .int x2, .int (x3 + nI 1), .int x4, .int (x5 + nI 1)]) (st' := []) (E' := E1) (I' := I1) (J' := J1) (S' := S1) am_e270 rfl rfl rfl rfl ?_
        refine w_st (i' := 26) (ls' := [.ref 99, .int x1, .int x2, .int (x3 + nI 1), .int x4, .int (x5 + nI 1)]) (st' := []) (E' := E1) (I' := I1) (J' := J1) (S' := S1) am_e270 rfl rfl rfl rfl ?_
        exact h
      · replace h := h.1 (Decidable.not_not.mp (of_decide_eq_false c))
        refine w_st (i' := 39) (ls' := [.ref 99, .int x1, .int x2, .int x3, .int x4, .int x5]) (st' := [.int x2]) (E' := E1) (I' := I1) (J' := J1) (S' := S1) am_e270 rfl rfl rfl rfl ?_
        refine w_mg (i := 51) (ls' := [.ref 99, .int x1, .int x2, .int x3, .int x4, .int x5]) (st' := [.int (if x2 = 0 then x5 else (if x2 = (nI 1) then x4 else ((I1 129) x4.toNatClampNeg)))]) (fun hm => ?_) ?_
        · replace h := h.1
          refine w_if1 am_e270 rfl rfl (fun c => ?_) (fun c => ?_)
          · have m2 : ¬ (x2 = 0) := (of_decide_eq_true c)
            replace h := h.2 m2
            refine w_st (i' := 43) (ls' := [.ref 99, .int x1, .int x2, .int x3, .int x4, .int x5]) (st' := [.int x2]) (E' := E1) (I' := I1) (J' := J1) (S' := S1) am_e270 rfl rfl rfl rfl ?_
            refine w_st (i' := 44) (ls' := [.ref 99, .int x1, .int x2, .int x3, .int x4, .int x5]) (st' := [.int (nI 1), .int x2]) (E' := E1) (I' := I1) (J' := J1) (S' := S1) am_e270 rfl rfl rfl rfl ?_
            refine w_if2 am_e270 rfl rfl (fun c => ?_) (fun c => ?_)
            · have m3 : ¬ (x2 = (nI 1)) := (of_decide_eq_true c)
              replace h := h.2 m3
              refine w_st (i' := 48) (ls' := [.ref 99, .int x1, .int x2, .int x3, .int x4, .int x5]) (st' := [.ref 99]) (E' := E1) (I' := I1) (J' := J1) (S' := S1) am_e270 rfl rfl rfl rfl ?_
              refine w_st (i' := 49) (ls' := [.ref 99, .int x1, .int x2, .int x3, .int x4, .int x5]) (st' := [.ref 129]) (E' := E1) (I' := I1) (J' := J1) (S' := S1) am_e270 rfl rfl rfl rfl ?_
              refine w_st (i' := 50) (ls' := [.ref 99, .int x1, .int x2, .int x3, .int x4, .int x5]) (st' := [.int x4, .ref 129]) (E' := E1) (I' := I1) (J' := J1) (S' := S1) am_e270 rfl rfl rfl rfl ?_
              refine w_ia (k := 129) (n := 401) (jn := x4.toNatClampNeg) am_e270 rfl rfl (by decide) h.1 rfl ?_
              replace h := h.2
              show am_ww 270 51 [.ref 99, .int x1, .int x2, .int x3, .int x4, .int x5] [.int ((I1 129) x4.toNatClampNeg)] E1 I1 J1 S1 _
              first | exact hm | (simp only [if_neg m2, if_neg m3] at hm; exact hm)
            · have m3 : x2 = (nI 1) := (Decidable.not_not.mp (of_decide_eq_false c))
              replace h := h.1 m3
              refine w_st (i' := 46) (ls' := [.ref 99, .int x1, .int x2, .int x3, .int x4, .int x5]) (st' := [.int x4]) (E' := E1) (I' := I1) (J' := J1) (S' := S1) am_e270 rfl rfl rfl rfl ?_
              refine w_st (i' := 51) (ls' := [.ref 99, .int x1, .int x2, .int x3, .int x4, .int x5]) (st' := [.int x4]) (E' := E1) (I' := I1) (J' := J1) (S' := S1) am_e270 rfl rfl rfl rfl ?_
              first | exact hm | (simp only [if_neg m2, if_pos m3] at hm; exact hm)
          · have m2 : x2 = 0 := (Decidable.not_not.mp (of_decide_eq_false c))
            replace h := h.1 m2
            refine w_st (i' := 41) (ls' := [.ref 99, .int x1, .int x2, .int x3, .int x4, .int x5]) (st' := [.int x5]) (E' := E1) (I' := I1) (J' := J1) (S' := S1) am_e270 rfl rfl rfl rfl ?_
            refine w_st (i' := 51) (ls' := [.ref 99, .int x1, .int x2, .int x3, .int x4, .int x5]) (st' := [.int x5]) (E' := E1) (I' := I1) (J' := J1) (S' := S1) am_e270 rfl rfl rfl rfl ?_
            first | exact hm | (simp only [if_pos m2] at hm; exact hm)
        replace h := h.2
        refine w_var (fun w4 => am_ww 270 51 [.ref 99, .int x1, .int x2, .int x3, .int x4, .int x5] [.int w4] E1 I1 J1 S1 _) (if x2 = 0 then x5 else (if x2 = (nI 1) then x4 else ((I1 129) x4.toNatClampNeg))) (fun w4 hw4 => ?_)
        replace h := h w4 hw4
        exact w_ri am_e270 rfl rfl h
    · replace h := h.1 (Decidable.not_not.mp (of_decide_eq_false c))
      refine w_st (i' := 53) (ls' := [.ref 99, .int x1, .int x2, .int x3, .int x4, .int x5]) (st' := []) (E' := E1) (I' := I1) (J' := J1) (S' := S1) am_e270 rfl rfl rfl rfl ?_
      refine w_st (i' := 54) (ls' := [.ref 99, .int x1, .int x2, .int x3, .int x4, .int (x5 + nI 1)]) (st' := []) (E' := E1) (I' := I1) (J' := J1) (S' := S1) am_e270 rfl rfl rfl rfl ?_
      refine w_st (i' := 26) (ls' := [.ref 99, .int x1, .int x2, .int x3, .int x4, .int (x5 + nI 1)]) (st' := []) (E' := E1) (I' := I1) (J' := J1) (S' := S1) am_e270 rfl rfl rfl rfl ?_
      exact h
-- 271 guards
theorem g271_0 {p1 : Int32} {E : am_Ev} {I : Nat → Nat → Int32} {J : Nat → Nat → Int64} {S : Nat → Nat → Option Nat} {Q : am_Qt}  (h : (p1 < (nI 0) → (Q (.inl (some (.int (nI 0)))) E (u_I I 99 (upd (upd (I 99) 3 (nI 0)) 3 (nI 1))) J S)) ∧ (¬ p1 < (nI 0) → (((nI 15) < p1 → (Q (.inl (some (.int (nI 0)))) E (u_I I 99 (upd (upd (I 99) 3 (nI 0)) 3 (nI 1))) J S)) ∧ (¬ (nI 15) < p1 → (am_ww 271 16 [.ref 99, .int p1, .int (nI 15), .int (nI 1), am_U] [] E (u_I I 99 (upd (I 99) 3 (nI 0))) J S Q))))) : am_ww 271 0 [.ref 99, .int p1, am_U, am_U, am_U] [] E I J S Q := by
  refine w_st (i' := 1) (ls' := [.ref 99, .int p1, am_U, am_U, am_U]) (st' := [.ref 99]) (E' := E) (I' := I) (J' := J) (S' := S) am_e271 rfl rfl rfl rfl ?_
  refine w_st (i' := 2) (ls' := [.ref 99, .int p1, am_U, am_U, am_U]) (st' := [.int (nI 0), .ref 99]) (E' := E) (I' := I) (J' := J) (S' := S) am_e271 rfl rfl rfl rfl ?_
  refine w_st (i' := 3) (ls' := [.ref 99, .int p1, am_U, am_U, am_U]) (st' := []) (E' := E) (I' := (u_I I 99 (upd (I 99) 3 (nI 0)))) (J' := J) (S' := S) am_e271 rfl rfl rfl rfl ?_
  refine w_st (i' := 4) (ls' := [.ref 99, .int p1, am_U, am_U, am_U]) (st' := [.int p1]) (E' := E) (I' := (u_I I 99 (upd (I 99) 3 (nI 0)))) (J' := J) (S' := S) am_e271 rfl rfl rfl rfl ?_
  refine w_st (i' := 5) (ls' := [.ref 99, .int p1, am_U, am_U, am_U]) (st' := [.int (nI 0), .int p1]) (E' := E) (I' := (u_I I 99 (upd (I 99) 3 (nI 0)))) (J' := J) (S' := S) am_e271 rfl rfl rfl rfl ?_
  refine w_st (i' := 6) (ls' := [.ref 99, .int p1, am_U, am_U, am_U]) (st' := [.int (nI 15), .int (nI 0), .int p1]) (E' := E) (I' := (u_I I 99 (upd (I 99) 3 (nI 0)))) (J' := J) (S' := S) am_e271 rfl rfl rfl rfl ?_
  refine w_cI am_e271 rfl rfl (as := [.int p1, .int (nI 0), .int (nI 15)]) (rest := []) rfl rfl ?_
  show am_ww 232 0 [.int p1, .int (nI 0), .int (nI 15)] [] E (u_I I 99 (upd (I 99) 3 (nI 0))) J S _
  refine w_st (i' := 1) (ls' := [.int p1, .int (nI 0), .int (nI 15)]) (st' := [.int p1]) (E' := E) (I' := (u_I I 99 (upd (I 99) 3 (nI 0)))) (J' := J) (S' := S) am_e232 rfl rfl rfl rfl ?_
  refine w_st (i' := 2) (ls' := [.int p1, .int (nI 0), .int (nI 15)]) (st' := [.int (nI 0), .int p1]) (E' := E) (I' := (u_I I 99 (upd (I 99) 3 (nI 0)))) (J' := J) (S' := S) am_e232 rfl rfl rfl rfl ?_
  refine w_if2 am_e232 rfl rfl (fun c => ?_) (fun c => ?_)
  · replace h := h.1 (of_decide_eq_true c)
    refine w_st (i' := 9) (ls' := [.int p1, .int (nI 0), .int (nI 15)]) (st' := [.int (nI 0)]) (E' := E) (I' := (u_I I 99 (upd (I 99) 3 (nI 0)))) (J' := J) (S' := S) am_e232 rfl rfl rfl rfl ?_
    refine w_end (E' := E) (I' := (u_I I 99 (upd (I 99) 3 (nI 0)))) (J' := J) (S' := S) am_e232 rfl rfl rfl (q_mkI ?_)
    show am_ww 271 7 [.ref 99, .int p1, am_U, am_U, am_U] [.int (nI 0)] E (u_I I 99 (upd (I 99) 3 (nI 0))) J S _
    refine w_st (i' := 8) (ls' := [.ref 99, .int p1, am_U, am_U, am_U]) (st' := []) (E' := E) (I' := (u_I I 99 (upd (I 99) 3 (nI 0)))) (J' := J) (S' := S) am_e271 rfl rfl rfl rfl ?_
    refine w_st (i' := 9) (ls' := [.ref 99, .int p1, am_U, am_U, am_U]) (st' := [.ref 99]) (E' := E) (I' := (u_I I 99 (upd (I 99) 3 (nI 0)))) (J' := J) (S' := S) am_e271 rfl rfl rfl rfl ?_
    refine w_st (i' := 10) (ls' := [.ref 99, .int p1, am_U, am_U, am_U]) (st' := [.int (nI 1), .ref 99]) (E' := E) (I' := (u_I I 99 (upd (I 99) 3 (nI 0)))) (J' := J) (S' := S) am_e271 rfl rfl rfl rfl ?_
    refine w_cI am_e271 rfl rfl (as := [.ref 99, .int (nI 1)]) (rest := []) rfl rfl ?_
    show am_ww 189 0 [.ref 99, .int (nI 1)] [] E (u_I I 99 (upd (I 99) 3 (nI 0))) J S _
    refine w_st (i' := 1) (ls' := [.ref 99, .int (nI 1)]) (st' := [.ref 99]) (E' := E) (I' := (u_I I 99 (upd (I 99) 3 (nI 0)))) (J' := J) (S' := S) am_e189 rfl rfl rfl rfl ?_
    refine w_st (i' := 2) (ls' := [.ref 99, .int (nI 1)]) (st' := [.int (nI 1), .ref 99]) (E' := E) (I' := (u_I I 99 (upd (I 99) 3 (nI 0)))) (J' := J) (S' := S) am_e189 rfl rfl rfl rfl ?_
    refine w_st (i' := 3) (ls' := [.ref 99, .int (nI 1)]) (st' := []) (E' := E) (I' := (u_I (u_I I 99 (upd (I 99) 3 (nI 0))) 99 (upd (upd (I 99) 3 (nI 0)) 3 (nI 1)))) (J' := J) (S' := S) am_e189 rfl rfl rfl rfl ?_
    refine w_eI (uI_0 ..) ?_
    show am_ww 189 3 [.ref 99, .int (nI 1)] [] E (u_I I 99 (upd (upd (I 99) 3 (nI 0)) 3 (nI 1))) J S _
    refine w_st (i' := 4) (ls' := [.ref 99, .int (nI 1)]) (st' := [.int (nI 0)]) (E' := E) (I' := (u_I I 99 (upd (upd (I 99) 3 (nI 0)) 3 (nI 1)))) (J' := J) (S' := S) am_e189 rfl rfl rfl rfl ?_
    refine w_end (E' := E) (I' := (u_I I 99 (upd (upd (I 99) 3 (nI 0)) 3 (nI 1)))) (J' := J) (S' := S) am_e189 rfl rfl rfl (q_mkI ?_)
    show am_ww 271 11 [.ref 99, .int p1, am_U, am_U, am_U] [.int (nI 0)] E (u_I I 99 (upd (upd (I 99) 3 (nI 0)) 3 (nI 1))) J S _
    exact w_end am_e271 rfl rfl rfl h
  · replace h := h.2 (of_decide_eq_false c)
    refine w_st (i' := 4) (ls' := [.int p1, .int (nI 0), .int (nI 15)]) (st' := [.int p1]) (E' := E) (I' := (u_I I 99 (upd (I 99) 3 (nI 0)))) (J' := J) (S' := S) am_e232 rfl rfl rfl rfl ?_
    refine w_st (i' := 5) (ls' := [.int p1, .int (nI 0), .int (nI 15)]) (st' := [.int (nI 15), .int p1]) (E' := E) (I' := (u_I I 99 (upd (I 99) 3 (nI 0)))) (J' := J) (S' := S) am_e232 rfl rfl rfl rfl ?_
    refine w_if2 am_e232 rfl rfl (fun c => ?_) (fun c => ?_)
    · replace h := h.1 (of_decide_eq_true c)
      refine w_st (i' := 9) (ls' := [.int p1, .int (nI 0), .int (nI 15)]) (st' := [.int (nI 0)]) (E' := E) (I' := (u_I I 99 (upd (I 99) 3 (nI 0)))) (J' := J) (S' := S) am_e232 rfl rfl rfl rfl ?_
      refine w_end (E' := E) (I' := (u_I I 99 (upd (I 99) 3 (nI 0)))) (J' := J) (S' := S) am_e232 rfl rfl rfl (q_mkI ?_)
      show am_ww 271 7 [.ref 99, .int p1, am_U, am_U, am_U] [.int (nI 0)] E (u_I I 99 (upd (I 99) 3 (nI 0))) J S _
      refine w_st (i' := 8) (ls' := [.ref 99, .int p1, am_U, am_U, am_U]) (st' := []) (E' := E) (I' := (u_I I 99 (upd (I 99) 3 (nI 0)))) (J' := J) (S' := S) am_e271 rfl rfl rfl rfl ?_
      refine w_st (i' := 9) (ls' := [.ref 99, .int p1, am_U, am_U, am_U]) (st' := [.ref 99]) (E' := E) (I' := (u_I I 99 (upd (I 99) 3 (nI 0)))) (J' := J) (S' := S) am_e271 rfl rfl rfl rfl ?_
      refine w_st (i' := 10) (ls' := [.ref 99, .int p1, am_U, am_U, am_U]) (st' := [.int (nI 1), .ref 99]) (E' := E) (I' := (u_I I 99 (upd (I 99) 3 (nI 0)))) (J' := J) (S' := S) am_e271 rfl rfl rfl rfl ?_
      refine w_cI am_e271 rfl rfl (as := [.ref 99, .int (nI 1)]) (rest := []) rfl rfl ?_
      show am_ww 189 0 [.ref 99, .int (nI 1)] [] E (u_I I 99 (upd (I 99) 3 (nI 0))) J S _
      refine w_st (i' := 1) (ls' := [.ref 99, .int (nI 1)]) (st' := [.ref 99]) (E' := E) (I' := (u_I I 99 (upd (I 99) 3 (nI 0)))) (J' := J) (S' := S) am_e189 rfl rfl rfl rfl ?_
      refine w_st (i' := 2) (ls' := [.ref 99, .int (nI 1)]) (st' := [.int (nI 1), .ref 99]) (E' := E) (I' := (u_I I 99 (upd (I 99) 3 (nI 0)))) (J' := J) (S' := S) am_e189 rfl rfl rfl rfl ?_
      refine w_st (i' := 3) (ls' := [.ref 99, .int (nI 1)]) (st' := []) (E' := E) (I' := (u_I (u_I I 99 (upd (I 99) 3 (nI 0))) 99 (upd (upd (I 99) 3 (nI 0)) 3 (nI 1)))) (J' := J) (S' := S) am_e189 rfl rfl rfl rfl ?_
      refine w_eI (uI_0 ..) ?_
      show am_ww 189 3 [.ref 99, .int (nI 1)] [] E (u_I I 99 (upd (upd (I 99) 3 (nI 0)) 3 (nI 1))) J S _
      refine w_st (i' := 4) (ls' := [.ref 99, .int (nI 1)]) (st' := [.int (nI 0)]) (E' := E) (I' := (u_I I 99 (upd (upd (I 99) 3 (nI 0)) 3 (nI 1)))) (J' := J) (S' := S) am_e189 rfl rfl rfl rfl ?_
      refine w_end (E' := E) (I' := (u_I I 99 (upd (upd (I 99) 3 (nI 0)) 3 (nI 1)))) (J' := J) (S' := S) am_e189 rfl rfl rfl (q_mkI ?_)
      show am_ww 271 11 [.ref 99, .int p1, am_U, am_U, am_U] [.int (nI 0)] E (u_I I 99 (upd (upd (I 99) 3 (nI 0)) 3 (nI 1))) J S _
      exact w_end am_e271 rfl rfl rfl h
    · replace h := h.2 (of_decide_eq_false c)
      refine w_st (i' := 7) (ls' := [.int p1, .int (nI 0), .int (nI 15)]) (st' := [.int (nI 1)]) (E' := E) (I' := (u_I I 99 (upd (I 99) 3 (nI 0)))) (J' := J) (S' := S) am_e232 rfl rfl rfl rfl ?_
      refine w_st (i' := 9) (ls' := [.int p1, .int (nI 0), .int (nI 15)]) (st' := [.int (nI 1)]) (E' := E) (I' := (u_I I 99 (upd (I 99) 3 (nI 0)))) (J' := J) (S' := S) am_e232 rfl rfl rfl rfl ?_
      refine w_end (E' := E) (I' := (u_I I 99 (upd (I 99) 3 (nI 0)))) (J' := J) (S' := S) am_e232 rfl rfl rfl (q_mkI ?_)
      show am_ww 271 7 [.ref 99, .int p1, am_U, am_U, am_U] [.int (nI 1)] E (u_I I 99 (upd (I 99) 3 (nI 0))) J S _
      refine w_st (i' := 12) (ls' := [.ref 99, .int p1, am_U, am_U, am_U]) (st' := []) (E' := E) (I' := (u_I I 99 (upd (I 99) 3 (nI 0)))) (J' := J) (S' := S) am_e271 rfl rfl rfl rfl ?_
      refine w_st (i' := 13) (ls' := [.ref 99, .int p1, am_U, am_U, am_U]) (st' := [.int (nI 15)]) (E' := E) (I' := (u_I I 99 (upd (I 99) 3 (nI 0)))) (J' := J) (S' := S) am_e271 rfl rfl rfl rfl ?_
      refine w_st (i' := 14) (ls' := [.ref 99, .int p1, .int (nI 15), am_U, am_U]) (st' := []) (E' := E) (I' := (u_I I 99 (upd (I 99) 3 (nI 0)))) (J' := J) (S' := S) am_e271 rfl rfl rfl rfl ?_
      refine w_st (i' := 15) (ls' := [.ref 99, .int p1, .int (nI 15), am_U, am_U]) (st' := [.int (nI 1)]) (E' := E) (I' := (u_I I 99 (upd (I 99) 3 (nI 0)))) (J' := J) (S' := S) am_e271 rfl rfl rfl rfl ?_
      refine w_st (i' := 16) (ls' := [.ref 99, .int p1, .int (nI 15), .int (nI 1), am_U]) (st' := []) (E' := E) (I' := (u_I I 99 (upd (I 99) 3 (nI 0)))) (J' := J) (S' := S) am_e271 rfl rfl rfl rfl ?_
      exact h
theorem g271_16 {x1 : Int32} {x2 : Int32} {x3 : Int32} {d4 : Value} {E : am_Ev} {I : Nat → Nat → Int32} {J : Nat → Nat → Int64} {S : Nat → Nat → Option Nat} {Q : am_Qt} (hd4 : am_isL d4 = false) (h : (((I 99) 12) < x3 → (Q (.inl (some (.int x2))) E I J S)) ∧ (¬ ((I 99) 12) < x3 → (vp_in x3 401 ∧ (vp_in ((I 119) x3.toNatClampNeg) 128 ∧ ((((I 106) (((I 119) x3.toNatClampNeg).toNatClampNeg)) = (nI 1) → ((((I 108) (((I 119) x3.toNatClampNeg).toNatClampNeg)) = x1 → (am_ww 271 33 [.ref 99, .int x1, .int x2, .int x3, .int (nI 0)] [] E I J S Q)) ∧ (¬ ((I 108) (((I 119) x3.toNatClampNeg).toNatClampNeg)) = x1 → ((((I 106) (((I 119) x3.toNatClampNeg).toNatClampNeg)) = (nI 2) → ((((I 107) (((I 119) x3.toNatClampNeg).toNatClampNeg)) = x1 → (am_ww 271 33 [.ref 99, .int x1, .int x2, .int x3, .int (nI 0)] [] E I J S Q)) ∧ (¬ ((I 107) (((I 119) x3.toNatClampNeg).toNatClampNeg)) = x1 → (am_ww 271 16 [.ref 99, .int x1, .int x2, .int (x3 + nI 1), d4] [] E I J S Q)))) ∧ (¬ ((I 106) (((I 119) x3.toNatClampNeg).toNatClampNeg)) = (nI 2) → (am_ww 271 16 [.ref 99, .int x1, .int x2, .int (x3 + nI 1), d4] [] E I J S Q)))))) ∧ (¬ ((I 106) (((I 119) x3.toNatClampNeg).toNatClampNeg)) = (nI 1) → ((((I 106) (((I 119) x3.toNatClampNeg).toNatClampNeg)) = (nI 2) → ((((I 107) (((I 119) x3.toNatClampNeg).toNatClampNeg)) = x1 → (am_ww 271 33 [.ref 99, .int x1, .int x2, .int x3, .int (nI 0)] [] E I J S Q)) ∧ (¬ ((I 107) (((I 119) x3.toNatClampNeg).toNatClampNeg)) = x1 → (am_ww 271 16 [.ref 99, .int x1, .int x2, .int (x3 + nI 1), d4] [] E I J S Q)))) ∧ (¬ ((I 106) (((I 119) x3.toNatClampNeg).toNatClampNeg)) = (nI 2) → (am_ww 271 16 [.ref 99, .int x1, .int x2, .int (x3 + nI 1), d4] [] E I J S Q))))))))) : am_ww 271 16 [.ref 99, .int x1, .int x2, .int x3, d4] [] E I J S Q := by
  refine w_st (i' := 17) (ls' := [.ref 99, .int x1, .int x2, .int x3, d4]) (st' := [.int x3]) (E' := E) (I' := I) (J' := J) (S' := S) am_e271 rfl rfl rfl rfl ?_
  refine w_st (i' := 18) (ls' := [.ref 99, .int x1, .int x2, .int x3, d4]) (st' := [.ref 99, .int x3]) (E' := E) (I' := I) (J' := J) (S' := S) am_e271 rfl rfl rfl rfl ?_
  refine w_st (i' := 19) (ls' := [.ref 99, .int x1, .int x2, .int x3, d4]) (st' := [.int ((I 99) 12), .int x3]) (E' := E) (I' := I) (J' := J) (S' := S) am_e271 rfl rfl rfl rfl ?_
  refine w_if2 am_e271 rfl rfl (fun c => ?_) (fun c => ?_)
  · replace h := h.1 (of_decide_eq_true c)
    refine w_st (i' := 60) (ls' := [.ref 99, .int x1, .int x2, .int x3, d4]) (st' := [.int x2]) (E' := E) (I' := I) (J' := J) (S' := S) am_e271 rfl rfl rfl rfl ?_
    exact w_ri am_e271 rfl rfl h
  · replace h := h.2 (of_decide_eq_false c)
    refine w_st (i' := 21) (ls' := [.ref 99, .int x1, .int x2, .int x3, d4]) (st' := [.ref 99]) (E' := E) (I' := I) (J' := J) (S' := S) am_e271 rfl rfl rfl rfl ?_
    refine w_st (i' := 22) (ls' := [.ref 99, .int x1, .int x2, .int x3, d4]) (st' := [.int x3, .ref 99]) (E' := E) (I' := I) (J' := J) (S' := S) am_e271 rfl rfl rfl rfl ?_
    refine w_st (i' := 23) (ls' := [.ref 99, .int x1, .int x2, .int x3, d4]) (st' := [.int x1, .int x3, .ref 99]) (E' := E) (I' := I) (J' := J) (S' := S) am_e271 rfl rfl rfl rfl ?_
    refine w_cI am_e271 rfl rfl (as := [.ref 99, .int x3, .int x1]) (rest := []) rfl rfl ?_
    show am_ww 263 0 [.ref 99, .int x3, .int x1] [] E I J S _
    refine w_st (i' := 1) (ls' := [.ref 99, .int x3, .int x1]) (st' := [.ref 99]) (E' := E) (I' := I) (J' := J) (S' := S) am_e263 rfl rfl rfl rfl ?_
    refine w_st (i' := 2) (ls' := [.ref 99, .int x3, .int x1]) (st' := [.ref 106]) (E' := E) (I' := I) (J' := J) (S' := S) am_e263 rfl rfl rfl rfl ?_
    refine w_st (i' := 3) (ls' := [.ref 99, .int x3, .int x1]) (st' := [.ref 99, .ref 106]) (E' := E) (I' := I) (J' := J) (S' := S) am_e263 rfl rfl rfl rfl ?_
    refine w_st (i' := 4) (ls' := [.ref 99, .int x3, .int x1]) (st' := [.ref 119, .ref 106]) (E' := E) (I' := I) (J' := J) (S' := S) am_e263 rfl rfl rfl rfl ?_
    refine w_st (i' := 5) (ls' := [.ref 99, .int x3, .int x1]) (st' := [.int x3, .ref 119, .ref 106]) (E' := E) (I' := I) (J' := J) (S' := S) am_e263 rfl rfl rfl rfl ?_
    have hf1 := h.1
    replace h := h.2
    refine w_ia (k := 119) (n := 401) (jn := x3.toNatClampNeg) am_e263 rfl rfl (by decide) hf1 rfl ?_
    have hf2 := h.1
    replace h := h.2
    refine w_ia (k := 106) (n := 128) (jn := ((I 119) x3.toNatClampNeg).toNatClampNeg) am_e263 rfl rfl (by decide) hf2 rfl ?_
    refine w_st (i' := 8) (ls' := [.ref 99, .int x3, .int x1]) (st' := [.int (nI 1), .int ((I 106) (((I 119) x3.toNatClampNeg).toNatClampNeg))]) (E' := E) (I' := I) (J' := J) (S' := S) am_e263 rfl rfl rfl rfl ?_
    refine w_if2 am_e263 rfl rfl (fun c => ?_) (fun c => ?_)
    · replace h := h.2 (of_decide_eq_true c)
      refine w_st (i' := 21) (ls' := [.ref 99, .int x3, .int x1]) (st' := [.int (nI 0)]) (E' := E) (I' := I) (J' := J) (S' := S) am_e263 rfl rfl rfl rfl ?_
      refine w_end (E' := E) (I' := I) (J' := J) (S' := S) am_e263 rfl rfl rfl (q_mkI ?_)
      show am_ww 271 24 [.ref 99, .int x1, .int x2, .int x3, d4] [.int (nI 0)] E I J S _
      refine w_st (i' := 25) (ls' := [.ref 99, .int x1, .int x2, .int x3, d4]) (st' := []) (E' := E) (I' := I) (J' := J) (S' := S) am_e271 rfl rfl rfl rfl ?_
      refine w_st (i' := 26) (ls' := [.ref 99, .int x1, .int x2, .int x3, d4]) (st' := [.ref 99]) (E' := E) (I' := I) (J' := J) (S' := S) am_e271 rfl rfl rfl rfl ?_
      refine w_st (i' := 27) (ls' := [.ref 99, .int x1, .int x2, .int x3, d4]) (st' := [.int x3, .ref 99]) (E' := E) (I' := I) (J' := J) (S' := S) am_e271 rfl rfl rfl rfl ?_
      refine w_st (i' := 28) (ls' := [.ref 99, .int x1, .int x2, .int x3, d4]) (st' := [.int x1, .int x3, .ref 99]) (E' := E) (I' := I) (J' := J) (S' := S) am_e271 rfl rfl rfl rfl ?_
      refine w_cI am_e271 rfl rfl (as := [.ref 99, .int x3, .int x1]) (rest := []) rfl rfl ?_
      show am_ww 260 0 [.ref 99, .int x3, .int x1] [] E I J S _
      refine w_st (i' := 1) (ls' := [.ref 99, .int x3, .int x1]) (st' := [.ref 99]) (E' := E) (I' := I) (J' := J) (S' := S) am_e260 rfl rfl rfl rfl ?_
      refine w_st (i' := 2) (ls' := [.ref 99, .int x3, .int x1]) (st' := [.ref 106]) (E' := E) (I' := I) (J' := J) (S' := S) am_e260 rfl rfl rfl rfl ?_
      refine w_st (i' := 3) (ls' := [.ref 99, .int x3, .int x1]) (st' := [.ref 99, .ref 106]) (E' := E) (I' := I) (J' := J) (S' := S) am_e260 rfl rfl rfl rfl ?_
      refine w_st (i' := 4) (ls' := [.ref 99, .int x3, .int x1]) (st' := [.ref 119, .ref 106]) (E' := E) (I' := I) (J' := J) (S' := S) am_e260 rfl rfl rfl rfl ?_
      refine w_st (i' := 5) (ls' := [.ref 99, .int x3, .int x1]) (st' := [.int x3, .ref 119, .ref 106]) (E' := E) (I' := I) (J' := J) (S' := S) am_e260 rfl rfl rfl rfl ?_
      refine w_ia (k := 119) (n := 401) (jn := x3.toNatClampNeg) am_e260 rfl rfl (by decide) hf1 rfl ?_
      refine w_ia (k := 106) (n := 128) (jn := ((I 119) x3.toNatClampNeg).toNatClampNeg) am_e260 rfl rfl (by decide) hf2 rfl ?_
      refine w_st (i' := 8) (ls' := [.ref 99, .int x3, .int x1]) (st' := [.int (nI 2), .int ((I 106) (((I 119) x3.toNatClampNeg).toNatClampNeg))]) (E' := E) (I' := I) (J' := J) (S' := S) am_e260 rfl rfl rfl rfl ?_
      refine w_if2 am_e260 rfl rfl (fun c => ?_) (fun c => ?_)
      · replace h := h.2 (of_decide_eq_true c)
        refine w_st (i' := 21) (ls' := [.ref 99, .int x3, .int x1]) (st' := [.int (nI 0)]) (E' := E) (I' := I) (J' := J) (S' := S) am_e260 rfl rfl rfl rfl ?_
        refine w_end (E' := E) (I' := I) (J' := J) (S' := S) am_e260 rfl rfl rfl (q_mkI ?_)
        show am_ww 271 29 [.ref 99, .int x1, .int x2, .int x3, d4] [.int (nI 0)] E I J S _
        refine w_st (i' := 30) (ls' := [.ref 99, .int x1, .int x2, .int x3, d4]) (st' := []) (E' := E) (I' := I) (J' := J) (S' := S) am_e271 rfl rfl rfl rfl ?_
        refine w_st (i' := 57) (ls' := [.ref 99, .int x1, .int x2, .int x3, d4]) (st' := []) (E' := E) (I' := I) (J' := J) (S' := S) am_e271 rfl rfl rfl rfl ?_
        refine w_st (i' := 58) (ls' := [.ref 99, .int x1, .int x2, .int (x3 + nI 1), d4]) (st' := []) (E' := E) (I' := I) (J' := J) (S' := S) am_e271 rfl rfl rfl rfl ?_
        refine w_st (i' := 16) (ls' := [.ref 99, .int x1, .int x2, .int (x3 + nI 1), d4]) (st' := []) (E' := E) (I' := I) (J' := J) (S' := S) am_e271 rfl rfl rfl rfl ?_
        exact h
      · replace h := h.1 (Decidable.not_not.mp (of_decide_eq_false c))
        refine w_st (i' := 10) (ls' := [.ref 99, .int x3, .int x1]) (st' := [.ref 99]) (E' := E) (I' := I) (J' := J) (S' := S) am_e260 rfl rfl rfl rfl ?_
        refine w_st (i' := 11) (ls' := [.ref 99, .int x3, .int x1]) (st' := [.ref 107]) (E' := E) (I' := I) (J' := J) (S' := S) am_e260 rfl rfl rfl rfl ?_
        refine w_st (i' := 12) (ls' := [.ref 99, .int x3, .int x1]) (st' := [.ref 99, .ref 107]) (E' := E) (I' := I) (J' := J) (S' := S) am_e260 rfl rfl rfl rfl ?_
        refine w_st (i' := 13) (ls' := [.ref 99, .int x3, .int x1]) (st' := [.ref 119, .ref 107]) (E' := E) (I' := I) (J' := J) (S' := S) am_e260 rfl rfl rfl rfl ?_
        refine w_st (i' := 14) (ls' := [.ref 99, .int x3, .int x1]) (st' := [.int x3, .ref 119, .ref 107]) (E' := E) (I' := I) (J' := J) (S' := S) am_e260 rfl rfl rfl rfl ?_
        refine w_ia (k := 119) (n := 401) (jn := x3.toNatClampNeg) am_e260 rfl rfl (by decide) hf1 rfl ?_
        refine w_ia (k := 107) (n := 128) (jn := ((I 119) x3.toNatClampNeg).toNatClampNeg) am_e260 rfl rfl (by decide) hf2 rfl ?_
        refine w_st (i' := 17) (ls' := [.ref 99, .int x3, .int x1]) (st' := [.int x1, .int ((I 107) (((I 119) x3.toNatClampNeg).toNatClampNeg))]) (E' := E) (I' := I) (J' := J) (S' := S) am_e260 rfl rfl rfl rfl ?_
        refine w_if2 am_e260 rfl rfl (fun c => ?_) (fun c => ?_)
        · replace h := h.2 (of_decide_eq_true c)
          refine w_st (i' := 21) (ls' := [.ref 99, .int x3, .int x1]) (st' := [.int (nI 0)]) (E' := E) (I' := I) (J' := J) (S' := S) am_e260 rfl rfl rfl rfl ?_
          refine w_end (E' := E) (I' := I) (J' := J) (S' := S) am_e260 rfl rfl rfl (q_mkI ?_)
          show am_ww 271 29 [.ref 99, .int x1, .int x2, .int x3, d4] [.int (nI 0)] E I J S _
          refine w_st (i' := 30) (ls' := [.ref 99, .int x1, .int x2, .int x3, d4]) (st' := []) (E' := E) (I' := I) (J' := J) (S' := S) am_e271 rfl rfl rfl rfl ?_
          refine w_st (i' := 57) (ls' := [.ref 99, .int x1, .int x2, .int x3, d4]) (st' := []) (E' := E) (I' := I) (J' := J) (S' := S) am_e271 rfl rfl rfl rfl ?_
          refine w_st (i' := 58) (ls' := [.ref 99, .int x1, .int x2, .int (x3 + nI 1), d4]) (st' := []) (E' := E) (I' := I) (J' := J) (S' := S) am_e271 rfl rfl rfl rfl ?_
          refine w_st (i' := 16) (ls' := [.ref 99, .int x1, .int x2, .int (x3 + nI 1), d4]) (st' := []) (E' := E) (I' := I) (J' := J) (S' := S) am_e271 rfl rfl rfl rfl ?_
          exact h
        · replace h := h.1 (Decidable.not_not.mp (of_decide_eq_false c))
          refine w_st (i' := 19) (ls' := [.ref 99, .int x3, .int x1]) (st' := [.int (nI 1)]) (E' := E) (I' := I) (J' := J) (S' := S) am_e260 rfl rfl rfl rfl ?_
          refine w_st (i' := 21) (ls' := [.ref 99, .int x3, .int x1]) (st' := [.int (nI 1)]) (E' := E) (I' := I) (J' := J) (S' := S) am_e260 rfl rfl rfl rfl ?_
          refine w_end (E' := E) (I' := I) (J' := J) (S' := S) am_e260 rfl rfl rfl (q_mkI ?_)
          show am_ww 271 29 [.ref 99, .int x1, .int x2, .int x3, d4] [.int (nI 1)] E I J S _
          refine w_st (i' := 31) (ls' := [.ref 99, .int x1, .int x2, .int x3, d4]) (st' := []) (E' := E) (I' := I) (J' := J) (S' := S) am_e271 rfl rfl rfl rfl ?_
          refine w_st (i' := 32) (ls' := [.ref 99, .int x1, .int x2, .int x3, d4]) (st' := [.int (nI 0)]) (E' := E) (I' := I) (J' := J) (S' := S) am_e271 rfl rfl rfl rfl ?_
          refine w_st (i' := 33) (ls' := [.ref 99, .int x1, .int x2, .int x3, .int (nI 0)]) (st' := []) (E' := E) (I' := I) (J' := J) (S' := S) am_e271 rfl rfl rfl rfl ?_
          exact h
    · replace h := h.1 (Decidable.not_not.mp (of_decide_eq_false c))
      refine w_st (i' := 10) (ls' := [.ref 99, .int x3, .int x1]) (st' := [.ref 99]) (E' := E) (I' := I) (J' := J) (S' := S) am_e263 rfl rfl rfl rfl ?_
      refine w_st (i' := 11) (ls' := [.ref 99, .int x3, .int x1]) (st' := [.ref 108]) (E' := E) (I' := I) (J' := J) (S' := S) am_e263 rfl rfl rfl rfl ?_
      refine w_st (i' := 12) (ls' := [.ref 99, .int x3, .int x1]) (st' := [.ref 99, .ref 108]) (E' := E) (I' := I) (J' := J) (S' := S) am_e263 rfl rfl rfl rfl ?_
      refine w_st (i' := 13) (ls' := [.ref 99, .int x3, .int x1]) (st' := [.ref 119, .ref 108]) (E' := E) (I' := I) (J' := J) (S' := S) am_e263 rfl rfl rfl rfl ?_
      refine w_st (i' := 14) (ls' := [.ref 99, .int x3, .int x1]) (st' := [.int x3, .ref 119, .ref 108]) (E' := E) (I' := I) (J' := J) (S' := S) am_e263 rfl rfl rfl rfl ?_
      refine w_ia (k := 119) (n := 401) (jn := x3.toNatClampNeg) am_e263 rfl rfl (by decide) hf1 rfl ?_
      refine w_ia (k := 108) (n := 128) (jn := ((I 119) x3.toNatClampNeg).toNatClampNeg) am_e263 rfl rfl (by decide) hf2 rfl ?_
      refine w_st (i' := 17) (ls' := [.ref 99, .int x3, .int x1]) (st' := [.int x1, .int ((I 108) (((I 119) x3.toNatClampNeg).toNatClampNeg))]) (E' := E) (I' := I) (J' := J) (S' := S) am_e263 rfl rfl rfl rfl ?_
      refine w_if2 am_e263 rfl rfl (fun c => ?_) (fun c => ?_)
      · replace h := h.2 (of_decide_eq_true c)
        refine w_st (i' := 21) (ls' := [.ref 99, .int x3, .int x1]) (st' := [.int (nI 0)]) (E' := E) (I' := I) (J' := J) (S' := S) am_e263 rfl rfl rfl rfl ?_
        refine w_end (E' := E) (I' := I) (J' := J) (S' := S) am_e263 rfl rfl rfl (q_mkI ?_)
        show am_ww 271 24 [.ref 99, .int x1, .int x2, .int x3, d4] [.int (nI 0)] E I J S _
        refine w_st (i' := 25) (ls' := [.ref 99, .int x1, .int x2, .int x3, d4]) (st' := []) (E' := E) (I' := I) (J' := J) (S' := S) am_e271 rfl rfl rfl rfl ?_
        refine w_st (i' := 26) (ls' := [.ref 99, .int x1, .int x2, .int x3, d4]) (st' := [.ref 99]) (E' := E) (I' := I) (J' := J) (S' := S) am_e271 rfl rfl rfl rfl ?_
        refine w_st (i' := 27) (ls' := [.ref 99, .int x1, .int x2, .int x3, d4]) (st' := [.int x3, .ref 99]) (E' := E) (I' := I) (J' := J) (S' := S) am_e271 rfl rfl rfl rfl ?_
        refine w_st (i' := 28) (ls' := [.ref 99, .int x1, .int x2, .int x3, d4]) (st' := [.int x1, .int x3, .ref 99]) (E' := E) (I' := I) (J' := J) (S' := S) am_e271 rfl rfl rfl rfl ?_
        refine w_cI am_e271 rfl rfl (as := [.ref 99, .int x3, .int x1]) (rest := []) rfl rfl ?_
        show am_ww 260 0 [.ref 99, .int x3, .int x1] [] E I J S _
        refine w_st (i' := 1) (ls' := [.ref 99, .int x3, .int x1]) (st' := [.ref 99]) (E' := E) (I' := I) (J' := J) (S' := S) am_e260 rfl rfl rfl rfl ?_
        refine w_st (i' := 2) (ls' := [.ref 99, .int x3, .int x1]) (st' := [.ref 106]) (E' := E) (I' := I) (J' := J) (S' := S) am_e260 rfl rfl rfl rfl ?_
        refine w_st (i' := 3) (ls' := [.ref 99, .int x3, .int x1]) (st' := [.ref 99, .ref 106]) (E' := E) (I' := I) (J' := J) (S' := S) am_e260 rfl rfl rfl rfl ?_
        refine w_st (i' := 4) (ls' := [.ref 99, .int x3, .int x1]) (st' := [.ref 119, .ref 106]) (E' := E) (I' := I) (J' := J) (S' := S) am_e260 rfl rfl rfl rfl ?_
        refine w_st (i' := 5) (ls' := [.ref 99, .int x3, .int x1]) (st' := [.int x3, .ref 119, .ref 106]) (E' := E) (I' := I) (J' := J) (S' := S) am_e260 rfl rfl rfl rfl ?_
        refine w_ia (k := 119) (n := 401) (jn := x3.toNatClampNeg) am_e260 rfl rfl (by decide) hf1 rfl ?_
        refine w_ia (k := 106) (n := 128) (jn := ((I 119) x3.toNatClampNeg).toNatClampNeg) am_e260 rfl rfl (by decide) hf2 rfl ?_
        refine w_st (i' := 8) (ls' := [.ref 99, .int x3, .int x1]) (st' := [.int (nI 2), .int ((I 106) (((I 119) x3.toNatClampNeg).toNatClampNeg))]) (E' := E) (I' := I) (J' := J) (S' := S) am_e260 rfl rfl rfl rfl ?_
        refine w_if2 am_e260 rfl rfl (fun c => ?_) (fun c => ?_)
        · replace h := h.2 (of_decide_eq_true c)
          refine w_st (i' := 21) (ls' := [.ref 99, .int x3, .int x1]) (st' := [.int (nI 0)]) (E' := E) (I' := I) (J' := J) (S' := S) am_e260 rfl rfl rfl rfl ?_
          refine w_end (E' := E) (I' := I) (J' := J) (S' := S) am_e260 rfl rfl rfl (q_mkI ?_)
          show am_ww 271 29 [.ref 99, .int x1, .int x2, .int x3, d4] [.int (nI 0)] E I J S _
          refine w_st (i' := 30) (ls' := [.ref 99, .int x1, .int x2, .int x3, d4]) (st' := []) (E' := E) (I' := I) (J' := J) (S' := S) am_e271 rfl rfl rfl rfl ?_
          refine w_st (i' := 57) (ls' := [.ref 99, .int x1, .int x2, .int x3, d4]) (st' := []) (E' := E) (I' := I) (J' := J) (S' := S) am_e271 rfl rfl rfl rfl ?_
          refine w_st (i' := 58) (ls' := [.ref 99, .int x1, .int x2, .int (x3 + nI 1), d4]) (st' := []) (E' := E) (I' := I) (J' := J) (S' := S) am_e271 rfl rfl rfl rfl ?_
          refine w_st (i' := 16) (ls' := [.ref 99, .int x1, .int x2, .int (x3 + nI 1), d4]) (st' := []) (E' := E) (I' := I) (J' := J) (S' := S) am_e271 rfl rfl rfl rfl ?_
          exact h
        · replace h := h.1 (Decidable.not_not.mp (of_decide_eq_false c))
          refine w_st (i' := 10) (ls' := [.ref 99, .int x3, .int x1]) (st' := [.ref 99]) (E' := E) (I' := I) (J' := J) (S' := S) am_e260 rfl rfl rfl rfl ?_
          refine w_st (i' := 11) (ls' := [.ref 99, .int x3, .int x1]) (st' := [.ref 107]) (E' := E) (I' := I) (J' := J) (S' := S) am_e260 rfl rfl rfl rfl ?_
          refine w_st (i' := 12) (ls' := [.ref 99, .int x3, .int x1]) (st' := [.ref 99, .ref 107]) (E' := E) (I' := I) (J' := J) (S' := S) am_e260 rfl rfl rfl rfl ?_
          refine w_st (i' := 13) (ls' := [.ref 99, .int x3, .int x1]) (st' := [.ref 119, .ref 107]) (E' := E) (I' := I) (J' := J) (S' := S) am_e260 rfl rfl rfl rfl ?_
          refine w_st (i' := 14) (ls' := [.ref 99, .int x3, .int x1]) (st' := [.int x3, .ref 119, .ref 107]) (E' := E) (I' := I) (J' := J) (S' := S) am_e260 rfl rfl rfl rfl ?_
          refine w_ia (k := 119) (n := 401) (jn := x3.toNatClampNeg) am_e260 rfl rfl (by decide) hf1 rfl ?_
          refine w_ia (k := 107) (n := 128) (jn := ((I 119) x3.toNatClampNeg).toNatClampNeg) am_e260 rfl rfl (by decide) hf2 rfl ?_
          refine w_st (i' := 17) (ls' := [.ref 99, .int x3, .int x1]) (st' := [.int x1, .int ((I 107) (((I 119) x3.toNatClampNeg).toNatClampNeg))]) (E' := E) (I' := I) (J' := J) (S' := S) am_e260 rfl rfl rfl rfl ?_
          refine w_if2 am_e260 rfl rfl (fun c => ?_) (fun c => ?_)
          · replace h := h.2 (of_decide_eq_true c)
            refine w_st (i' := 21) (ls' := [.ref 99, .int x3, .int x1]) (st' := [.int (nI 0)]) (E' := E) (I' := I) (J' := J) (S' := S) am_e260 rfl rfl rfl rfl ?_
            refine w_end (E' := E) (I' := I) (J' := J) (S' := S) am_e260 rfl rfl rfl (q_mkI ?_)
            show am_ww 271 29 [.ref 99, .int x1, .int x2, .int x3, d4] [.int (nI 0)] E I J S _
            refine w_st (i' := 30) (ls' := [.ref 99, .int x1, .int x2, .int x3, d4]) (st' := []) (E' := E) (I' := I) (J' := J) (S' := S) am_e271 rfl rfl rfl rfl ?_
            refine w_st (i' := 57) (ls' := [.ref 99, .int x1, .int x2, .int x3, d4]) (st' := []) (E' := E) (I' := I) (J' := J) (S' := S) am_e271 rfl rfl rfl rfl ?_
            refine w_st (i' := 58) (ls' := [.ref 99, .int x1, .int x2, .int (x3 + nI 1), d4]) (st' := []) (E' := E) (I' := I) (J' := J) (S' := S) am_e271 rfl rfl rfl rfl ?_
            refine w_st (i' := 16) (ls' := [.ref 99, .int x1, .int x2, .int (x3 + nI 1), d4]) (st' := []) (E' := E) (I' := I) (J' := J) (S' := S) am_e271 rfl rfl rfl rfl ?_
            exact h
          · replace h := h.1 (Decidable.not_not.mp (of_decide_eq_false c))
            refine w_st (i' := 19) (ls' := [.ref 99, .int x3, .int x1]) (st' := [.int (nI 1)]) (E' := E) (I' := I) (J' := J) (S' := S) am_e260 rfl rfl rfl rfl ?_
            refine w_st (i' := 21) (ls' := [.ref 99, .int x3, .int x1]) (st' := [.int (nI 1)]) (E' := E) (I' := I) (J' := J) (S' := S) am_e260 rfl rfl rfl rfl ?_
            refine w_end (E' := E) (I' := I) (J' := J) (S' := S) am_e260 rfl rfl rfl (q_mkI ?_)
            show am_ww 271 29 [.ref 99, .int x1, .int x2, .int x3, d4] [.int (nI 1)] E I J S _
            refine w_st (i' := 31) (ls' := [.ref 99, .int x1, .int x2, .int x3, d4]) (st' := []) (E' := E) (I' := I) (J' := J) (S' := S) am_e271 rfl rfl rfl rfl ?_
            refine w_st (i' := 32) (ls' := [.ref 99, .int x1, .int x2, .int x3, d4]) (st' := [.int (nI 0)]) (E' := E) (I' := I) (J' := J) (S' := S) am_e271 rfl rfl rfl rfl ?_
            refine w_st (i' := 33) (ls' := [.ref 99, .int x1, .int x2, .int x3, .int (nI 0)]) (st' := []) (E' := E) (I' := I) (J' := J) (S' := S) am_e271 rfl rfl rfl rfl ?_
            exact h
      · replace h := h.1 (Decidable.not_not.mp (of_decide_eq_false c))
        refine w_st (i' := 19) (ls' := [.ref 99, .int x3, .int x1]) (st' := [.int (nI 1)]) (E' := E) (I' := I) (J' := J) (S' := S) am_e263 rfl rfl rfl rfl ?_
        refine w_st (i' := 21) (ls' := [.ref 99, .int x3, .int x1]) (st' := [.int (nI 1)]) (E' := E) (I' := I) (J' := J) (S' := S) am_e263 rfl rfl rfl rfl ?_
        refine w_end (E' := E) (I' := I) (J' := J) (S' := S) am_e263 rfl rfl rfl (q_mkI ?_)
        show am_ww 271 24 [.ref 99, .int x1, .int x2, .int x3, d4] [.int (nI 1)] E I J S _
        refine w_st (i' := 31) (ls' := [.ref 99, .int x1, .int x2, .int x3, d4]) (st' := []) (E' := E) (I' := I) (J' := J) (S' := S) am_e271 rfl rfl rfl rfl ?_
        refine w_st (i' := 32) (ls' := [.ref 99, .int x1, .int x2, .int x3, d4]) (st' := [.int (nI 0)]) (E' := E) (I' := I) (J' := J) (S' := S) am_e271 rfl rfl rfl rfl ?_
        refine w_st (i' := 33) (ls' := [.ref 99, .int x1, .int x2, .int x3, .int (nI 0)]) (st' := []) (E' := E) (I' := I) (J' := J) (S' := S) am_e271 rfl rfl rfl rfl ?_
        exact h
theorem g271_33 {x1 : Int32} {x2 : Int32} {x3 : Int32} {x4 : Int32} {E : am_Ev} {I : Nat → Nat → Int32} {J : Nat → Nat → Int64} {S : Nat → Nat → Option Nat} {Q : am_Qt}  (h : ((nI 4) ≤ x4 → (am_ww 271 16 [.ref 99, .int x1, .int x2, .int (x3 + nI 1), .int x4] [] E I J S Q)) ∧ (¬ (nI 4) ≤ x4 → (vp_in (((nI 51) * x3) + ((nI 40) + x4)) 20451 ∧ (∀ w2 : Int32, w2 = ((I 117) ((((nI 51) * x3) + ((nI 40) + x4)).toNatClampNeg)) → (vp_in x3 401 ∧ (∀ w5 : Int32, w5 = (if w2 = ((I 118) x3.toNatClampNeg) then x2 else (x2 &&& (((nI 1) <<< (x4 &&& 31)) ^^^ (-1)))) → (am_ww 271 33 [.ref 99, .int x1, .int w5, .int x3, .int (x4 + nI 1)] [] E I J S Q))))))) : am_ww 271 33 [.ref 99, .int x1, .int x2, .int x3, .int x4] [] E I J S Q := by
  refine w_st (i' := 34) (ls' := [.ref 99, .int x1, .int x2, .int x3, .int x4]) (st' := [.int x4]) (E' := E) (I' := I) (J' := J) (S' := S) am_e271 rfl rfl rfl rfl ?_
  refine w_st (i' := 35) (ls' := [.ref 99, .int x1, .int x2, .int x3, .int x4]) (st' := [.int (nI 4), .int x4]) (E' := E) (I' := I) (J' := J) (S' := S) am_e271 rfl rfl rfl rfl ?_
  refine w_if2 am_e271 rfl rfl (fun c => ?_) (fun c => ?_)
  · replace h := h.1 (of_decide_eq_true c)
    refine w_st (i' := 58) (ls' := [.ref 99, .int x1, .int x2, .int (x3 + nI 1), .int x4]) (st' := []) (E' := E) (I' := I) (J' := J) (S' := S) am_e271 rfl rfl rfl rfl ?_
    refine w_st (i' := 16) (ls' := [.ref 99, .int x1, .int x2, .int (x3 + nI 1), .int x4]) (st' := []) (E' := E) (I' := I) (J' := J) (S' := S) am_e271 rfl rfl rfl rfl ?_
    exact h
  · replace h := h.2 (of_decide_eq_false c)
    refine w_st (i' := 37) (ls' := [.ref 99, .int x1, .int x2, .int x3, .int x4]) (st' := [.ref 99]) (E' := E) (I' := I) (J' := J) (S' := S) am_e271 rfl rfl rfl rfl ?_
    refine w_st (i' := 38) (ls' := [.ref 99, .int x1, .int x2, .int x3, .int x4]) (st' := [.int x3, .ref 99]) (E' := E) (I' := I) (J' := J) (S' := S) am_e271 rfl rfl rfl rfl ?_
    refine w_st (i' := 39) (ls' := [.ref 99, .int x1, .int x2, .int x3, .int x4]) (st' := [.int (nI 40), .int x3, .ref 99]) (E' := E) (I' := I) (J' := J) (S' := S) am_e271 rfl rfl rfl rfl ?_
    refine w_st (i' := 40) (ls' := [.ref 99, .int x1, .int x2, .int x3, .int x4]) (st' := [.int x4, .int (nI 40), .int x3, .ref 99]) (E' := E) (I' := I) (J' := J) (S' := S) am_e271 rfl rfl rfl rfl ?_
    refine w_st (i' := 41) (ls' := [.ref 99, .int x1, .int x2, .int x3, .int x4]) (st' := [.int ((nI 40) + x4), .int x3, .ref 99]) (E' := E) (I' := I) (J' := J) (S' := S) am_e271 rfl rfl rfl rfl ?_
    refine w_cI am_e271 rfl rfl (as := [.ref 99, .int x3, .int ((nI 40) + x4)]) (rest := []) rfl rfl ?_
    show am_ww 245 0 [.ref 99, .int x3, .int ((nI 40) + x4)] [] E I J S _
    refine w_st (i' := 1) (ls' := [.ref 99, .int x3, .int ((nI 40) + x4)]) (st' := [.ref 99]) (E' := E) (I' := I) (J' := J) (S' := S) am_e245 rfl rfl rfl rfl ?_
    refine w_st (i' := 2) (ls' := [.ref 99, .int x3, .int ((nI 40) + x4)]) (st' := [.ref 117]) (E' := E) (I' := I) (J' := J) (S' := S) am_e245 rfl rfl rfl rfl ?_
    refine w_st (i' := 3) (ls' := [.ref 99, .int x3, .int ((nI 40) + x4)]) (st' := [.int (nI 51), .ref 117]) (E' := E) (I' := I) (J' := J) (S' := S) am_e245 rfl rfl rfl rfl ?_
    refine w_st (i' := 4) (ls' := [.ref 99, .int x3, .int ((nI 40) + x4)]) (st' := [.int x3, .int (nI 51), .ref 117]) (E' := E) (I' := I) (J' := J) (S' := S) am_e245 rfl rfl rfl rfl ?_
    refine w_st (i' := 5) (ls' := [.ref 99, .int x3, .int ((nI 40) + x4)]) (st' := [.int ((nI 51) * x3), .ref 117]) (E' := E) (I' := I) (J' := J) (S' := S) am_e245 rfl rfl rfl rfl ?_
    refine w_st (i' := 6) (ls' := [.ref 99, .int x3, .int ((nI 40) + x4)]) (st' := [.int ((nI 40) + x4), .int ((nI 51) * x3), .ref 117]) (E' := E) (I' := I) (J' := J) (S' := S) am_e245 rfl rfl rfl rfl ?_
    refine w_st (i' := 7) (ls' := [.ref 99, .int x3, .int ((nI 40) + x4)]) (st' := [.int (((nI 51) * x3) + ((nI 40) + x4)), .ref 117]) (E' := E) (I' := I) (J' := J) (S' := S) am_e245 rfl rfl rfl rfl ?_
    have hf1 := h.1
    replace h := h.2
    refine w_ia (k := 117) (n := 20451) (jn := (((nI 51) * x3) + ((nI 40) + x4)).toNatClampNeg) am_e245 rfl rfl (by decide) hf1 rfl ?_
    refine w_ri am_e245 rfl rfl (q_mkI ?_)
    show am_ww 271 42 [.ref 99, .int x1, .int x2, .int x3, .int x4] [.int ((I 117) ((((nI 51) * x3) + ((nI 40) + x4)).toNatClampNeg))] E I J S _
    refine w_var (fun w2 => am_ww 271 42 [.ref 99, .int x1, .int x2, .int x3, .int x4] [.int w2] E I J S _) ((I 117) ((((nI 51) * x3) + ((nI 40) + x4)).toNatClampNeg)) (fun w2 hw2 => ?_)
    replace h := h w2 hw2
    refine w_st (i' := 43) (ls' := [.ref 99, .int x1, .int x2, .int x3, .int x4]) (st' := [.ref 99, .int w2]) (E' := E) (I' := I) (J' := J) (S' := S) am_e271 rfl rfl rfl rfl ?_
    refine w_st (i' := 44) (ls' := [.ref 99, .int x1, .int x2, .int x3, .int x4]) (st' := [.ref 118, .int w2]) (E' := E) (I' := I) (J' := J) (S' := S) am_e271 rfl rfl rfl rfl ?_
    refine w_st (i' := 45) (ls' := [.ref 99, .int x1, .int x2, .int x3, .int x4]) (st' := [.int x3, .ref 118, .int w2]) (E' := E) (I' := I) (J' := J) (S' := S) am_e271 rfl rfl rfl rfl ?_
    have hf3 := h.1
    replace h := h.2
    refine w_ia (k := 118) (n := 401) (jn := x3.toNatClampNeg) am_e271 rfl rfl (by decide) hf3 rfl ?_
    refine w_mg (i := 55) (ls' := [.ref 99, .int x1, .int (if w2 = ((I 118) x3.toNatClampNeg) then x2 else (x2 &&& (((nI 1) <<< (x4 &&& 31)) ^^^ (-1)))), .int x3, .int x4]) (st' := []) (fun hm => ?_) ?_
    · clear h
      refine w_if2 am_e271 rfl rfl (fun c => ?_) (fun c => ?_)
      · have m4 : w2 = ((I 118) x3.toNatClampNeg) := (of_decide_eq_true c)
        first | exact hm | (simp only [if_pos m4] at hm; exact hm)
      · have m4 : ¬ (w2 = ((I 118) x3.toNatClampNeg)) := (of_decide_eq_false c)
        refine w_st (i' := 48) (ls' := [.ref 99, .int x1, .int x2, .int x3, .int x4]) (st' := [.int x2]) (E' := E) (I' := I) (J' := J) (S' := S) am_e271 rfl rfl rfl rfl ?_
        refine w_st (i' := 49) (ls' := [.ref 99, .int x1, .int x2, .int x3, .int x4]) (st' := [.int (nI 1), .int x2]) (E' := E) (I' := I) (J' := J) (S' := S) am_e271 rfl rfl rfl rfl ?_
        refine w_st (i' := 50) (ls' := [.ref 99, .int x1, .int x2, .int x3, .int x4]) (st' := [.int x4, .int (nI 1), .int x2]) (E' := E) (I' := I) (J' := J) (S' := S) am_e271 rfl rfl rfl rfl ?_
        refine w_st (i' := 51) (ls' := [.ref 99, .int x1, .int x2, .int x3, .int x4]) (st' := [.int ((nI 1) <<< (x4 &&& 31)), .int x2]) (E' := E) (I' := I) (J' := J) (S' := S) am_e271 rfl rfl rfl rfl ?_
        refine w_st (i' := 52) (ls' := [.ref 99, .int x1, .int x2, .int x3, .int x4]) (st' := [.int (-1), .int ((nI 1) <<< (x4 &&& 31)), .int x2]) (E' := E) (I' := I) (J' := J) (S' := S) am_e271 rfl rfl rfl rfl ?_
        refine w_st (i' := 53) (ls' := [.ref 99, .int x1, .int x2, .int x3, .int x4]) (st' := [.int (((nI 1) <<< (x4 &&& 31)) ^^^ (-1)), .int x2]) (E' := E) (I' := I) (J' := J) (S' := S) am_e271 rfl rfl rfl rfl ?_
        refine w_st (i' := 54) (ls' := [.ref 99, .int x1, .int x2, .int x3, .int x4]) (st' := [.int (x2 &&& (((nI 1) <<< (x4 &&& 31)) ^^^ (-1)))]) (E' := E) (I' := I) (J' := J) (S' := S) am_e271 rfl rfl rfl rfl ?_
        refine w_st (i' := 55) (ls' := [.ref 99, .int x1, .int (x2 &&& (((nI 1) <<< (x4 &&& 31)) ^^^ (-1))), .int x3, .int x4]) (st' := []) (E' := E) (I' := I) (J' := J) (S' := S) am_e271 rfl rfl rfl rfl ?_
        first | exact hm | (simp only [if_neg m4] at hm; exact hm)
    refine w_var (fun w5 => am_ww 271 55 [.ref 99, .int x1, .int w5, .int x3, .int x4] [] E I J S _) (if w2 = ((I 118) x3.toNatClampNeg) then x2 else (x2 &&& (((nI 1) <<< (x4 &&& 31)) ^^^ (-1)))) (fun w5 hw5 => ?_)
    replace h := h w5 hw5
    refine w_st (i' := 56) (ls' := [.ref 99, .int x1, .int w5, .int x3, .int (x4 + nI 1)]) (st' := []) (E' := E) (I' := I) (J' := J) (S' := S) am_e271 rfl rfl rfl rfl ?_
    refine w_st (i' := 33) (ls' := [.ref 99, .int x1, .int w5, .int x3, .int (x4 + nI 1)]) (st' := []) (E' := E) (I' := I) (J' := J) (S' := S) am_e271 rfl rfl rfl rfl ?_
    exact h
-- 273 tellHot
theorem g273_0  {E : am_Ev} {I : Nat → Nat → Int32} {J : Nat → Nat → Int64} {S : Nat → Nat → Option Nat} {Q : am_Qt}  (h : am_ww 273 4 [.ref 99, .int (nI 0), .int (nI 1), am_U] [] E I J S Q) : am_ww 273 0 [.ref 99, am_U, am_U, am_U] [] E I J S Q := by
  refine w_st (i' := 1) (ls' := [.ref 99, am_U, am_U, am_U]) (st' := [.int (nI 0)]) (E' := E) (I' := I) (J' := J) (S' := S) am_e273 rfl rfl rfl rfl ?_
  refine w_st (i' := 2) (ls' := [.ref 99, .int (nI 0), am_U, am_U]) (st' := []) (E' := E) (I' := I) (J' := J) (S' := S) am_e273 rfl rfl rfl rfl ?_
  refine w_st (i' := 3) (ls' := [.ref 99, .int (nI 0), am_U, am_U]) (st' := [.int (nI 1)]) (E' := E) (I' := I) (J' := J) (S' := S) am_e273 rfl rfl rfl rfl ?_
  refine w_st (i' := 4) (ls' := [.ref 99, .int (nI 0), .int (nI 1), am_U]) (st' := []) (E' := E) (I' := I) (J' := J) (S' := S) am_e273 rfl rfl rfl rfl ?_
  exact h
theorem g273_4 {x1 : Int32} {x2 : Int32} {d3 : Value} {E : am_Ev} {I : Nat → Nat → Int32} {J : Nat → Nat → Int64} {S : Nat → Nat → Option Nat} {Q : am_Qt} (hd3 : am_isL d3 = false) (h : (((I 99) 12) < x2 → (Q (.inl (some (.int x1))) E I J S)) ∧ (¬ ((I 99) 12) < x2 → (am_ww 273 10 [.ref 99, .int x1, .int x2, .int (nI 0)] [] E I J S Q))) : am_ww 273 4 [.ref 99, .int x1, .int x2, d3] [] E I J S Q := by
  refine w_st (i' := 5) (ls' := [.ref 99, .int x1, .int x2, d3]) (st' := [.int x2]) (E' := E) (I' := I) (J' := J) (S' := S) am_e273 rfl rfl rfl rfl ?_
  refine w_st (i' := 6) (ls' := [.ref 99, .int x1, .int x2, d3]) (st' := [.ref 99, .int x2]) (E' := E) (I' := I) (J' := J) (S' := S) am_e273 rfl rfl rfl rfl ?_
  refine w_st (i' := 7) (ls' := [.ref 99, .int x1, .int x2, d3]) (st' := [.int ((I 99) 12), .int x2]) (E' := E) (I' := I) (J' := J) (S' := S) am_e273 rfl rfl rfl rfl ?_
  refine w_if2 am_e273 rfl rfl (fun c => ?_) (fun c => ?_)
  · replace h := h.1 (of_decide_eq_true c)
    refine w_st (i' := 52) (ls' := [.ref 99, .int x1, .int x2, d3]) (st' := [.int x1]) (E' := E) (I' := I) (J' := J) (S' := S) am_e273 rfl rfl rfl rfl ?_
    exact w_ri am_e273 rfl rfl h
  · replace h := h.2 (of_decide_eq_false c)
    refine w_st (i' := 9) (ls' := [.ref 99, .int x1, .int x2, d3]) (st' := [.int (nI 0)]) (E' := E) (I' := I) (J' := J) (S' := S) am_e273 rfl rfl rfl rfl ?_
    refine w_st (i' := 10) (ls' := [.ref 99, .int x1, .int x2, .int (nI 0)]) (st' := []) (E' := E) (I' := I) (J' := J) (S' := S) am_e273 rfl rfl rfl rfl ?_
    exact h
theorem g273_10 {x1 : Int32} {x2 : Int32} {x3 : Int32} {E : am_Ev} {I : Nat → Nat → Int32} {J : Nat → Nat → Int64} {S : Nat → Nat → Option Nat} {Q : am_Qt}  (h : (x1 ≤ x3 → (am_ww 273 24 [.ref 99, .int x1, .int x2, .int x3] [] E I J S Q)) ∧ (¬ x1 ≤ x3 → (vp_in x3 64 ∧ (vp_in x2 401 ∧ ((((I 131) x3.toNatClampNeg) = ((I 119) x2.toNatClampNeg) → (am_ww 273 24 [.ref 99, .int x1, .int x2, .int x3] [] E I J S Q)) ∧ (¬ ((I 131) x3.toNatClampNeg) = ((I 119) x2.toNatClampNeg) → (am_ww 273 10 [.ref 99, .int x1, .int x2, .int (x3 + nI 1)] [] E I J S Q))))))) : am_ww 273 10 [.ref 99, .int x1, .int x2, .int x3] [] E I J S Q := by
  refine w_st (i' := 11) (ls' := [.ref 99, .int x1, .int x2, .int x3]) (st' := [.int x3]) (E' := E) (I' := I) (J' := J) (S' := S) am_e273 rfl rfl rfl rfl ?_
  refine w_st (i' := 12) (ls' := [.ref 99, .int x1, .int x2, .int x3]) (st' := [.int x1, .int x3]) (E' := E) (I' := I) (J' := J) (S' := S) am_e273 rfl rfl rfl rfl ?_
  refine w_if2 am_e273 rfl rfl (fun c => ?_) (fun c => ?_)
  · replace h := h.1 (of_decide_eq_true c)
    exact h
  · replace h := h.2 (of_decide_eq_false c)
    refine w_st (i' := 14) (ls' := [.ref 99, .int x1, .int x2, .int x3]) (st' := [.ref 99]) (E' := E) (I' := I) (J' := J) (S' := S) am_e273 rfl rfl rfl rfl ?_
    refine w_st (i' := 15) (ls' := [.ref 99, .int x1, .int x2, .int x3]) (st' := [.ref 131]) (E' := E) (I' := I) (J' := J) (S' := S) am_e273 rfl rfl rfl rfl ?_
    refine w_st (i' := 16) (ls' := [.ref 99, .int x1, .int x2, .int x3]) (st' := [.int x3, .ref 131]) (E' := E) (I' := I) (J' := J) (S' := S) am_e273 rfl rfl rfl rfl ?_
    have hf1 := h.1
    replace h := h.2
    refine w_ia (k := 131) (n := 64) (jn := x3.toNatClampNeg) am_e273 rfl rfl (by decide) hf1 rfl ?_
    refine w_st (i' := 18) (ls' := [.ref 99, .int x1, .int x2, .int x3]) (st' := [.ref 99, .int ((I 131) x3.toNatClampNeg)]) (E' := E) (I' := I) (J' := J) (S' := S) am_e273 rfl rfl rfl rfl ?_
    refine w_st (i' := 19) (ls' := [.ref 99, .int x1, .int x2, .int x3]) (st' := [.ref 119, .int ((I 131) x3.toNatClampNeg)]) (E' := E) (I' := I) (J' := J) (S' := S) am_e273 rfl rfl rfl rfl ?_
    refine w_st (i' := 20) (ls' := [.ref 99, .int x1, .int x2, .int x3]) (st' := [.int x2, .ref 119, .int ((I 131) x3.toNatClampNeg)]) (E' := E) (I' := I) (J' := J) (S' := S) am_e273 rfl rfl rfl rfl ?_
    have hf2 := h.1
    replace h := h.2
    refine w_ia (k := 119) (n := 401) (jn := x2.toNatClampNeg) am_e273 rfl rfl (by decide) hf2 rfl ?_
    refine w_if2 am_e273 rfl rfl (fun c => ?_) (fun c => ?_)
    · replace h := h.1 (of_decide_eq_true c)
      exact h
    · replace h := h.2 (of_decide_eq_false c)
      refine w_st (i' := 23) (ls' := [.ref 99, .int x1, .int x2, .int (x3 + nI 1)]) (st' := []) (E' := E) (I' := I) (J' := J) (S' := S) am_e273 rfl rfl rfl rfl ?_
      refine w_st (i' := 10) (ls' := [.ref 99, .int x1, .int x2, .int (x3 + nI 1)]) (st' := []) (E' := E) (I' := I) (J' := J) (S' := S) am_e273 rfl rfl rfl rfl ?_
      exact h
theorem g273_24 {x1 : Int32} {x2 : Int32} {x3 : Int32} {E : am_Ev} {I : Nat → Nat → Int32} {J : Nat → Nat → Int64} {S : Nat → Nat → Option Nat} {Q : am_Qt}  (h : (x3 = x1 → (vp_in x2 401 ∧ (vp_in x3 64 ∧ (am_ww 273 4 [.ref 99, .int (x1 + nI 1), .int (x2 + nI 1), .int x3] [] E (u_I (u_I I 131 (upd (I 131) x3.toNatClampNeg ((I 119) x2.toNatClampNeg))) 132 (upd (upd (I 132) x3.toNatClampNeg (nI 0)) x3.toNatClampNeg (((upd (I 132) x3.toNatClampNeg (nI 0)) x3.toNatClampNeg) + (nI 1)))) J S Q)))) ∧ (¬ x3 = x1 → (vp_in x3 64 ∧ (am_ww 273 4 [.ref 99, .int x1, .int (x2 + nI 1), .int x3] [] E (u_I I 132 (upd (I 132) x3.toNatClampNeg (((I 132) x3.toNatClampNeg) + (nI 1)))) J S Q)))) : am_ww 273 24 [.ref 99, .int x1, .int x2, .int x3] [] E I J S Q := by
  refine w_st (i' := 25) (ls' := [.ref 99, .int x1, .int x2, .int x3]) (st' := [.int x3]) (E' := E) (I' := I) (J' := J) (S' := S) am_e273 rfl rfl rfl rfl ?_
  refine w_st (i' := 26) (ls' := [.ref 99, .int x1, .int x2, .int x3]) (st' := [.int x1, .int x3]) (E' := E) (I' := I) (J' := J) (S' := S) am_e273 rfl rfl rfl rfl ?_
  refine w_if2 am_e273 rfl rfl (fun c => ?_) (fun c => ?_)
  · replace h := h.2 (of_decide_eq_true c)
    refine w_st (i' := 42) (ls' := [.ref 99, .int x1, .int x2, .int x3]) (st' := [.ref 99]) (E' := E) (I' := I) (J' := J) (S' := S) am_e273 rfl rfl rfl rfl ?_
    refine w_st (i' := 43) (ls' := [.ref 99, .int x1, .int x2, .int x3]) (st' := [.ref 132]) (E' := E) (I' := I) (J' := J) (S' := S) am_e273 rfl rfl rfl rfl ?_
    refine w_st (i' := 44) (ls' := [.ref 99, .int x1, .int x2, .int x3]) (st' := [.int x3, .ref 132]) (E' := E) (I' := I) (J' := J) (S' := S) am_e273 rfl rfl rfl rfl ?_
    refine w_st (i' := 45) (ls' := [.ref 99, .int x1, .int x2, .int x3]) (st' := [.int x3, .ref 132, .int x3, .ref 132]) (E' := E) (I' := I) (J' := J) (S' := S) am_e273 rfl rfl rfl rfl ?_
    have hf1 := h.1
    replace h := h.2
    refine w_ia (k := 132) (n := 64) (jn := x3.toNatClampNeg) am_e273 rfl rfl (by decide) hf1 rfl ?_
    refine w_st (i' := 47) (ls' := [.ref 99, .int x1, .int x2, .int x3]) (st' := [.int (nI 1), .int ((I 132) x3.toNatClampNeg), .int x3, .ref 132]) (E' := E) (I' := I) (J' := J) (S' := S) am_e273 rfl rfl rfl rfl ?_
    refine w_st (i' := 48) (ls' := [.ref 99, .int x1, .int x2, .int x3]) (st' := [.int (((I 132) x3.toNatClampNeg) + (nI 1)), .int x3, .ref 132]) (E' := E) (I' := I) (J' := J) (S' := S) am_e273 rfl rfl rfl rfl ?_
    refine w_is (k := 132) (n := 64) (jn := x3.toNatClampNeg) am_e273 rfl rfl (by decide) hf1 rfl ?_
    show am_ww 273 49 [.ref 99, .int x1, .int x2, .int x3] [] E (u_I I 132 (upd (I 132) x3.toNatClampNeg (((I 132) x3.toNatClampNeg) + (nI 1)))) J S _
    refine w_st (i' := 50) (ls' := [.ref 99, .int x1, .int (x2 + nI 1), .int x3]) (st' := []) (E' := E) (I' := (u_I I 132 (upd (I 132) x3.toNatClampNeg (((I 132) x3.toNatClampNeg) + (nI 1))))) (J' := J) (S' := S) am_e273 rfl rfl rfl rfl ?_
    refine w_st (i' := 4) (ls' := [.ref 99, .int x1, .int (x2 + nI 1), .int x3]) (st' := []) (E' := E) (I' := (u_I I 132 (upd (I 132) x3.toNatClampNeg (((I 132) x3.toNatClampNeg) + (nI 1))))) (J' := J) (S' := S) am_e273 rfl rfl rfl rfl ?_
    exact h
  · replace h := h.1 (Decidable.not_not.mp (of_decide_eq_false c))
    refine w_st (i' := 28) (ls' := [.ref 99, .int x1, .int x2, .int x3]) (st' := [.ref 99]) (E' := E) (I' := I) (J' := J) (S' := S) am_e273 rfl rfl rfl rfl ?_
    refine w_st (i' := 29) (ls' := [.ref 99, .int x1, .int x2, .int x3]) (st' := [.ref 131]) (E' := E) (I' := I) (J' := J) (S' := S) am_e273 rfl rfl rfl rfl ?_
    refine w_st (i' := 30) (ls' := [.ref 99, .int x1, .int x2, .int x3]) (st' := [.int x3, .ref 131]) (E' := E) (I' := I) (J' := J) (S' := S) am_e273 rfl rfl rfl rfl ?_
    refine w_st (i' := 31) (ls' := [.ref 99, .int x1, .int x2, .int x3]) (st' := [.ref 99, .int x3, .ref 131]) (E' := E) (I' := I) (J' := J) (S' := S) am_e273 rfl rfl rfl rfl ?_
    refine w_st (i' := 32) (ls' := [.ref 99, .int x1, .int x2, .int x3]) (st' := [.ref 119, .int x3, .ref 131]) (E' := E) (I' := I) (J' := J) (S' := S) am_e273 rfl rfl rfl rfl ?_
    refine w_st (i' := 33) (ls' := [.ref 99, .int x1, .int x2, .int x3]) (st' := [.int x2, .ref 119, .int x3, .ref 131]) (E' := E) (I' := I) (J' := J) (S' := S) am_e273 rfl rfl rfl rfl ?_
    have hf2 := h.1
    replace h := h.2
    refine w_ia (k := 119) (n := 401) (jn := x2.toNatClampNeg) am_e273 rfl rfl (by decide) hf2 rfl ?_
    have hf3 := h.1
    replace h := h.2
    refine w_is (k := 131) (n := 64) (jn := x3.toNatClampNeg) am_e273 rfl rfl (by decide) hf3 rfl ?_
    show am_ww 273 35 [.ref 99, .int x1, .int x2, .int x3] [] E (u_I I 131 (upd (I 131) x3.toNatClampNeg ((I 119) x2.toNatClampNeg))) J S _
    refine w_st (i' := 36) (ls' := [.ref 99, .int x1, .int x2, .int x3]) (st' := [.ref 99]) (E' := E) (I' := (u_I I 131 (upd (I 131) x3.toNatClampNeg ((I 119) x2.toNatClampNeg)))) (J' := J) (S' := S) am_e273 rfl rfl rfl rfl ?_
    refine w_st (i' := 37) (ls' := [.ref 99, .int x1, .int x2, .int x3]) (st' := [.ref 132]) (E' := E) (I' := (u_I I 131 (upd (I 131) x3.toNatClampNeg ((I 119) x2.toNatClampNeg)))) (J' := J) (S' := S) am_e273 rfl rfl rfl rfl ?_
    refine w_st (i' := 38) (ls' := [.ref 99, .int x1, .int x2, .int x3]) (st' := [.int x3, .ref 132]) (E' := E) (I' := (u_I I 131 (upd (I 131) x3.toNatClampNeg ((I 119) x2.toNatClampNeg)))) (J' := J) (S' := S) am_e273 rfl rfl rfl rfl ?_
    refine w_st (i' := 39) (ls' := [.ref 99, .int x1, .int x2, .int x3]) (st' := [.int (nI 0), .int x3, .ref 132]) (E' := E) (I' := (u_I I 131 (upd (I 131) x3.toNatClampNeg ((I 119) x2.toNatClampNeg)))) (J' := J) (S' := S) am_e273 rfl rfl rfl rfl ?_
    refine w_is (k := 132) (n := 64) (jn := x3.toNatClampNeg) am_e273 rfl rfl (by decide) hf3 rfl ?_
    show am_ww 273 40 [.ref 99, .int x1, .int x2, .int x3] [] E (u_I (u_I I 131 (upd (I 131) x3.toNatClampNeg ((I 119) x2.toNatClampNeg))) 132 (upd (I 132) x3.toNatClampNeg (nI 0))) J S _
    refine w_st (i' := 41) (ls' := [.ref 99, .int (x1 + nI 1), .int x2, .int x3]) (st' := []) (E' := E) (I' := (u_I (u_I I 131 (upd (I 131) x3.toNatClampNeg ((I 119) x2.toNatClampNeg))) 132 (upd (I 132) x3.toNatClampNeg (nI 0)))) (J' := J) (S' := S) am_e273 rfl rfl rfl rfl ?_
    refine w_st (i' := 42) (ls' := [.ref 99, .int (x1 + nI 1), .int x2, .int x3]) (st' := [.ref 99]) (E' := E) (I' := (u_I (u_I I 131 (upd (I 131) x3.toNatClampNeg ((I 119) x2.toNatClampNeg))) 132 (upd (I 132) x3.toNatClampNeg (nI 0)))) (J' := J) (S' := S) am_e273 rfl rfl rfl rfl ?_
    refine w_st (i' := 43) (ls' := [.ref 99, .int (x1 + nI 1), .int x2, .int x3]) (st' := [.ref 132]) (E' := E) (I' := (u_I (u_I I 131 (upd (I 131) x3.toNatClampNeg ((I 119) x2.toNatClampNeg))) 132 (upd (I 132) x3.toNatClampNeg (nI 0)))) (J' := J) (S' := S) am_e273 rfl rfl rfl rfl ?_
    refine w_st (i' := 44) (ls' := [.ref 99, .int (x1 + nI 1), .int x2, .int x3]) (st' := [.int x3, .ref 132]) (E' := E) (I' := (u_I (u_I I 131 (upd (I 131) x3.toNatClampNeg ((I 119) x2.toNatClampNeg))) 132 (upd (I 132) x3.toNatClampNeg (nI 0)))) (J' := J) (S' := S) am_e273 rfl rfl rfl rfl ?_
    refine w_st (i' := 45) (ls' := [.ref 99, .int (x1 + nI 1), .int x2, .int x3]) (st' := [.int x3, .ref 132, .int x3, .ref 132]) (E' := E) (I' := (u_I (u_I I 131 (upd (I 131) x3.toNatClampNeg ((I 119) x2.toNatClampNeg))) 132 (upd (I 132) x3.toNatClampNeg (nI 0)))) (J' := J) (S' := S) am_e273 rfl rfl rfl rfl ?_
    refine w_ia (k := 132) (n := 64) (jn := x3.toNatClampNeg) am_e273 rfl rfl (by decide) hf3 rfl ?_
    show am_ww 273 46 [.ref 99, .int (x1 + nI 1), .int x2, .int x3] [.int ((upd (I 132) x3.toNatClampNeg (nI 0)) x3.toNatClampNeg), .int x3, .ref 132] E (u_I (u_I I 131 (upd (I 131) x3.toNatClampNeg ((I 119) x2.toNatClampNeg))) 132 (upd (I 132) x3.toNatClampNeg (nI 0))) J S _
    refine w_st (i' := 47) (ls' := [.ref 99, .int (x1 + nI 1), .int x2, .int x3]) (st' := [.int (nI 1), .int ((upd (I 132) x3.toNatClampNeg (nI 0)) x3.toNatClampNeg), .int x3, .ref 132]) (E' := E) (I' := (u_I (u_I I 131 (upd (I 131) x3.toNatClampNeg ((I 119) x2.toNatClampNeg))) 132 (upd (I 132) x3.toNatClampNeg (nI 0)))) (J' := J) (S' := S) am_e273 rfl rfl rfl rfl ?_
    refine w_st (i' := 48) (ls' := [.ref 99, .int (x1 + nI 1), .int x2, .int x3]) (st' := [.int (((upd (I 132) x3.toNatClampNeg (nI 0)) x3.toNatClampNeg) + (nI 1)), .int x3, .ref 132]) (E' := E) (I' := (u_I (u_I I 131 (upd (I 131) x3.toNatClampNeg ((I 119) x2.toNatClampNeg))) 132 (upd (I 132) x3.toNatClampNeg (nI 0)))) (J' := J) (S' := S) am_e273 rfl rfl rfl rfl ?_
    refine w_is (k := 132) (n := 64) (jn := x3.toNatClampNeg) am_e273 rfl rfl (by decide) hf3 rfl ?_
    refine w_eI (uI_0 ..) ?_
    show am_ww 273 49 [.ref 99, .int (x1 + nI 1), .int x2, .int x3] [] E (u_I (u_I I 131 (upd (I 131) x3.toNatClampNeg ((I 119) x2.toNatClampNeg))) 132 (upd (upd (I 132) x3.toNatClampNeg (nI 0)) x3.toNatClampNeg (((upd (I 132) x3.toNatClampNeg (nI 0)) x3.toNatClampNeg) + (nI 1)))) J S _
    refine w_st (i' := 50) (ls' := [.ref 99, .int (x1 + nI 1), .int (x2 + nI 1), .int x3]) (st' := []) (E' := E) (I' := (u_I (u_I I 131 (upd (I 131) x3.toNatClampNeg ((I 119) x2.toNatClampNeg))) 132 (upd (upd (I 132) x3.toNatClampNeg (nI 0)) x3.toNatClampNeg (((upd (I 132) x3.toNatClampNeg (nI 0)) x3.toNatClampNeg) + (nI 1))))) (J' := J) (S' := S) am_e273 rfl rfl rfl rfl ?_
    refine w_st (i' := 4) (ls' := [.ref 99, .int (x1 + nI 1), .int (x2 + nI 1), .int x3]) (st' := []) (E' := E) (I' := (u_I (u_I I 131 (upd (I 131) x3.toNatClampNeg ((I 119) x2.toNatClampNeg))) 132 (upd (upd (I 132) x3.toNatClampNeg (nI 0)) x3.toNatClampNeg (((upd (I 132) x3.toNatClampNeg (nI 0)) x3.toNatClampNeg) + (nI 1))))) (J' := J) (S' := S) am_e273 rfl rfl rfl rfl ?_
    exact h
-- 272 hot
theorem g272_0 {p1 : Int32} {p2 : Int32} {E : am_Ev} {I : Nat → Nat → Int32} {J : Nat → Nat → Int64} {S : Nat → Nat → Option Nat} {Q : am_Qt}  (h : am_cl 273 [.ref 99] E (u_I I 99 (upd (I 99) 3 (nI 0))) J S (q_I fun v1 E1 I1 J1 S1 => (p1 = (-1) → (Q (.inl (some (.int v1))) E1 I1 J1 S1)) ∧ (¬ p1 = (-1) → ((p1 < (nI 0) → (Q (.inl (some (.int (nI 0)))) E1 (u_I I1 99 (upd (I1 99) 3 (nI 1))) J1 S1)) ∧ (¬ p1 < (nI 0) → (((v1 - (nI 1)) < p1 → (Q (.inl (some (.int (nI 0)))) E1 (u_I I1 99 (upd (I1 99) 3 (nI 1))) J1 S1)) ∧ (¬ (v1 - (nI 1)) < p1 → ((p2 < (nI 0) → (Q (.inl (some (.int (nI 0)))) E1 (u_I I1 99 (upd (I1 99) 3 (nI 1))) J1 S1)) ∧ (¬ p2 < (nI 0) → (((nI 2) < p2 → (Q (.inl (some (.int (nI 0)))) E1 (u_I I1 99 (upd (I1 99) 3 (nI 1))) J1 S1)) ∧ (¬ (nI 2) < p2 → (((p2 = 0 → (vp_in p1 64 ∧ True)) ∧ (¬ p2 = 0 → ((p2 = (nI 1) → (vp_in p1 64 ∧ True)) ∧ (¬ p2 = (nI 1) → (vp_in p1 64 ∧ True))))) ∧ (∀ w4 : Int32, w4 = (if p2 = 0 then (((I1 131) p1.toNatClampNeg) / (nI 16)) else (if p2 = (nI 1) then (((I1 131) p1.toNatClampNeg) - ((I1 131) p1.toNatClampNeg) / (nI 16) * (nI 16)) else ((I1 132) p1.toNatClampNeg))) → (Q (.inl (some (.int w4))) E1 I1 J1 S1)))))))))))))) : am_ww 272 0 [.ref 99, .int p1, .int p2, am_U] [] E I J S Q := by
  refine w_st (i' := 1) (ls' := [.ref 99, .int p1, .int p2, am_U]) (st' := [.ref 99]) (E' := E) (I' := I) (J' := J) (S' := S) am_e272 rfl rfl rfl rfl ?_
  refine w_st (i' := 2) (ls' := [.ref 99, .int p1, .int p2, am_U]) (st' := [.int (nI 0), .ref 99]) (E' := E) (I' := I) (J' := J) (S' := S) am_e272 rfl rfl rfl rfl ?_
  refine w_st (i' := 3) (ls' := [.ref 99, .int p1, .int p2, am_U]) (st' := []) (E' := E) (I' := (u_I I 99 (upd (I 99) 3 (nI 0)))) (J' := J) (S' := S) am_e272 rfl rfl rfl rfl ?_
  refine w_st (i' := 4) (ls' := [.ref 99, .int p1, .int p2, am_U]) (st' := [.ref 99]) (E' := E) (I' := (u_I I 99 (upd (I 99) 3 (nI 0)))) (J' := J) (S' := S) am_e272 rfl rfl rfl rfl ?_
  refine w_cI am_e272 rfl rfl (as := [.ref 99]) (rest := []) rfl rfl (am_ww.mono h ?_)
  rintro _ E1 I1 J1 S1 ⟨v1, rfl, h⟩
  refine q_mkI ?_
  refine w_st (i' := 6) (ls' := [.ref 99, .int p1, .int p2, .int v1]) (st' := []) (E' := E1) (I' := I1) (J' := J1) (S' := S1) am_e272 rfl rfl rfl rfl ?_
  refine w_st (i' := 7) (ls' := [.ref 99, .int p1, .int p2, .int v1]) (st' := [.int p1]) (E' := E1) (I' := I1) (J' := J1) (S' := S1) am_e272 rfl rfl rfl rfl ?_
  refine w_st (i' := 8) (ls' := [.ref 99, .int p1, .int p2, .int v1]) (st' := [.int (-1), .int p1]) (E' := E1) (I' := I1) (J' := J1) (S' := S1) am_e272 rfl rfl rfl rfl ?_
  refine w_if2 am_e272 rfl rfl (fun c => ?_) (fun c => ?_)
  · replace h := h.2 (of_decide_eq_true c)
    refine w_st (i' := 12) (ls' := [.ref 99, .int p1, .int p2, .int v1]) (st' := [.int p1]) (E' := E1) (I' := I1) (J' := J1) (S' := S1) am_e272 rfl rfl rfl rfl ?_
    refine w_st (i' := 13) (ls' := [.ref 99, .int p1, .int p2, .int v1]) (st' := [.int (nI 0), .int p1]) (E' := E1) (I' := I1) (J' := J1) (S' := S1) am_e272 rfl rfl rfl rfl ?_
    refine w_st (i' := 14) (ls' := [.ref 99, .int p1, .int p2, .int v1]) (st' := [.int v1, .int (nI 0), .int p1]) (E' := E1) (I' := I1) (J' := J1) (S' := S1) am_e272 rfl rfl rfl rfl ?_
    refine w_st (i' := 15) (ls' := [.ref 99, .int p1, .int p2, .int v1]) (st' := [.int (nI 1), .int v1, .int (nI 0), .int p1]) (E' := E1) (I' := I1) (J' := J1) (S' := S1) am_e272 rfl rfl rfl rfl ?_
    refine w_st (i' := 16) (ls' := [.ref 99, .int p1, .int p2, .int v1]) (st' := [.int (v1 - (nI 1)), .int (nI 0), .int p1]) (E' := E1) (I' := I1) (J' := J1) (S' := S1) am_e272 rfl rfl rfl rfl ?_
    refine w_cI am_e272 rfl rfl (as := [.int p1, .int (nI 0), .int (v1 - (nI 1))]) (rest := []) rfl rfl ?_
    show am_ww 232 0 [.int p1, .int (nI 0), .int (v1 - (nI 1))] [] E1 I1 J1 S1 _
    refine w_st (i' := 1) (ls' := [.int p1, .int (nI 0), .int (v1 - (nI 1))]) (st' := [.int p1]) (E' := E1) (I' := I1) (J' := J1) (S' := S1) am_e232 rfl rfl rfl rfl ?_
    refine w_st (i' := 2) (ls' := [.int p1, .int (nI 0), .int (v1 - (nI 1))]) (st' := [.int (nI 0), .int p1]) (E' := E1) (I' := I1) (J' := J1) (S' := S1) am_e232 rfl rfl rfl rfl ?_
    refine w_if2 am_e232 rfl rfl (fun c => ?_) (fun c => ?_)
    · replace h := h.1 (of_decide_eq_true c)
      refine w_st (i' := 9) (ls' := [.int p1, .int (nI 0), .int (v1 - (nI 1))]) (st' := [.int (nI 0)]) (E' := E1) (I' := I1) (J' := J1) (S' := S1) am_e232 rfl rfl rfl rfl ?_
      refine w_end (E' := E1) (I' := I1) (J' := J1) (S' := S1) am_e232 rfl rfl rfl (q_mkI ?_)
      show am_ww 272 17 [.ref 99, .int p1, .int p2, .int v1] [.int (nI 0)] E1 I1 J1 S1 _
      refine w_st (i' := 23) (ls' := [.ref 99, .int p1, .int p2, .int v1]) (st' := []) (E' := E1) (I' := I1) (J' := J1) (S' := S1) am_e272 rfl rfl rfl rfl ?_
      refine w_st (i' := 24) (ls' := [.ref 99, .int p1, .int p2, .int v1]) (st' := [.ref 99]) (E' := E1) (I' := I1) (J' := J1) (S' := S1) am_e272 rfl rfl rfl rfl ?_
      refine w_st (i' := 25) (ls' := [.ref 99, .int p1, .int p2, .int v1]) (st' := [.int (nI 1), .ref 99]) (E' := E1) (I' := I1) (J' := J1) (S' := S1) am_e272 rfl rfl rfl rfl ?_
      refine w_cI am_e272 rfl rfl (as := [.ref 99, .int (nI 1)]) (rest := []) rfl rfl ?_
      show am_ww 189 0 [.ref 99, .int (nI 1)] [] E1 I1 J1 S1 _
      refine w_st (i' := 1) (ls' := [.ref 99, .int (nI 1)]) (st' := [.ref 99]) (E' := E1) (I' := I1) (J' := J1) (S' := S1) am_e189 rfl rfl rfl rfl ?_
      refine w_st (i' := 2) (ls' := [.ref 99, .int (nI 1)]) (st' := [.int (nI 1), .ref 99]) (E' := E1) (I' := I1) (J' := J1) (S' := S1) am_e189 rfl rfl rfl rfl ?_
      refine w_st (i' := 3) (ls' := [.ref 99, .int (nI 1)]) (st' := []) (E' := E1) (I' := (u_I I1 99 (upd (I1 99) 3 (nI 1)))) (J' := J1) (S' := S1) am_e189 rfl rfl rfl rfl ?_
      refine w_st (i' := 4) (ls' := [.ref 99, .int (nI 1)]) (st' := [.int (nI 0)]) (E' := E1) (I' := (u_I I1 99 (upd (I1 99) 3 (nI 1)))) (J' := J1) (S' := S1) am_e189 rfl rfl rfl rfl ?_
      refine w_end (E' := E1) (I' := (u_I I1 99 (upd (I1 99) 3 (nI 1)))) (J' := J1) (S' := S1) am_e189 rfl rfl rfl (q_mkI ?_)
      show am_ww 272 26 [.ref 99, .int p1, .int p2, .int v1] [.int (nI 0)] E1 (u_I I1 99 (upd (I1 99) 3 (nI 1))) J1 S1 _
      exact w_end am_e272 rfl rfl rfl h
    · replace h := h.2 (of_decide_eq_false c)
      refine w_st (i' := 4) (ls' := [.int p1, .int (nI 0), .int (v1 - (nI 1))]) (st' := [.int p1]) (E' := E1) (I' := I1) (J' := J1) (S' := S1) am_e232 rfl rfl rfl rfl ?_
      refine w_st (i' := 5) (ls' := [.int p1, .int (nI 0), .int (v1 - (nI 1))]) (st' := [.int (v1 - (nI 1)), .int p1]) (E' := E1) (I' := I1) (J' := J1) (S' := S1) am_e232 rfl rfl rfl rfl ?_
      refine w_if2 am_e232 rfl rfl (fun c => ?_) (fun c => ?_)
      · replace h := h.1 (of_decide_eq_true c)
        refine w_st (i' := 9) (ls' := [.int p1, .int (nI 0), .int (v1 - (nI 1))]) (st' := [.int (nI 0)]) (E' := E1) (I' := I1) (J' := J1) (S' := S1) am_e232 rfl rfl rfl rfl ?_
        refine w_end (E' := E1) (I' := I1) (J' := J1) (S' := S1) am_e232 rfl rfl rfl (q_mkI ?_)
        show am_ww 272 17 [.ref 99, .int p1, .int p2, .int v1] [.int (nI 0)] E1 I1 J1 S1 _
        refine w_st (i' := 23) (ls' := [.ref 99, .int p1, .int p2, .int v1]) (st' := []) (E' := E1) (I' := I1) (J' := J1) (S' := S1) am_e272 rfl rfl rfl rfl ?_
        refine w_st (i' := 24) (ls' := [.ref 99, .int p1, .int p2, .int v1]) (st' := [.ref 99]) (E' := E1) (I' := I1) (J' := J1) (S' := S1) am_e272 rfl rfl rfl rfl ?_
        refine w_st (i' := 25) (ls' := [.ref 99, .int p1, .int p2, .int v1]) (st' := [.int (nI 1), .ref 99]) (E' := E1) (I' := I1) (J' := J1) (S' := S1) am_e272 rfl rfl rfl rfl ?_
        refine w_cI am_e272 rfl rfl (as := [.ref 99, .int (nI 1)]) (rest := []) rfl rfl ?_
        show am_ww 189 0 [.ref 99, .int (nI 1)] [] E1 I1 J1 S1 _
        refine w_st (i' := 1) (ls' := [.ref 99, .int (nI 1)]) (st' := [.ref 99]) (E' := E1) (I' := I1) (J' := J1) (S' := S1) am_e189 rfl rfl rfl rfl ?_
        refine w_st (i' := 2) (ls' := [.ref 99, .int (nI 1)]) (st' := [.int (nI 1), .ref 99]) (E' := E1) (I' := I1) (J' := J1) (S' := S1) am_e189 rfl rfl rfl rfl ?_
        refine w_st (i' := 3) (ls' := [.ref 99, .int (nI 1)]) (st' := []) (E' := E1) (I' := (u_I I1 99 (upd (I1 99) 3 (nI 1)))) (J' := J1) (S' := S1) am_e189 rfl rfl rfl rfl ?_
        refine w_st (i' := 4) (ls' := [.ref 99, .int (nI 1)]) (st' := [.int (nI 0)]) (E' := E1) (I' := (u_I I1 99 (upd (I1 99) 3 (nI 1)))) (J' := J1) (S' := S1) am_e189 rfl rfl rfl rfl ?_
        refine w_end (E' := E1) (I' := (u_I I1 99 (upd (I1 99) 3 (nI 1)))) (J' := J1) (S' := S1) am_e189 rfl rfl rfl (q_mkI ?_)
        show am_ww 272 26 [.ref 99, .int p1, .int p2, .int v1] [.int (nI 0)] E1 (u_I I1 99 (upd (I1 99) 3 (nI 1))) J1 S1 _
        exact w_end am_e272 rfl rfl rfl h
      · replace h := h.2 (of_decide_eq_false c)
        refine w_st (i' := 7) (ls' := [.int p1, .int (nI 0), .int (v1 - (nI 1))]) (st' := [.int (nI 1)]) (E' := E1) (I' := I1) (J' := J1) (S' := S1) am_e232 rfl rfl rfl rfl ?_
        refine w_st (i' := 9) (ls' := [.int p1, .int (nI 0), .int (v1 - (nI 1))]) (st' := [.int (nI 1)]) (E' := E1) (I' := I1) (J' := J1) (S' := S1) am_e232 rfl rfl rfl rfl ?_
        refine w_end (E' := E1) (I' := I1) (J' := J1) (S' := S1) am_e232 rfl rfl rfl (q_mkI ?_)
        show am_ww 272 17 [.ref 99, .int p1, .int p2, .int v1] [.int (nI 1)] E1 I1 J1 S1 _
        refine w_st (i' := 18) (ls' := [.ref 99, .int p1, .int p2, .int v1]) (st' := []) (E' := E1) (I' := I1) (J' := J1) (S' := S1) am_e272 rfl rfl rfl rfl ?_
        refine w_st (i' := 19) (ls' := [.ref 99, .int p1, .int p2, .int v1]) (st' := [.int p2]) (E' := E1) (I' := I1) (J' := J1) (S' := S1) am_e272 rfl rfl rfl rfl ?_
        refine w_st (i' := 20) (ls' := [.ref 99, .int p1, .int p2, .int v1]) (st' := [.int (nI 0), .int p2]) (E' := E1) (I' := I1) (J' := J1) (S' := S1) am_e272 rfl rfl rfl rfl ?_
        refine w_st (i' := 21) (ls' := [.ref 99, .int p1, .int p2, .int v1]) (st' := [.int (nI 2), .int (nI 0), .int p2]) (E' := E1) (I' := I1) (J' := J1) (S' := S1) am_e272 rfl rfl rfl rfl ?_
        refine w_cI am_e272 rfl rfl (as := [.int p2, .int (nI 0), .int (nI 2)]) (rest := []) rfl rfl ?_
        show am_ww 232 0 [.int p2, .int (nI 0), .int (nI 2)] [] E1 I1 J1 S1 _
        refine w_st (i' := 1) (ls' := [.int p2, .int (nI 0), .int (nI 2)]) (st' := [.int p2]) (E' := E1) (I' := I1) (J' := J1) (S' := S1) am_e232 rfl rfl rfl rfl ?_
        refine w_st (i' := 2) (ls' := [.int p2, .int (nI 0), .int (nI 2)]) (st' := [.int (nI 0), .int p2]) (E' := E1) (I' := I1) (J' := J1) (S' := S1) am_e232 rfl rfl rfl rfl ?_
        refine w_if2 am_e232 rfl rfl (fun c => ?_) (fun c => ?_)
        · replace h := h.1 (of_decide_eq_true c)
          refine w_st (i' := 9) (ls' := [.int p2, .int (nI 0), .int (nI 2)]) (st' := [.int (nI 0)]) (E' := E1) (I' := I1) (J' := J1) (S' := S1) am_e232 rfl rfl rfl rfl ?_
          refine w_end (E' := E1) (I' := I1) (J' := J1) (S' := S1) am_e232 rfl rfl rfl (q_mkI ?_)
          show am_ww 272 22 [.ref 99, .int p1, .int p2, .int v1] [.int (nI 0)] E1 I1 J1 S1 _
          refine w_st (i' := 23) (ls' := [.ref 99, .int p1, .int p2, .int v1]) (st' := []) (E' := E1) (I' := I1) (J' := J1) (S' := S1) am_e272 rfl rfl rfl rfl ?_
          refine w_st (i' := 24) (ls' := [.ref 99, .int p1, .int p2, .int v1]) (st' := [.ref 99]) (E' := E1) (I' := I1) (J' := J1) (S' := S1) am_e272 rfl rfl rfl rfl ?_
          refine w_st (i' := 25) (ls' := [.ref 99, .int p1, .int p2, .int v1]) (st' := [.int (nI 1), .ref 99]) (E' := E1) (I' := I1) (J' := J1) (S' := S1) am_e272 rfl rfl rfl rfl ?_
          refine w_cI am_e272 rfl rfl (as := [.ref 99, .int (nI 1)]) (rest := []) rfl rfl ?_
          show am_ww 189 0 [.ref 99, .int (nI 1)] [] E1 I1 J1 S1 _
          refine w_st (i' := 1) (ls' := [.ref 99, .int (nI 1)]) (st' := [.ref 99]) (E' := E1) (I' := I1) (J' := J1) (S' := S1) am_e189 rfl rfl rfl rfl ?_
          refine w_st (i' := 2) (ls' := [.ref 99, .int (nI 1)]) (st' := [.int (nI 1), .ref 99]) (E' := E1) (I' := I1) (J' := J1) (S' := S1) am_e189 rfl rfl rfl rfl ?_
          refine w_st (i' := 3) (ls' := [.ref 99, .int (nI 1)]) (st' := []) (E' := E1) (I' := (u_I I1 99 (upd (I1 99) 3 (nI 1)))) (J' := J1) (S' := S1) am_e189 rfl rfl rfl rfl ?_
          refine w_st (i' := 4) (ls' := [.ref 99, .int (nI 1)]) (st' := [.int (nI 0)]) (E' := E1) (I' := (u_I I1 99 (upd (I1 99) 3 (nI 1)))) (J' := J1) (S' := S1) am_e189 rfl rfl rfl rfl ?_
          refine w_end (E' := E1) (I' := (u_I I1 99 (upd (I1 99) 3 (nI 1)))) (J' := J1) (S' := S1) am_e189 rfl rfl rfl (q_mkI ?_)
          show am_ww 272 26 [.ref 99, .int p1, .int p2, .int v1] [.int (nI 0)] E1 (u_I I1 99 (upd (I1 99) 3 (nI 1))) J1 S1 _
          exact w_end am_e272 rfl rfl rfl h
        · replace h := h.2 (of_decide_eq_false c)
          refine w_st (i' := 4) (ls' := [.int p2, .int (nI 0), .int (nI 2)]) (st' := [.int p2]) (E' := E1) (I' := I1) (J' := J1) (S' := S1) am_e232 rfl rfl rfl rfl ?_
          refine w_st (i' := 5) (ls' := [.int p2, .int (nI 0), .int (nI 2)]) (st' := [.int (nI 2), .int p2]) (E' := E1) (I' := I1) (J' := J1) (S' := S1) am_e232 rfl rfl rfl rfl ?_
          refine w_if2 am_e232 rfl rfl (fun c => ?_) (fun c => ?_)
          · replace h := h.1 (of_decide_eq_true c)
            refine w_st (i' := 9) (ls' := [.int p2, .int (nI 0), .int (nI 2)]) (st' := [.int (nI 0)]) (E' := E1) (I' := I1) (J' := J1) (S' := S1) am_e232 rfl rfl rfl rfl ?_
            refine w_end (E' := E1) (I' := I1) (J' := J1) (S' := S1) am_e232 rfl rfl rfl (q_mkI ?_)
            show am_ww 272 22 [.ref 99, .int p1, .int p2, .int v1] [.int (nI 0)] E1 I1 J1 S1 _
            refine w_st (i' := 23) (ls' := [.ref 99, .int p1, .int p2, .int v1]) (st' := []) (E' := E1) (I' := I1) (J' := J1) (S' := S1) am_e272 rfl rfl rfl rfl ?_
            refine w_st (i' := 24) (ls' := [.ref 99, .int p1, .int p2, .int v1]) (st' := [.ref 99]) (E' := E1) (I' := I1) (J' := J1) (S' := S1) am_e272 rfl rfl rfl rfl ?_
            refine w_st (i' := 25) (ls' := [.ref 99, .int p1, .int p2, .int v1]) (st' := [.int (nI 1), .ref 99]) (E' := E1) (I' := I1) (J' := J1) (S' := S1) am_e272 rfl rfl rfl rfl ?_
            refine w_cI am_e272 rfl rfl (as := [.ref 99, .int (nI 1)]) (rest := []) rfl rfl ?_
            show am_ww 189 0 [.ref 99, .int (nI 1)] [] E1 I1 J1 S1 _
            refine w_st (i' := 1) (ls' := [.ref 99, .int (nI 1)]) (st' := [.ref 99]) (E' := E1) (I' := I1) (J' := J1) (S' := S1) am_e189 rfl rfl rfl rfl ?_
            refine w_st (i' := 2) (ls' := [.ref 99, .int (nI 1)]) (st' := [.int (nI 1), .ref 99]) (E' := E1) (I' := I1) (J' := J1) (S' := S1) am_e189 rfl rfl rfl rfl ?_
            refine w_st (i' := 3) (ls' := [.ref 99, .int (nI 1)]) (st' := []) (E' := E1) (I' := (u_I I1 99 (upd (I1 99) 3 (nI 1)))) (J' := J1) (S' := S1) am_e189 rfl rfl rfl rfl ?_
            refine w_st (i' := 4) (ls' := [.ref 99, .int (nI 1)]) (st' := [.int (nI 0)]) (E' := E1) (I' := (u_I I1 99 (upd (I1 99) 3 (nI 1)))) (J' := J1) (S' := S1) am_e189 rfl rfl rfl rfl ?_
            refine w_end (E' := E1) (I' := (u_I I1 99 (upd (I1 99) 3 (nI 1)))) (J' := J1) (S' := S1) am_e189 rfl rfl rfl (q_mkI ?_)
            show am_ww 272 26 [.ref 99, .int p1, .int p2, .int v1] [.int (nI 0)] E1 (u_I I1 99 (upd (I1 99) 3 (nI 1))) J1 S1 _
            exact w_end am_e272 rfl rfl rfl h
          · replace h := h.2 (of_decide_eq_false c)
            refine w_st (i' := 7) (ls' := [.int p2, .int (nI 0), .int (nI 2)]) (st' := [.int (nI 1)]) (E' := E1) (I' := I1) (J' := J1) (S' := S1) am_e232 rfl rfl rfl rfl ?_
            refine w_st (i' := 9) (ls' := [.int p2, .int (nI 0), .int (nI 2)]) (st' := [.int (nI 1)]) (E' := E1) (I' := I1) (J' := J1) (S' := S1) am_e232 rfl rfl rfl rfl ?_
            refine w_end (E' := E1) (I' := I1) (J' := J1) (S' := S1) am_e232 rfl rfl rfl (q_mkI ?_)
            show am_ww 272 22 [.ref 99, .int p1, .int p2, .int v1] [.int (nI 1)] E1 I1 J1 S1 _
            refine w_st (i' := 27) (ls' := [.ref 99, .int p1, .int p2, .int v1]) (st' := []) (E' := E1) (I' := I1) (J' := J1) (S' := S1) am_e272 rfl rfl rfl rfl ?_
            refine w_st (i' := 28) (ls' := [.ref 99, .int p1, .int p2, .int v1]) (st' := [.int p2]) (E' := E1) (I' := I1) (J' := J1) (S' := S1) am_e272 rfl rfl rfl rfl ?_
            refine w_mg (i := 50) (ls' := [.ref 99, .int p1, .int p2, .int v1]) (st' := [.int (if p2 = 0 then (((I1 131) p1.toNatClampNeg) / (nI 16)) else (if p2 = (nI 1) then (((I1 131) p1.toNatClampNeg) - ((I1 131) p1.toNatClampNeg) / (nI 16) * (nI 16)) else ((I1 132) p1.toNatClampNeg)))]) (fun hm => ?_) ?_
            · replace h := h.1
              refine w_if1 am_e272 rfl rfl (fun c => ?_) (fun c => ?_)
              · have m2 : ¬ (p2 = 0) := (of_decide_eq_true c)
                replace h := h.2 m2
                refine w_st (i' := 37) (ls' := [.ref 99, .int p1, .int p2, .int v1]) (st' := [.int p2]) (E' := E1) (I' := I1) (J' := J1) (S' := S1) am_e272 rfl rfl rfl rfl ?_
                refine w_st (i' := 38) (ls' := [.ref 99, .int p1, .int p2, .int v1]) (st' := [.int (nI 1), .int p2]) (E' := E1) (I' := I1) (J' := J1) (S' := S1) am_e272 rfl rfl rfl rfl ?_
                refine w_if2 am_e272 rfl rfl (fun c => ?_) (fun c => ?_)
                · have m3 : ¬ (p2 = (nI 1)) := (of_decide_eq_true c)
                  replace h := h.2 m3
                  refine w_st (i' := 47) (ls' := [.ref 99, .int p1, .int p2, .int v1]) (st' := [.ref 99]) (E' := E1) (I' := I1) (J' := J1) (S' := S1) am_e272 rfl rfl rfl rfl ?_
                  refine w_st (i' := 48) (ls' := [.ref 99, .int p1, .int p2, .int v1]) (st' := [.ref 132]) (E' := E1) (I' := I1) (J' := J1) (S' := S1) am_e272 rfl rfl rfl rfl ?_
                  refine w_st (i' := 49) (ls' := [.ref 99, .int p1, .int p2, .int v1]) (st' := [.int p1, .ref 132]) (E' := E1) (I' := I1) (J' := J1) (S' := S1) am_e272 rfl rfl rfl rfl ?_
                  refine w_ia (k := 132) (n := 64) (jn := p1.toNatClampNeg) am_e272 rfl rfl (by decide) h.1 rfl ?_
                  replace h := h.2
                  show am_ww 272 50 [.ref 99, .int p1, .int p2, .int v1] [.int ((I1 132) p1.toNatClampNeg)] E1 I1 J1 S1 _
                  first | exact hm | (simp only [if_neg m2, if_neg m3] at hm; exact hm)
                · have m3 : p2 = (nI 1) := (Decidable.not_not.mp (of_decide_eq_false c))
                  replace h := h.1 m3
                  refine w_st (i' := 40) (ls' := [.ref 99, .int p1, .int p2, .int v1]) (st' := [.ref 99]) (E' := E1) (I' := I1) (J' := J1) (S' := S1) am_e272 rfl rfl rfl rfl ?_
                  refine w_st (i' := 41) (ls' := [.ref 99, .int p1, .int p2, .int v1]) (st' := [.ref 131]) (E' := E1) (I' := I1) (J' := J1) (S' := S1) am_e272 rfl rfl rfl rfl ?_
                  refine w_st (i' := 42) (ls' := [.ref 99, .int p1, .int p2, .int v1]) (st' := [.int p1, .ref 131]) (E' := E1) (I' := I1) (J' := J1) (S' := S1) am_e272 rfl rfl rfl rfl ?_
                  refine w_ia (k := 131) (n := 64) (jn := p1.toNatClampNeg) am_e272 rfl rfl (by decide) h.1 rfl ?_
                  replace h := h.2
                  show am_ww 272 43 [.ref 99, .int p1, .int p2, .int v1] [.int ((I1 131) p1.toNatClampNeg)] E1 I1 J1 S1 _
                  refine w_st (i' := 44) (ls' := [.ref 99, .int p1, .int p2, .int v1]) (st' := [.int (nI 16), .int ((I1 131) p1.toNatClampNeg)]) (E' := E1) (I' := I1) (J' := J1) (S' := S1) am_e272 rfl rfl rfl rfl ?_
                  refine w_rm (by decide) am_e272 rfl ?_
                  refine w_st (i' := 50) (ls' := [.ref 99, .int p1, .int p2, .int v1]) (st' := [.int (((I1 131) p1.toNatClampNeg) - ((I1 131) p1.toNatClampNeg) / (nI 16) * (nI 16))]) (E' := E1) (I' := I1) (J' := J1) (S' := S1) am_e272 rfl rfl rfl rfl ?_
                  first | exact hm | (simp only [if_neg m2, if_pos m3] at hm; exact hm)
              · have m2 : p2 = 0 := (Decidable.not_not.mp (of_decide_eq_false c))
                replace h := h.1 m2
                refine w_st (i' := 30) (ls' := [.ref 99, .int p1, .int p2, .int v1]) (st' := [.ref 99]) (E' := E1) (I' := I1) (J' := J1) (S' := S1) am_e272 rfl rfl rfl rfl ?_
                refine w_st (i' := 31) (ls' := [.ref 99, .int p1, .int p2, .int v1]) (st' := [.ref 131]) (E' := E1) (I' := I1) (J' := J1) (S' := S1) am_e272 rfl rfl rfl rfl ?_
                refine w_st (i' := 32) (ls' := [.ref 99, .int p1, .int p2, .int v1]) (st' := [.int p1, .ref 131]) (E' := E1) (I' := I1) (J' := J1) (S' := S1) am_e272 rfl rfl rfl rfl ?_
                refine w_ia (k := 131) (n := 64) (jn := p1.toNatClampNeg) am_e272 rfl rfl (by decide) h.1 rfl ?_
                replace h := h.2
                show am_ww 272 33 [.ref 99, .int p1, .int p2, .int v1] [.int ((I1 131) p1.toNatClampNeg)] E1 I1 J1 S1 _
                refine w_st (i' := 34) (ls' := [.ref 99, .int p1, .int p2, .int v1]) (st' := [.int (nI 16), .int ((I1 131) p1.toNatClampNeg)]) (E' := E1) (I' := I1) (J' := J1) (S' := S1) am_e272 rfl rfl rfl rfl ?_
                refine w_dv (by decide) am_e272 rfl ?_
                refine w_st (i' := 50) (ls' := [.ref 99, .int p1, .int p2, .int v1]) (st' := [.int (((I1 131) p1.toNatClampNeg) / (nI 16))]) (E' := E1) (I' := I1) (J' := J1) (S' := S1) am_e272 rfl rfl rfl rfl ?_
                first | exact hm | (simp only [if_pos m2] at hm; exact hm)
            replace h := h.2
            refine w_var (fun w4 => am_ww 272 50 [.ref 99, .int p1, .int p2, .int v1] [.int w4] E1 I1 J1 S1 _) (if p2 = 0 then (((I1 131) p1.toNatClampNeg) / (nI 16)) else (if p2 = (nI 1) then (((I1 131) p1.toNatClampNeg) - ((I1 131) p1.toNatClampNeg) / (nI 16) * (nI 16)) else ((I1 132) p1.toNatClampNeg))) (fun w4 hw4 => ?_)
            replace h := h w4 hw4
            exact w_ri am_e272 rfl rfl h
  · replace h := h.1 (Decidable.not_not.mp (of_decide_eq_false c))
    refine w_st (i' := 10) (ls' := [.ref 99, .int p1, .int p2, .int v1]) (st' := [.int v1]) (E' := E1) (I' := I1) (J' := J1) (S' := S1) am_e272 rfl rfl rfl rfl ?_
    exact w_ri am_e272 rfl rfl h
-- 277 isAnother
theorem g277_0 {p1 : Int32} {E : am_Ev} {I : Nat → Nat → Int32} {J : Nat → Nat → Int64} {S : Nat → Nat → Option Nat} {Q : am_Qt}  (h : am_ww 277 2 [.ref 99, .int p1, .int (nI 0)] [] E I J S Q) : am_ww 277 0 [.ref 99, .int p1, am_U] [] E I J S Q := by
  refine w_st (i' := 1) (ls' := [.ref 99, .int p1, am_U]) (st' := [.int (nI 0)]) (E' := E) (I' := I) (J' := J) (S' := S) am_e277 rfl rfl rfl rfl ?_
  refine w_st (i' := 2) (ls' := [.ref 99, .int p1, .int (nI 0)]) (st' := []) (E' := E) (I' := I) (J' := J) (S' := S) am_e277 rfl rfl rfl rfl ?_
  exact h
theorem g277_2 {x1 : Int32} {x2 : Int32} {E : am_Ev} {I : Nat → Nat → Int32} {J : Nat → Nat → Int64} {S : Nat → Nat → Option Nat} {Q : am_Qt}  (h : ((nI 44) < x2 → (Q (.inl (some (.int (nI 0)))) E I J S)) ∧ (¬ (nI 44) < x2 → (vp_in x2 51 ∧ (vp_in (((nI 51) * x1) + x2) 20451 ∧ (∀ w3 : Int32, w3 = ((I 117) ((((nI 51) * x1) + x2).toNatClampNeg)) → ((((I 116) x2.toNatClampNeg) = w3 → (am_ww 277 2 [.ref 99, .int x1, .int (x2 + nI 1)] [] E I J S Q)) ∧ (¬ ((I 116) x2.toNatClampNeg) = w3 → (Q (.inl (some (.int (nI 1)))) E I J S)))))))) : am_ww 277 2 [.ref 99, .int x1, .int x2] [] E I J S Q := by
  refine w_st (i' := 3) (ls' := [.ref 99, .int x1, .int x2]) (st' := [.int x2]) (E' := E) (I' := I) (J' := J) (S' := S) am_e277 rfl rfl rfl rfl ?_
  refine w_st (i' := 4) (ls' := [.ref 99, .int x1, .int x2]) (st' := [.int (nI 44), .int x2]) (E' := E) (I' := I) (J' := J) (S' := S) am_e277 rfl rfl rfl rfl ?_
  refine w_if2 am_e277 rfl rfl (fun c => ?_) (fun c => ?_)
  · replace h := h.1 (of_decide_eq_true c)
    refine w_st (i' := 19) (ls' := [.ref 99, .int x1, .int x2]) (st' := [.int (nI 0)]) (E' := E) (I' := I) (J' := J) (S' := S) am_e277 rfl rfl rfl rfl ?_
    exact w_end am_e277 rfl rfl rfl h
  · replace h := h.2 (of_decide_eq_false c)
    refine w_st (i' := 6) (ls' := [.ref 99, .int x1, .int x2]) (st' := [.ref 99]) (E' := E) (I' := I) (J' := J) (S' := S) am_e277 rfl rfl rfl rfl ?_
    refine w_st (i' := 7) (ls' := [.ref 99, .int x1, .int x2]) (st' := [.ref 116]) (E' := E) (I' := I) (J' := J) (S' := S) am_e277 rfl rfl rfl rfl ?_
    refine w_st (i' := 8) (ls' := [.ref 99, .int x1, .int x2]) (st' := [.int x2, .ref 116]) (E' := E) (I' := I) (J' := J) (S' := S) am_e277 rfl rfl rfl rfl ?_
    have hf1 := h.1
    replace h := h.2
    refine w_ia (k := 116) (n := 51) (jn := x2.toNatClampNeg) am_e277 rfl rfl (by decide) hf1 rfl ?_
    refine w_st (i' := 10) (ls' := [.ref 99, .int x1, .int x2]) (st' := [.ref 99, .int ((I 116) x2.toNatClampNeg)]) (E' := E) (I' := I) (J' := J) (S' := S) am_e277 rfl rfl rfl rfl ?_
    refine w_st (i' := 11) (ls' := [.ref 99, .int x1, .int x2]) (st' := [.int x1, .ref 99, .int ((I 116) x2.toNatClampNeg)]) (E' := E) (I' := I) (J' := J) (S' := S) am_e277 rfl rfl rfl rfl ?_
    refine w_st (i' := 12) (ls' := [.ref 99, .int x1, .int x2]) (st' := [.int x2, .int x1, .ref 99, .int ((I 116) x2.toNatClampNeg)]) (E' := E) (I' := I) (J' := J) (S' := S) am_e277 rfl rfl rfl rfl ?_
    refine w_cI am_e277 rfl rfl (as := [.ref 99, .int x1, .int x2]) (rest := [.int ((I 116) x2.toNatClampNeg)]) rfl rfl ?_
    show am_ww 245 0 [.ref 99, .int x1, .int x2] [] E I J S _
    refine w_st (i' := 1) (ls' := [.ref 99, .int x1, .int x2]) (st' := [.ref 99]) (E' := E) (I' := I) (J' := J) (S' := S) am_e245 rfl rfl rfl rfl ?_
    refine w_st (i' := 2) (ls' := [.ref 99, .int x1, .int x2]) (st' := [.ref 117]) (E' := E) (I' := I) (J' := J) (S' := S) am_e245 rfl rfl rfl rfl ?_
    refine w_st (i' := 3) (ls' := [.ref 99, .int x1, .int x2]) (st' := [.int (nI 51), .ref 117]) (E' := E) (I' := I) (J' := J) (S' := S) am_e245 rfl rfl rfl rfl ?_
    refine w_st (i' := 4) (ls' := [.ref 99, .int x1, .int x2]) (st' := [.int x1, .int (nI 51), .ref 117]) (E' := E) (I' := I) (J' := J) (S' := S) am_e245 rfl rfl rfl rfl ?_
    refine w_st (i' := 5) (ls' := [.ref 99, .int x1, .int x2]) (st' := [.int ((nI 51) * x1), .ref 117]) (E' := E) (I' := I) (J' := J) (S' := S) am_e245 rfl rfl rfl rfl ?_
    refine w_st (i' := 6) (ls' := [.ref 99, .int x1, .int x2]) (st' := [.int x2, .int ((nI 51) * x1), .ref 117]) (E' := E) (I' := I) (J' := J) (S' := S) am_e245 rfl rfl rfl rfl ?_
    refine w_st (i' := 7) (ls' := [.ref 99, .int x1, .int x2]) (st' := [.int (((nI 51) * x1) + x2), .ref 117]) (E' := E) (I' := I) (J' := J) (S' := S) am_e245 rfl rfl rfl rfl ?_
    have hf2 := h.1
    replace h := h.2
    refine w_ia (k := 117) (n := 20451) (jn := (((nI 51) * x1) + x2).toNatClampNeg) am_e245 rfl rfl (by decide) hf2 rfl ?_
    refine w_ri am_e245 rfl rfl (q_mkI ?_)
    show am_ww 277 13 [.ref 99, .int x1, .int x2] [.int ((I 117) ((((nI 51) * x1) + x2).toNatClampNeg)), .int ((I 116) x2.toNatClampNeg)] E I J S _
    refine w_var (fun w3 => am_ww 277 13 [.ref 99, .int x1, .int x2] [.int w3, .int ((I 116) x2.toNatClampNeg)] E I J S _) ((I 117) ((((nI 51) * x1) + x2).toNatClampNeg)) (fun w3 hw3 => ?_)
    replace h := h w3 hw3
    refine w_if2 am_e277 rfl rfl (fun c => ?_) (fun c => ?_)
    · replace h := h.1 (of_decide_eq_true c)
      refine w_st (i' := 17) (ls' := [.ref 99, .int x1, .int (x2 + nI 1)]) (st' := []) (E' := E) (I' := I) (J' := J) (S' := S) am_e277 rfl rfl rfl rfl ?_
      refine w_st (i' := 2) (ls' := [.ref 99, .int x1, .int (x2 + nI 1)]) (st' := []) (E' := E) (I' := I) (J' := J) (S' := S) am_e277 rfl rfl rfl rfl ?_
      exact h
    · replace h := h.2 (of_decide_eq_false c)
      refine w_st (i' := 15) (ls' := [.ref 99, .int x1, .int x2]) (st' := [.int (nI 1)]) (E' := E) (I' := I) (J' := J) (S' := S) am_e277 rfl rfl rfl rfl ?_
      exact w_end am_e277 rfl rfl rfl h
-- 279 takeSwitch
theorem g279_0  {E : am_Ev} {I : Nat → Nat → Int32} {J : Nat → Nat → Int64} {S : Nat → Nat → Option Nat} {Q : am_Qt}  (h : ∀ w3 : Int32, w3 = (if ((I 99) 51) = (nI 1) then (if ((I 116) 47) < ((I 99) 52) then ((I 116) 47) else (((I 116) 47) + (nI 1))) else ((I 116) 47)) → (vp_in (((nI 51) * ((I 99) 12)) + (nI 47)) 20451 ∧ (∀ w5 : Int32, w5 = ((I 117) ((((nI 51) * ((I 99) 12)) + (nI 47)).toNatClampNeg)) → ((w3 < w5 → ((((I 116) 44) = (-1) → (am_ww 279 58 [.ref 99, .int ((I 116) 47), .int w3, .int ((I 116) 44)] [] E I J S Q)) ∧ (¬ ((I 116) 44) = (-1) → (∀ w6 : Int32, w6 = (((nI 16) + ((nI 6) * ((I 116) 44))) + (nI 5)) → (vp_in w6 51 ∧ (vp_in w3 400 ∧ ((((I 116) w6.toNatClampNeg) = ((I 120) w3.toNatClampNeg) → (∀ w9 : Int32, w9 = (((nI 16) + ((nI 6) * ((I 116) 44))) + (nI 4)) → (vp_in w9 51 ∧ ((((I 116) w9.toNatClampNeg) = ((I 121) w3.toNatClampNeg) → (am_ww 279 58 [.ref 99, .int ((I 116) 47), .int w3, .int ((I 116) 44)] [] E I J S Q)) ∧ (¬ ((I 116) w9.toNatClampNeg) = ((I 121) w3.toNatClampNeg) → (Q (.inl none) E I J S)))))) ∧ (¬ ((I 116) w6.toNatClampNeg) = ((I 120) w3.toNatClampNeg) → (Q (.inl none) E I J S))))))))) ∧ (¬ w3 < w5 → (Q (.inl none) E I J S)))))) : am_ww 279 0 [.ref 99, am_U, am_U, am_U] [] E I J S Q := by
  refine w_st (i' := 1) (ls' := [.ref 99, am_U, am_U, am_U]) (st' := [.ref 99]) (E' := E) (I' := I) (J' := J) (S' := S) am_e279 rfl rfl rfl rfl ?_
  refine w_st (i' := 2) (ls' := [.ref 99, am_U, am_U, am_U]) (st' := [.ref 116]) (E' := E) (I' := I) (J' := J) (S' := S) am_e279 rfl rfl rfl rfl ?_
  refine w_st (i' := 3) (ls' := [.ref 99, am_U, am_U, am_U]) (st' := [.int (nI 47), .ref 116]) (E' := E) (I' := I) (J' := J) (S' := S) am_e279 rfl rfl rfl rfl ?_
  refine w_ia (k := 116) (n := 51) (jn := 47) am_e279 rfl rfl (by decide) (vp_in_nI (by decide) (by decide)) rfl ?_
  show am_ww 279 4 [.ref 99, am_U, am_U, am_U] [.int ((I 116) 47)] E I J S _
  refine w_st (i' := 5) (ls' := [.ref 99, .int ((I 116) 47), am_U, am_U]) (st' := []) (E' := E) (I' := I) (J' := J) (S' := S) am_e279 rfl rfl rfl rfl ?_
  refine w_st (i' := 6) (ls' := [.ref 99, .int ((I 116) 47), am_U, am_U]) (st' := [.ref 99]) (E' := E) (I' := I) (J' := J) (S' := S) am_e279 rfl rfl rfl rfl ?_
  refine w_st (i' := 7) (ls' := [.ref 99, .int ((I 116) 47), am_U, am_U]) (st' := [.int ((I 99) 51)]) (E' := E) (I' := I) (J' := J) (S' := S) am_e279 rfl rfl rfl rfl ?_
  refine w_st (i' := 8) (ls' := [.ref 99, .int ((I 116) 47), am_U, am_U]) (st' := [.int (nI 1), .int ((I 99) 51)]) (E' := E) (I' := I) (J' := J) (S' := S) am_e279 rfl rfl rfl rfl ?_
  refine w_mg (i := 18) (ls' := [.ref 99, .int ((I 116) 47), am_U, am_U]) (st' := [.int (if ((I 99) 51) = (nI 1) then (if ((I 116) 47) < ((I 99) 52) then ((I 116) 47) else (((I 116) 47) + (nI 1))) else ((I 116) 47))]) (fun hm => ?_) ?_
  · clear h
    refine w_if2 am_e279 rfl rfl (fun c => ?_) (fun c => ?_)
    · have m1 : ¬ (((I 99) 51) = (nI 1)) := (of_decide_eq_true c)
      refine w_st (i' := 18) (ls' := [.ref 99, .int ((I 116) 47), am_U, am_U]) (st' := [.int ((I 116) 47)]) (E' := E) (I' := I) (J' := J) (S' := S) am_e279 rfl rfl rfl rfl ?_
      first | exact hm | (simp only [if_neg m1] at hm; exact hm)
    · have m1 : ((I 99) 51) = (nI 1) := (Decidable.not_not.mp (of_decide_eq_false c))
      refine w_st (i' := 10) (ls' := [.ref 99, .int ((I 116) 47), am_U, am_U]) (st' := [.int ((I 116) 47)]) (E' := E) (I' := I) (J' := J) (S' := S) am_e279 rfl rfl rfl rfl ?_
      refine w_st (i' := 11) (ls' := [.ref 99, .int ((I 116) 47), am_U, am_U]) (st' := [.ref 99, .int ((I 116) 47)]) (E' := E) (I' := I) (J' := J) (S' := S) am_e279 rfl rfl rfl rfl ?_
      refine w_st (i' := 12) (ls' := [.ref 99, .int ((I 116) 47), am_U, am_U]) (st' := [.int ((I 99) 52), .int ((I 116) 47)]) (E' := E) (I' := I) (J' := J) (S' := S) am_e279 rfl rfl rfl rfl ?_
      refine w_if2 am_e279 rfl rfl (fun c => ?_) (fun c => ?_)
      · have m2 : ((I 116) 47) < ((I 99) 52) := (of_decide_eq_true c)
        refine w_st (i' := 18) (ls' := [.ref 99, .int ((I 116) 47), am_U, am_U]) (st' := [.int ((I 116) 47)]) (E' := E) (I' := I) (J' := J) (S' := S) am_e279 rfl rfl rfl rfl ?_
        first | exact hm | (simp only [if_pos m1, if_pos m2] at hm; exact hm)
      · have m2 : ¬ (((I 116) 47) < ((I 99) 52)) := (of_decide_eq_false c)
        refine w_st (i' := 14) (ls' := [.ref 99, .int ((I 116) 47), am_U, am_U]) (st' := [.int ((I 116) 47)]) (E' := E) (I' := I) (J' := J) (S' := S) am_e279 rfl rfl rfl rfl ?_
        refine w_st (i' := 15) (ls' := [.ref 99, .int ((I 116) 47), am_U, am_U]) (st' := [.int (nI 1), .int ((I 116) 47)]) (E' := E) (I' := I) (J' := J) (S' := S) am_e279 rfl rfl rfl rfl ?_
        refine w_st (i' := 16) (ls' := [.ref 99, .int ((I 116) 47), am_U, am_U]) (st' := [.int (((I 116) 47) + (nI 1))]) (E' := E) (I' := I) (J' := J) (S' := S) am_e279 rfl rfl rfl rfl ?_
        refine w_st (i' := 18) (ls' := [.ref 99, .int ((I 116) 47), am_U, am_U]) (st' := [.int (((I 116) 47) + (nI 1))]) (E' := E) (I' := I) (J' := J) (S' := S) am_e279 rfl rfl rfl rfl ?_
        first | exact hm | (simp only [if_pos m1, if_neg m2] at hm; exact hm)
  refine w_var (fun w3 => am_ww 279 18 [.ref 99, .int ((I 116) 47), am_U, am_U] [.int w3] E I J S _) (if ((I 99) 51) = (nI 1) then (if ((I 116) 47) < ((I 99) 52) then ((I 116) 47) else (((I 116) 47) + (nI 1))) else ((I 116) 47)) (fun w3 hw3 => ?_)
  replace h := h w3 hw3
  refine w_st (i' := 19) (ls' := [.ref 99, .int ((I 116) 47), .int w3, am_U]) (st' := []) (E' := E) (I' := I) (J' := J) (S' := S) am_e279 rfl rfl rfl rfl ?_
  refine w_st (i' := 20) (ls' := [.ref 99, .int ((I 116) 47), .int w3, am_U]) (st' := [.int w3]) (E' := E) (I' := I) (J' := J) (S' := S) am_e279 rfl rfl rfl rfl ?_
  refine w_st (i' := 21) (ls' := [.ref 99, .int ((I 116) 47), .int w3, am_U]) (st' := [.ref 99, .int w3]) (E' := E) (I' := I) (J' := J) (S' := S) am_e279 rfl rfl rfl rfl ?_
  refine w_st (i' := 22) (ls' := [.ref 99, .int ((I 116) 47), .int w3, am_U]) (st' := [.ref 99, .ref 99, .int w3]) (E' := E) (I' := I) (J' := J) (S' := S) am_e279 rfl rfl rfl rfl ?_
  refine w_st (i' := 23) (ls' := [.ref 99, .int ((I 116) 47), .int w3, am_U]) (st' := [.int ((I 99) 12), .ref 99, .int w3]) (E' := E) (I' := I) (J' := J) (S' := S) am_e279 rfl rfl rfl rfl ?_
  refine w_st (i' := 24) (ls' := [.ref 99, .int ((I 116) 47), .int w3, am_U]) (st' := [.int (nI 47), .int ((I 99) 12), .ref 99, .int w3]) (E' := E) (I' := I) (J' := J) (S' := S) am_e279 rfl rfl rfl rfl ?_
  refine w_cI am_e279 rfl rfl (as := [.ref 99, .int ((I 99) 12), .int (nI 47)]) (rest := [.int w3]) rfl rfl ?_
  show am_ww 245 0 [.ref 99, .int ((I 99) 12), .int (nI 47)] [] E I J S _
  refine w_st (i' := 1) (ls' := [.ref 99, .int ((I 99) 12), .int (nI 47)]) (st' := [.ref 99]) (E' := E) (I' := I) (J' := J) (S' := S) am_e245 rfl rfl rfl rfl ?_
  refine w_st (i' := 2) (ls' := [.ref 99, .int ((I 99) 12), .int (nI 47)]) (st' := [.ref 117]) (E' := E) (I' := I) (J' := J) (S' := S) am_e245 rfl rfl rfl rfl ?_
  refine w_st (i' := 3) (ls' := [.ref 99, .int ((I 99) 12), .int (nI 47)]) (st' := [.int (nI 51), .ref 117]) (E' := E) (I' := I) (J' := J) (S' := S) am_e245 rfl rfl rfl rfl ?_
  refine w_st (i' := 4) (ls' := [.ref 99, .int ((I 99) 12), .int (nI 47)]) (st' := [.int ((I 99) 12), .int (nI 51), .ref 117]) (E' := E) (I' := I) (J' := J) (S' := S) am_e245 rfl rfl rfl rfl ?_
  refine w_st (i' := 5) (ls' := [.ref 99, .int ((I 99) 12), .int (nI 47)]) (st' := [.int ((nI 51) * ((I 99) 12)), .ref 117]) (E' := E) (I' := I) (J' := J) (S' := S) am_e245 rfl rfl rfl rfl ?_
  refine w_st (i' := 6) (ls' := [.ref 99, .int ((I 99) 12), .int (nI 47)]) (st' := [.int (nI 47), .int ((nI 51) * ((I 99) 12)), .ref 117]) (E' := E) (I' := I) (J' := J) (S' := S) am_e245 rfl rfl rfl rfl ?_
  refine w_st (i' := 7) (ls' := [.ref 99, .int ((I 99) 12), .int (nI 47)]) (st' := [.int (((nI 51) * ((I 99) 12)) + (nI 47)), .ref 117]) (E' := E) (I' := I) (J' := J) (S' := S) am_e245 rfl rfl rfl rfl ?_
  have hf4 := h.1
  replace h := h.2
  refine w_ia (k := 117) (n := 20451) (jn := (((nI 51) * ((I 99) 12)) + (nI 47)).toNatClampNeg) am_e245 rfl rfl (by decide) hf4 rfl ?_
  refine w_ri am_e245 rfl rfl (q_mkI ?_)
  show am_ww 279 25 [.ref 99, .int ((I 116) 47), .int w3, am_U] [.int ((I 117) ((((nI 51) * ((I 99) 12)) + (nI 47)).toNatClampNeg)), .int w3] E I J S _
  refine w_var (fun w5 => am_ww 279 25 [.ref 99, .int ((I 116) 47), .int w3, am_U] [.int w5, .int w3] E I J S _) ((I 117) ((((nI 51) * ((I 99) 12)) + (nI 47)).toNatClampNeg)) (fun w5 hw5 => ?_)
  replace h := h w5 hw5
  refine w_if2 am_e279 rfl rfl (fun c => ?_) (fun c => ?_)
  · replace h := h.1 (of_decide_eq_true c)
    refine w_st (i' := 28) (ls' := [.ref 99, .int ((I 116) 47), .int w3, am_U]) (st' := [.ref 99]) (E' := E) (I' := I) (J' := J) (S' := S) am_e279 rfl rfl rfl rfl ?_
    refine w_st (i' := 29) (ls' := [.ref 99, .int ((I 116) 47), .int w3, am_U]) (st' := [.ref 116]) (E' := E) (I' := I) (J' := J) (S' := S) am_e279 rfl rfl rfl rfl ?_
    refine w_st (i' := 30) (ls' := [.ref 99, .int ((I 116) 47), .int w3, am_U]) (st' := [.int (nI 44), .ref 116]) (E' := E) (I' := I) (J' := J) (S' := S) am_e279 rfl rfl rfl rfl ?_
    refine w_ia (k := 116) (n := 51) (jn := 44) am_e279 rfl rfl (by decide) (vp_in_nI (by decide) (by decide)) rfl ?_
    show am_ww 279 31 [.ref 99, .int ((I 116) 47), .int w3, am_U] [.int ((I 116) 44)] E I J S _
    refine w_st (i' := 32) (ls' := [.ref 99, .int ((I 116) 47), .int w3, .int ((I 116) 44)]) (st' := []) (E' := E) (I' := I) (J' := J) (S' := S) am_e279 rfl rfl rfl rfl ?_
    refine w_st (i' := 33) (ls' := [.ref 99, .int ((I 116) 47), .int w3, .int ((I 116) 44)]) (st' := [.int ((I 116) 44)]) (E' := E) (I' := I) (J' := J) (S' := S) am_e279 rfl rfl rfl rfl ?_
    refine w_st (i' := 34) (ls' := [.ref 99, .int ((I 116) 47), .int w3, .int ((I 116) 44)]) (st' := [.int (-1), .int ((I 116) 44)]) (E' := E) (I' := I) (J' := J) (S' := S) am_e279 rfl rfl rfl rfl ?_
    refine w_if2 am_e279 rfl rfl (fun c => ?_) (fun c => ?_)
    · replace h := h.1 (of_decide_eq_true c)
      exact h
    · replace h := h.2 (of_decide_eq_false c)
      refine w_st (i' := 36) (ls' := [.ref 99, .int ((I 116) 47), .int w3, .int ((I 116) 44)]) (st' := [.ref 99]) (E' := E) (I' := I) (J' := J) (S' := S) am_e279 rfl rfl rfl rfl ?_
      refine w_st (i' := 37) (ls' := [.ref 99, .int ((I 116) 47), .int w3, .int ((I 116) 44)]) (st' := [.ref 116]) (E' := E) (I' := I) (J' := J) (S' := S) am_e279 rfl rfl rfl rfl ?_
      refine w_st (i' := 38) (ls' := [.ref 99, .int ((I 116) 47), .int w3, .int ((I 116) 44)]) (st' := [.int ((I 116) 44), .ref 116]) (E' := E) (I' := I) (J' := J) (S' := S) am_e279 rfl rfl rfl rfl ?_
      refine w_st (i' := 39) (ls' := [.ref 99, .int ((I 116) 47), .int w3, .int ((I 116) 44)]) (st' := [.int (nI 5), .int ((I 116) 44), .ref 116]) (E' := E) (I' := I) (J' := J) (S' := S) am_e279 rfl rfl rfl rfl ?_
      refine w_cI am_e279 rfl rfl (as := [.int ((I 116) 44), .int (nI 5)]) (rest := [.ref 116]) rfl rfl ?_
      show am_ww 222 0 [.int ((I 116) 44), .int (nI 5)] [] E I J S _
      refine w_st (i' := 1) (ls' := [.int ((I 116) 44), .int (nI 5)]) (st' := [.int (nI 16)]) (E' := E) (I' := I) (J' := J) (S' := S) am_e222 rfl rfl rfl rfl ?_
      refine w_st (i' := 2) (ls' := [.int ((I 116) 44), .int (nI 5)]) (st' := [.int (nI 6), .int (nI 16)]) (E' := E) (I' := I) (J' := J) (S' := S) am_e222 rfl rfl rfl rfl ?_
      refine w_st (i' := 3) (ls' := [.int ((I 116) 44), .int (nI 5)]) (st' := [.int ((I 116) 44), .int (nI 6), .int (nI 16)]) (E' := E) (I' := I) (J' := J) (S' := S) am_e222 rfl rfl rfl rfl ?_
      refine w_st (i' := 4) (ls' := [.int ((I 116) 44), .int (nI 5)]) (st' := [.int ((nI 6) * ((I 116) 44)), .int (nI 16)]) (E' := E) (I' := I) (J' := J) (S' := S) am_e222 rfl rfl rfl rfl ?_
      refine w_st (i' := 5) (ls' := [.int ((I 116) 44), .int (nI 5)]) (st' := [.int ((nI 16) + ((nI 6) * ((I 116) 44)))]) (E' := E) (I' := I) (J' := J) (S' := S) am_e222 rfl rfl rfl rfl ?_
      refine w_st (i' := 6) (ls' := [.int ((I 116) 44), .int (nI 5)]) (st' := [.int (nI 5), .int ((nI 16) + ((nI 6) * ((I 116) 44)))]) (E' := E) (I' := I) (J' := J) (S' := S) am_e222 rfl rfl rfl rfl ?_
      refine w_st (i' := 7) (ls' := [.int ((I 116) 44), .int (nI 5)]) (st' := [.int (((nI 16) + ((nI 6) * ((I 116) 44))) + (nI 5))]) (E' := E) (I' := I) (J' := J) (S' := S) am_e222 rfl rfl rfl rfl ?_
      refine w_ri am_e222 rfl rfl (q_mkI ?_)
      show am_ww 279 40 [.ref 99, .int ((I 116) 47), .int w3, .int ((I 116) 44)] [.int (((nI 16) + ((nI 6) * ((I 116) 44))) + (nI 5)), .ref 116] E I J S _
      refine w_var (fun w6 => am_ww 279 40 [.ref 99, .int ((I 116) 47), .int w3, .int ((I 116) 44)] [.int w6, .ref 116] E I J S _) (((nI 16) + ((nI 6) * ((I 116) 44))) + (nI 5)) (fun w6 hw6 => ?_)
      replace h := h w6 hw6
      have hf7 := h.1
      replace h := h.2
      refine w_ia (k := 116) (n := 51) (jn := w6.toNatClampNeg) am_e279 rfl rfl (by decide) hf7 rfl ?_
      refine w_st (i' := 42) (ls' := [.ref 99, .int ((I 116) 47), .int w3, .int ((I 116) 44)]) (st' := [.ref 99, .int ((I 116) w6.toNatClampNeg)]) (E' := E) (I' := I) (J' := J) (S' := S) am_e279 rfl rfl rfl rfl ?_
      refine w_st (i' := 43) (ls' := [.ref 99, .int ((I 116) 47), .int w3, .int ((I 116) 44)]) (st' := [.ref 120, .int ((I 116) w6.toNatClampNeg)]) (E' := E) (I' := I) (J' := J) (S' := S) am_e279 rfl rfl rfl rfl ?_
      refine w_st (i' := 44) (ls' := [.ref 99, .int ((I 116) 47), .int w3, .int ((I 116) 44)]) (st' := [.int w3, .ref 120, .int ((I 116) w6.toNatClampNeg)]) (E' := E) (I' := I) (J' := J) (S' := S) am_e279 rfl rfl rfl rfl ?_
      have hf8 := h.1
      replace h := h.2
      refine w_ia (k := 120) (n := 400) (jn := w3.toNatClampNeg) am_e279 rfl rfl (by decide) hf8 rfl ?_
      refine w_if2 am_e279 rfl rfl (fun c => ?_) (fun c => ?_)
      · replace h := h.2 (of_decide_eq_true c)
        exact w_end am_e279 rfl rfl rfl h
      · replace h := h.1 (Decidable.not_not.mp (of_decide_eq_false c))
        refine w_st (i' := 47) (ls' := [.ref 99, .int ((I 116) 47), .int w3, .int ((I 116) 44)]) (st' := [.ref 99]) (E' := E) (I' := I) (J' := J) (S' := S) am_e279 rfl rfl rfl rfl ?_
        refine w_st (i' := 48) (ls' := [.ref 99, .int ((I 116) 47), .int w3, .int ((I 116) 44)]) (st' := [.ref 116]) (E' := E) (I' := I) (J' := J) (S' := S) am_e279 rfl rfl rfl rfl ?_
        refine w_st (i' := 49) (ls' := [.ref 99, .int ((I 116) 47), .int w3, .int ((I 116) 44)]) (st' := [.int ((I 116) 44), .ref 116]) (E' := E) (I' := I) (J' := J) (S' := S) am_e279 rfl rfl rfl rfl ?_
        refine w_st (i' := 50) (ls' := [.ref 99, .int ((I 116) 47), .int w3, .int ((I 116) 44)]) (st' := [.int (nI 4), .int ((I 116) 44), .ref 116]) (E' := E) (I' := I) (J' := J) (S' := S) am_e279 rfl rfl rfl rfl ?_
        refine w_cI am_e279 rfl rfl (as := [.int ((I 116) 44), .int (nI 4)]) (rest := [.ref 116]) rfl rfl ?_
        show am_ww 222 0 [.int ((I 116) 44), .int (nI 4)] [] E I J S _
        refine w_st (i' := 1) (ls' := [.int ((I 116) 44), .int (nI 4)]) (st' := [.int (nI 16)]) (E' := E) (I' := I) (J' := J) (S' := S) am_e222 rfl rfl rfl rfl ?_
        refine w_st (i' := 2) (ls' := [.int ((I 116) 44), .int (nI 4)]) (st' := [.int (nI 6), .int (nI 16)]) (E' := E) (I' := I) (J' := J) (S' := S) am_e222 rfl rfl rfl rfl ?_
        refine w_st (i' := 3) (ls' := [.int ((I 116) 44), .int (nI 4)]) (st' := [.int ((I 116) 44), .int (nI 6), .int (nI 16)]) (E' := E) (I' := I) (J' := J) (S' := S) am_e222 rfl rfl rfl rfl ?_
        refine w_st (i' := 4) (ls' := [.int ((I 116) 44), .int (nI 4)]) (st' := [.int ((nI 6) * ((I 116) 44)), .int (nI 16)]) (E' := E) (I' := I) (J' := J) (S' := S) am_e222 rfl rfl rfl rfl ?_
        refine w_st (i' := 5) (ls' := [.int ((I 116) 44), .int (nI 4)]) (st' := [.int ((nI 16) + ((nI 6) * ((I 116) 44)))]) (E' := E) (I' := I) (J' := J) (S' := S) am_e222 rfl rfl rfl rfl ?_
        refine w_st (i' := 6) (ls' := [.int ((I 116) 44), .int (nI 4)]) (st' := [.int (nI 4), .int ((nI 16) + ((nI 6) * ((I 116) 44)))]) (E' := E) (I' := I) (J' := J) (S' := S) am_e222 rfl rfl rfl rfl ?_
        refine w_st (i' := 7) (ls' := [.int ((I 116) 44), .int (nI 4)]) (st' := [.int (((nI 16) + ((nI 6) * ((I 116) 44))) + (nI 4))]) (E' := E) (I' := I) (J' := J) (S' := S) am_e222 rfl rfl rfl rfl ?_
        refine w_ri am_e222 rfl rfl (q_mkI ?_)
        show am_ww 279 51 [.ref 99, .int ((I 116) 47), .int w3, .int ((I 116) 44)] [.int (((nI 16) + ((nI 6) * ((I 116) 44))) + (nI 4)), .ref 116] E I J S _
        refine w_var (fun w9 => am_ww 279 51 [.ref 99, .int ((I 116) 47), .int w3, .int ((I 116) 44)] [.int w9, .ref 116] E I J S _) (((nI 16) + ((nI 6) * ((I 116) 44))) + (nI 4)) (fun w9 hw9 => ?_)
        replace h := h w9 hw9
        have hf10 := h.1
        replace h := h.2
        refine w_ia (k := 116) (n := 51) (jn := w9.toNatClampNeg) am_e279 rfl rfl (by decide) hf10 rfl ?_
        refine w_st (i' := 53) (ls' := [.ref 99, .int ((I 116) 47), .int w3, .int ((I 116) 44)]) (st' := [.ref 99, .int ((I 116) w9.toNatClampNeg)]) (E' := E) (I' := I) (J' := J) (S' := S) am_e279 rfl rfl rfl rfl ?_
        refine w_st (i' := 54) (ls' := [.ref 99, .int ((I 116) 47), .int w3, .int ((I 116) 44)]) (st' := [.ref 121, .int ((I 116) w9.toNatClampNeg)]) (E' := E) (I' := I) (J' := J) (S' := S) am_e279 rfl rfl rfl rfl ?_
        refine w_st (i' := 55) (ls' := [.ref 99, .int ((I 116) 47), .int w3, .int ((I 116) 44)]) (st' := [.int w3, .ref 121, .int ((I 116) w9.toNatClampNeg)]) (E' := E) (I' := I) (J' := J) (S' := S) am_e279 rfl rfl rfl rfl ?_
        refine w_ia (k := 121) (n := 400) (jn := w3.toNatClampNeg) am_e279 rfl rfl (by decide) hf8 rfl ?_
        refine w_if2 am_e279 rfl rfl (fun c => ?_) (fun c => ?_)
        · replace h := h.1 (of_decide_eq_true c)
          exact h
        · replace h := h.2 (of_decide_eq_false c)
          exact w_end am_e279 rfl rfl rfl h
  · replace h := h.2 (of_decide_eq_false c)
    exact w_end am_e279 rfl rfl rfl h
theorem g279_58 {d1 : Value} {x2 : Int32} {d3 : Value} {E : am_Ev} {I : Nat → Nat → Int32} {J : Nat → Nat → Int64} {S : Nat → Nat → Option Nat} {Q : am_Qt} (hd1 : am_isL d1 = false) (hd3 : am_isL d3 = false) (h : ((((I 99) 51) = 0 → ((x2 = ((I 99) 52) → (True)) ∧ (¬ x2 = ((I 99) 52) → (vp_in x2 400 ∧ True)))) ∧ (¬ ((I 99) 51) = 0 → (vp_in x2 400 ∧ True))) ∧ (∀ w3 : Int32, w3 = (if ((I 99) 51) = 0 then (if x2 = ((I 99) 52) then ((I 99) 53) else ((I 122) x2.toNatClampNeg)) else ((I 122) x2.toNatClampNeg)) → (Q (.inl none) E (u_I I 116 (upd (upd (I 116) 47 (((I 116) 47) + (nI 1))) 44 w3)) J S))) : am_ww 279 58 [.ref 99, d1, .int x2, d3] [] E I J S Q := by
  refine w_st (i' := 59) (ls' := [.ref 99, d1, .int x2, d3]) (st' := [.ref 99]) (E' := E) (I' := I) (J' := J) (S' := S) am_e279 rfl rfl rfl rfl ?_
  refine w_st (i' := 60) (ls' := [.ref 99, d1, .int x2, d3]) (st' := [.ref 116]) (E' := E) (I' := I) (J' := J) (S' := S) am_e279 rfl rfl rfl rfl ?_
  refine w_st (i' := 61) (ls' := [.ref 99, d1, .int x2, d3]) (st' := [.int (nI 47), .ref 116]) (E' := E) (I' := I) (J' := J) (S' := S) am_e279 rfl rfl rfl rfl ?_
  refine w_st (i' := 62) (ls' := [.ref 99, d1, .int x2, d3]) (st' := [.int (nI 47), .ref 116, .int (nI 47), .ref 116]) (E' := E) (I' := I) (J' := J) (S' := S) am_e279 rfl rfl rfl rfl ?_
  refine w_ia (k := 116) (n := 51) (jn := 47) am_e279 rfl rfl (by decide) (vp_in_nI (by decide) (by decide)) rfl ?_
  show am_ww 279 63 [.ref 99, d1, .int x2, d3] [.int ((I 116) 47), .int (nI 47), .ref 116] E I J S _
  refine w_st (i' := 64) (ls' := [.ref 99, d1, .int x2, d3]) (st' := [.int (nI 1), .int ((I 116) 47), .int (nI 47), .ref 116]) (E' := E) (I' := I) (J' := J) (S' := S) am_e279 rfl rfl rfl rfl ?_
  refine w_st (i' := 65) (ls' := [.ref 99, d1, .int x2, d3]) (st' := [.int (((I 116) 47) + (nI 1)), .int (nI 47), .ref 116]) (E' := E) (I' := I) (J' := J) (S' := S) am_e279 rfl rfl rfl rfl ?_
  refine w_is (k := 116) (n := 51) (jn := 47) am_e279 rfl rfl (by decide) (vp_in_nI (by decide) (by decide)) rfl ?_
  show am_ww 279 66 [.ref 99, d1, .int x2, d3] [] E (u_I I 116 (upd (I 116) 47 (((I 116) 47) + (nI 1)))) J S _
  refine w_st (i' := 67) (ls' := [.ref 99, d1, .int x2, d3]) (st' := [.ref 99]) (E' := E) (I' := (u_I I 116 (upd (I 116) 47 (((I 116) 47) + (nI 1))))) (J' := J) (S' := S) am_e279 rfl rfl rfl rfl ?_
  refine w_st (i' := 68) (ls' := [.ref 99, d1, .int x2, d3]) (st' := [.ref 116]) (E' := E) (I' := (u_I I 116 (upd (I 116) 47 (((I 116) 47) + (nI 1))))) (J' := J) (S' := S) am_e279 rfl rfl rfl rfl ?_
  refine w_st (i' := 69) (ls' := [.ref 99, d1, .int x2, d3]) (st' := [.int (nI 44), .ref 116]) (E' := E) (I' := (u_I I 116 (upd (I 116) 47 (((I 116) 47) + (nI 1))))) (J' := J) (S' := S) am_e279 rfl rfl rfl rfl ?_
  refine w_st (i' := 70) (ls' := [.ref 99, d1, .int x2, d3]) (st' := [.ref 99, .int (nI 44), .ref 116]) (E' := E) (I' := (u_I I 116 (upd (I 116) 47 (((I 116) 47) + (nI 1))))) (J' := J) (S' := S) am_e279 rfl rfl rfl rfl ?_
  refine w_st (i' := 71) (ls' := [.ref 99, d1, .int x2, d3]) (st' := [.int ((I 99) 51), .int (nI 44), .ref 116]) (E' := E) (I' := (u_I I 116 (upd (I 116) 47 (((I 116) 47) + (nI 1))))) (J' := J) (S' := S) am_e279 rfl rfl rfl rfl ?_
  refine w_mg (i := 83) (ls' := [.ref 99, d1, .int x2, d3]) (st' := [.int (if ((I 99) 51) = 0 then (if x2 = ((I 99) 52) then ((I 99) 53) else ((I 122) x2.toNatClampNeg)) else ((I 122) x2.toNatClampNeg)), .int (nI 44), .ref 116]) (fun hm => ?_) ?_
  · replace h := h.1
    refine w_if1 am_e279 rfl rfl (fun c => ?_) (fun c => ?_)
    · have m1 : ¬ (((I 99) 51) = 0) := (of_decide_eq_true c)
      replace h := h.2 m1
      refine w_st (i' := 80) (ls' := [.ref 99, d1, .int x2, d3]) (st' := [.ref 99, .int (nI 44), .ref 116]) (E' := E) (I' := (u_I I 116 (upd (I 116) 47 (((I 116) 47) + (nI 1))))) (J' := J) (S' := S) am_e279 rfl rfl rfl rfl ?_
      refine w_st (i' := 81) (ls' := [.ref 99, d1, .int x2, d3]) (st' := [.ref 122, .int (nI 44), .ref 116]) (E' := E) (I' := (u_I I 116 (upd (I 116) 47 (((I 116) 47) + (nI 1))))) (J' := J) (S' := S) am_e279 rfl rfl rfl rfl ?_
      refine w_st (i' := 82) (ls' := [.ref 99, d1, .int x2, d3]) (st' := [.int x2, .ref 122, .int (nI 44), .ref 116]) (E' := E) (I' := (u_I I 116 (upd (I 116) 47 (((I 116) 47) + (nI 1))))) (J' := J) (S' := S) am_e279 rfl rfl rfl rfl ?_
      refine w_ia (k := 122) (n := 400) (jn := x2.toNatClampNeg) am_e279 rfl rfl (by decide) h.1 rfl ?_
      replace h := h.2
      show am_ww 279 83 [.ref 99, d1, .int x2, d3] [.int ((I 122) x2.toNatClampNeg), .int (nI 44), .ref 116] E (u_I I 116 (upd (I 116) 47 (((I 116) 47) + (nI 1)))) J S _
      first | exact hm | (simp only [if_neg m1] at hm; exact hm)
    · have m1 : ((I 99) 51) = 0 := (Decidable.not_not.mp (of_decide_eq_false c))
      replace h := h.1 m1
      refine w_st (i' := 73) (ls' := [.ref 99, d1, .int x2, d3]) (st' := [.int x2, .int (nI 44), .ref 116]) (E' := E) (I' := (u_I I 116 (upd (I 116) 47 (((I 116) 47) + (nI 1))))) (J' := J) (S' := S) am_e279 rfl rfl rfl rfl ?_
      refine w_st (i' := 74) (ls' := [.ref 99, d1, .int x2, d3]) (st' := [.ref 99, .int x2, .int (nI 44), .ref 116]) (E' := E) (I' := (u_I I 116 (upd (I 116) 47 (((I 116) 47) + (nI 1))))) (J' := J) (S' := S) am_e279 rfl rfl rfl rfl ?_
      refine w_st (i' := 75) (ls' := [.ref 99, d1, .int x2, d3]) (st' := [.int ((I 99) 52), .int x2, .int (nI 44), .ref 116]) (E' := E) (I' := (u_I I 116 (upd (I 116) 47 (((I 116) 47) + (nI 1))))) (J' := J) (S' := S) am_e279 rfl rfl rfl rfl ?_
      refine w_if2 am_e279 rfl rfl (fun c => ?_) (fun c => ?_)
      · have m2 : ¬ (x2 = ((I 99) 52)) := (of_decide_eq_true c)
        replace h := h.2 m2
        refine w_st (i' := 80) (ls' := [.ref 99, d1, .int x2, d3]) (st' := [.ref 99, .int (nI 44), .ref 116]) (E' := E) (I' := (u_I I 116 (upd (I 116) 47 (((I 116) 47) + (nI 1))))) (J' := J) (S' := S) am_e279 rfl rfl rfl rfl ?_
        refine w_st (i' := 81) (ls' := [.ref 99, d1, .int x2, d3]) (st' := [.ref 122, .int (nI 44), .ref 116]) (E' := E) (I' := (u_I I 116 (upd (I 116) 47 (((I 116) 47) + (nI 1))))) (J' := J) (S' := S) am_e279 rfl rfl rfl rfl ?_
        refine w_st (i' := 82) (ls' := [.ref 99, d1, .int x2, d3]) (st' := [.int x2, .ref 122, .int (nI 44), .ref 116]) (E' := E) (I' := (u_I I 116 (upd (I 116) 47 (((I 116) 47) + (nI 1))))) (J' := J) (S' := S) am_e279 rfl rfl rfl rfl ?_
        refine w_ia (k := 122) (n := 400) (jn := x2.toNatClampNeg) am_e279 rfl rfl (by decide) h.1 rfl ?_
        replace h := h.2
        show am_ww 279 83 [.ref 99, d1, .int x2, d3] [.int ((I 122) x2.toNatClampNeg), .int (nI 44), .ref 116] E (u_I I 116 (upd (I 116) 47 (((I 116) 47) + (nI 1)))) J S _
        first | exact hm | (simp only [if_pos m1, if_neg m2] at hm; exact hm)
      · have m2 : x2 = ((I 99) 52) := (Decidable.not_not.mp (of_decide_eq_false c))
        replace h := h.1 m2
        refine w_st (i' := 77) (ls' := [.ref 99, d1, .int x2, d3]) (st' := [.ref 99, .int (nI 44), .ref 116]) (E' := E) (I' := (u_I I 116 (upd (I 116) 47 (((I 116) 47) + (nI 1))))) (J' := J) (S' := S) am_e279 rfl rfl rfl rfl ?_
        refine w_st (i' := 78) (ls' := [.ref 99, d1, .int x2, d3]) (st' := [.int ((I 99) 53), .int (nI 44), .ref 116]) (E' := E) (I' := (u_I I 116 (upd (I 116) 47 (((I 116) 47) + (nI 1))))) (J' := J) (S' := S) am_e279 rfl rfl rfl rfl ?_
        refine w_st (i' := 83) (ls' := [.ref 99, d1, .int x2, d3]) (st' := [.int ((I 99) 53), .int (nI 44), .ref 116]) (E' := E) (I' := (u_I I 116 (upd (I 116) 47 (((I 116) 47) + (nI 1))))) (J' := J) (S' := S) am_e279 rfl rfl rfl rfl ?_
        first | exact hm | (simp only [if_pos m1, if_pos m2] at hm; exact hm)
  replace h := h.2
  refine w_var (fun w3 => am_ww 279 83 [.ref 99, d1, .int x2, d3] [.int w3, .int (nI 44), .ref 116] E (u_I I 116 (upd (I 116) 47 (((I 116) 47) + (nI 1)))) J S _) (if ((I 99) 51) = 0 then (if x2 = ((I 99) 52) then ((I 99) 53) else ((I 122) x2.toNatClampNeg)) else ((I 122) x2.toNatClampNeg)) (fun w3 hw3 => ?_)
  replace h := h w3 hw3
  refine w_is (k := 116) (n := 51) (jn := 44) am_e279 rfl rfl (by decide) (vp_in_nI (by decide) (by decide)) rfl ?_
  refine w_eI (uI_0 ..) ?_
  show am_ww 279 84 [.ref 99, d1, .int x2, d3] [] E (u_I I 116 (upd (upd (I 116) 47 (((I 116) 47) + (nI 1))) 44 w3)) J S _
  exact w_end am_e279 rfl rfl rfl h
-- 278 replayStep
theorem g278_0  {E : am_Ev} {I : Nat → Nat → Int32} {J : Nat → Nat → Int64} {S : Nat → Nat → Option Nat} {Q : am_Qt}  (h : am_cl 279 [.ref 99] E I J S (q_V fun E1 I1 J1 S1 => (((I1 116) 44) = (-1) → (Q (.inl (some (.int (nI 0)))) E1 I1 J1 S1)) ∧ (¬ ((I1 116) 44) = (-1) → (∀ w2 : Int32, w2 = (((nI 16) + ((nI 6) * ((I1 116) 44))) + (nI 4)) → (vp_in w2 51 ∧ (vp_in ((I1 116) 44) 8 ∧ ((((I1 116) w2.toNatClampNeg) < ((I1 105) (((I1 116) 44).toNatClampNeg)) → (∀ w5 : Int32, w5 = (((nI 16) + ((nI 6) * ((I1 116) 44))) + (nI 4)) → (vp_in w5 51 ∧ (∀ w7 : Int32, w7 = (((nI 16) * ((I1 116) 44)) + ((I1 116) w5.toNatClampNeg)) → (vp_in w7 128 ∧ ((((I1 106) w7.toNatClampNeg) = (nI 7) → (vp_in ((nI 40) + ((I1 107) w7.toNatClampNeg)) 51 ∧ ((((I1 116) (((nI 40) + ((I1 107) w7.toNatClampNeg)).toNatClampNeg)) = (-1) → (am_ww 278 37 [.ref 99, .int ((I1 116) 44), .int w7] [] E1 I1 J1 S1 Q)) ∧ (¬ ((I1 116) (((nI 40) + ((I1 107) w7.toNatClampNeg)).toNatClampNeg)) = (-1) → (Q (.inl (some (.int (nI 0)))) E1 I1 J1 S1))))) ∧ (¬ ((I1 106) w7.toNatClampNeg) = (nI 7) → (am_ww 278 37 [.ref 99, .int ((I1 116) 44), .int w7] [] E1 I1 J1 S1 Q)))))))) ∧ (¬ ((I1 116) w2.toNatClampNeg) < ((I1 105) (((I1 116) 44).toNatClampNeg)) → (Q (.inl (some (.int (nI 0)))) E1 I1 J1 S1))))))))) : am_ww 278 0 [.ref 99, am_U, am_U] [] E I J S Q := by
  refine w_st (i' := 1) (ls' := [.ref 99, am_U, am_U]) (st' := [.ref 99]) (E' := E) (I' := I) (J' := J) (S' := S) am_e278 rfl rfl rfl rfl ?_
  refine w_cV am_e278 rfl rfl (as := [.ref 99]) (rest := []) rfl rfl (am_ww.mono h ?_)
  rintro _ E1 I1 J1 S1 ⟨rfl, h⟩
  refine q_mkV ?_
  refine w_st (i' := 3) (ls' := [.ref 99, am_U, am_U]) (st' := [.ref 99]) (E' := E1) (I' := I1) (J' := J1) (S' := S1) am_e278 rfl rfl rfl rfl ?_
  refine w_st (i' := 4) (ls' := [.ref 99, am_U, am_U]) (st' := [.ref 116]) (E' := E1) (I' := I1) (J' := J1) (S' := S1) am_e278 rfl rfl rfl rfl ?_
  refine w_st (i' := 5) (ls' := [.ref 99, am_U, am_U]) (st' := [.int (nI 44), .ref 116]) (E' := E1) (I' := I1) (J' := J1) (S' := S1) am_e278 rfl rfl rfl rfl ?_
  refine w_ia (k := 116) (n := 51) (jn := 44) am_e278 rfl rfl (by decide) (vp_in_nI (by decide) (by decide)) rfl ?_
  show am_ww 278 6 [.ref 99, am_U, am_U] [.int ((I1 116) 44)] E1 I1 J1 S1 _
  refine w_st (i' := 7) (ls' := [.ref 99, .int ((I1 116) 44), am_U]) (st' := []) (E' := E1) (I' := I1) (J' := J1) (S' := S1) am_e278 rfl rfl rfl rfl ?_
  refine w_st (i' := 8) (ls' := [.ref 99, .int ((I1 116) 44), am_U]) (st' := [.int ((I1 116) 44)]) (E' := E1) (I' := I1) (J' := J1) (S' := S1) am_e278 rfl rfl rfl rfl ?_
  refine w_st (i' := 9) (ls' := [.ref 99, .int ((I1 116) 44), am_U]) (st' := [.int (-1), .int ((I1 116) 44)]) (E' := E1) (I' := I1) (J' := J1) (S' := S1) am_e278 rfl rfl rfl rfl ?_
  refine w_if2 am_e278 rfl rfl (fun c => ?_) (fun c => ?_)
  · replace h := h.1 (of_decide_eq_true c)
    refine w_st (i' := 15) (ls' := [.ref 99, .int ((I1 116) 44), am_U]) (st' := [.int (nI 0)]) (E' := E1) (I' := I1) (J' := J1) (S' := S1) am_e278 rfl rfl rfl rfl ?_
    exact w_end am_e278 rfl rfl rfl h
  · replace h := h.2 (of_decide_eq_false c)
    refine w_st (i' := 11) (ls' := [.ref 99, .int ((I1 116) 44), am_U]) (st' := [.ref 99]) (E' := E1) (I' := I1) (J' := J1) (S' := S1) am_e278 rfl rfl rfl rfl ?_
    refine w_st (i' := 12) (ls' := [.ref 99, .int ((I1 116) 44), am_U]) (st' := [.int ((I1 116) 44), .ref 99]) (E' := E1) (I' := I1) (J' := J1) (S' := S1) am_e278 rfl rfl rfl rfl ?_
    refine w_cI am_e278 rfl rfl (as := [.ref 99, .int ((I1 116) 44)]) (rest := []) rfl rfl ?_
    show am_ww 221 0 [.ref 99, .int ((I1 116) 44)] [] E1 I1 J1 S1 _
    refine w_st (i' := 1) (ls' := [.ref 99, .int ((I1 116) 44)]) (st' := [.ref 99]) (E' := E1) (I' := I1) (J' := J1) (S' := S1) am_e221 rfl rfl rfl rfl ?_
    refine w_st (i' := 2) (ls' := [.ref 99, .int ((I1 116) 44)]) (st' := [.ref 116]) (E' := E1) (I' := I1) (J' := J1) (S' := S1) am_e221 rfl rfl rfl rfl ?_
    refine w_st (i' := 3) (ls' := [.ref 99, .int ((I1 116) 44)]) (st' := [.int ((I1 116) 44), .ref 116]) (E' := E1) (I' := I1) (J' := J1) (S' := S1) am_e221 rfl rfl rfl rfl ?_
    refine w_st (i' := 4) (ls' := [.ref 99, .int ((I1 116) 44)]) (st' := [.int (nI 4), .int ((I1 116) 44), .ref 116]) (E' := E1) (I' := I1) (J' := J1) (S' := S1) am_e221 rfl rfl rfl rfl ?_
    refine w_cI am_e221 rfl rfl (as := [.int ((I1 116) 44), .int (nI 4)]) (rest := [.ref 116]) rfl rfl ?_
    show am_ww 222 0 [.int ((I1 116) 44), .int (nI 4)] [] E1 I1 J1 S1 _
    refine w_st (i' := 1) (ls' := [.int ((I1 116) 44), .int (nI 4)]) (st' := [.int (nI 16)]) (E' := E1) (I' := I1) (J' := J1) (S' := S1) am_e222 rfl rfl rfl rfl ?_
    refine w_st (i' := 2) (ls' := [.int ((I1 116) 44), .int (nI 4)]) (st' := [.int (nI 6), .int (nI 16)]) (E' := E1) (I' := I1) (J' := J1) (S' := S1) am_e222 rfl rfl rfl rfl ?_
    refine w_st (i' := 3) (ls' := [.int ((I1 116) 44), .int (nI 4)]) (st' := [.int ((I1 116) 44), .int (nI 6), .int (nI 16)]) (E' := E1) (I' := I1) (J' := J1) (S' := S1) am_e222 rfl rfl rfl rfl ?_
    refine w_st (i' := 4) (ls' := [.int ((I1 116) 44), .int (nI 4)]) (st' := [.int ((nI 6) * ((I1 116) 44)), .int (nI 16)]) (E' := E1) (I' := I1) (J' := J1) (S' := S1) am_e222 rfl rfl rfl rfl ?_
    refine w_st (i' := 5) (ls' := [.int ((I1 116) 44), .int (nI 4)]) (st' := [.int ((nI 16) + ((nI 6) * ((I1 116) 44)))]) (E' := E1) (I' := I1) (J' := J1) (S' := S1) am_e222 rfl rfl rfl rfl ?_
    refine w_st (i' := 6) (ls' := [.int ((I1 116) 44), .int (nI 4)]) (st' := [.int (nI 4), .int ((nI 16) + ((nI 6) * ((I1 116) 44)))]) (E' := E1) (I' := I1) (J' := J1) (S' := S1) am_e222 rfl rfl rfl rfl ?_
    refine w_st (i' := 7) (ls' := [.int ((I1 116) 44), .int (nI 4)]) (st' := [.int (((nI 16) + ((nI 6) * ((I1 116) 44))) + (nI 4))]) (E' := E1) (I' := I1) (J' := J1) (S' := S1) am_e222 rfl rfl rfl rfl ?_
    refine w_ri am_e222 rfl rfl (q_mkI ?_)
    show am_ww 221 5 [.ref 99, .int ((I1 116) 44)] [.int (((nI 16) + ((nI 6) * ((I1 116) 44))) + (nI 4)), .ref 116] E1 I1 J1 S1 _
    refine w_var (fun w2 => am_ww 221 5 [.ref 99, .int ((I1 116) 44)] [.int w2, .ref 116] E1 I1 J1 S1 _) (((nI 16) + ((nI 6) * ((I1 116) 44))) + (nI 4)) (fun w2 hw2 => ?_)
    replace h := h w2 hw2
    have hf3 := h.1
    replace h := h.2
    refine w_ia (k := 116) (n := 51) (jn := w2.toNatClampNeg) am_e221 rfl rfl (by decide) hf3 rfl ?_
    refine w_st (i' := 7) (ls' := [.ref 99, .int ((I1 116) 44)]) (st' := [.ref 99, .int ((I1 116) w2.toNatClampNeg)]) (E' := E1) (I' := I1) (J' := J1) (S' := S1) am_e221 rfl rfl rfl rfl ?_
    refine w_st (i' := 8) (ls' := [.ref 99, .int ((I1 116) 44)]) (st' := [.ref 105, .int ((I1 116) w2.toNatClampNeg)]) (E' := E1) (I' := I1) (J' := J1) (S' := S1) am_e221 rfl rfl rfl rfl ?_
    refine w_st (i' := 9) (ls' := [.ref 99, .int ((I1 116) 44)]) (st' := [.int ((I1 116) 44), .ref 105, .int ((I1 116) w2.toNatClampNeg)]) (E' := E1) (I' := I1) (J' := J1) (S' := S1) am_e221 rfl rfl rfl rfl ?_
    have hf4 := h.1
    replace h := h.2
    refine w_ia (k := 105) (n := 8) (jn := ((I1 116) 44).toNatClampNeg) am_e221 rfl rfl (by decide) hf4 rfl ?_
    refine w_if2 am_e221 rfl rfl (fun c => ?_) (fun c => ?_)
    · replace h := h.1 (of_decide_eq_true c)
      refine w_st (i' := 14) (ls' := [.ref 99, .int ((I1 116) 44)]) (st' := [.int (nI 0)]) (E' := E1) (I' := I1) (J' := J1) (S' := S1) am_e221 rfl rfl rfl rfl ?_
      refine w_end (E' := E1) (I' := I1) (J' := J1) (S' := S1) am_e221 rfl rfl rfl (q_mkI ?_)
      show am_ww 278 13 [.ref 99, .int ((I1 116) 44), am_U] [.int (nI 0)] E1 I1 J1 S1 _
      refine w_st (i' := 16) (ls' := [.ref 99, .int ((I1 116) 44), am_U]) (st' := []) (E' := E1) (I' := I1) (J' := J1) (S' := S1) am_e278 rfl rfl rfl rfl ?_
      refine w_st (i' := 17) (ls' := [.ref 99, .int ((I1 116) 44), am_U]) (st' := [.ref 99]) (E' := E1) (I' := I1) (J' := J1) (S' := S1) am_e278 rfl rfl rfl rfl ?_
      refine w_st (i' := 18) (ls' := [.ref 99, .int ((I1 116) 44), am_U]) (st' := [.int ((I1 116) 44), .ref 99]) (E' := E1) (I' := I1) (J' := J1) (S' := S1) am_e278 rfl rfl rfl rfl ?_
      refine w_cI am_e278 rfl rfl (as := [.ref 99, .int ((I1 116) 44)]) (rest := []) rfl rfl ?_
      show am_ww 223 0 [.ref 99, .int ((I1 116) 44)] [] E1 I1 J1 S1 _
      refine w_st (i' := 1) (ls' := [.ref 99, .int ((I1 116) 44)]) (st' := [.int (nI 16)]) (E' := E1) (I' := I1) (J' := J1) (S' := S1) am_e223 rfl rfl rfl rfl ?_
      refine w_st (i' := 2) (ls' := [.ref 99, .int ((I1 116) 44)]) (st' := [.int ((I1 116) 44), .int (nI 16)]) (E' := E1) (I' := I1) (J' := J1) (S' := S1) am_e223 rfl rfl rfl rfl ?_
      refine w_st (i' := 3) (ls' := [.ref 99, .int ((I1 116) 44)]) (st' := [.int ((nI 16) * ((I1 116) 44))]) (E' := E1) (I' := I1) (J' := J1) (S' := S1) am_e223 rfl rfl rfl rfl ?_
      refine w_st (i' := 4) (ls' := [.ref 99, .int ((I1 116) 44)]) (st' := [.ref 99, .int ((nI 16) * ((I1 116) 44))]) (E' := E1) (I' := I1) (J' := J1) (S' := S1) am_e223 rfl rfl rfl rfl ?_
      refine w_st (i' := 5) (ls' := [.ref 99, .int ((I1 116) 44)]) (st' := [.ref 116, .int ((nI 16) * ((I1 116) 44))]) (E' := E1) (I' := I1) (J' := J1) (S' := S1) am_e223 rfl rfl rfl rfl ?_
      refine w_st (i' := 6) (ls' := [.ref 99, .int ((I1 116) 44)]) (st' := [.int ((I1 116) 44), .ref 116, .int ((nI 16) * ((I1 116) 44))]) (E' := E1) (I' := I1) (J' := J1) (S' := S1) am_e223 rfl rfl rfl rfl ?_
      refine w_st (i' := 7) (ls' := [.ref 99, .int ((I1 116) 44)]) (st' := [.int (nI 4), .int ((I1 116) 44), .ref 116, .int ((nI 16) * ((I1 116) 44))]) (E' := E1) (I' := I1) (J' := J1) (S' := S1) am_e223 rfl rfl rfl rfl ?_
      refine w_cI am_e223 rfl rfl (as := [.int ((I1 116) 44), .int (nI 4)]) (rest := [.ref 116, .int ((nI 16) * ((I1 116) 44))]) rfl rfl ?_
      show am_ww 222 0 [.int ((I1 116) 44), .int (nI 4)] [] E1 I1 J1 S1 _
      refine w_st (i' := 1) (ls' := [.int ((I1 116) 44), .int (nI 4)]) (st' := [.int (nI 16)]) (E' := E1) (I' := I1) (J' := J1) (S' := S1) am_e222 rfl rfl rfl rfl ?_
      refine w_st (i' := 2) (ls' := [.int ((I1 116) 44), .int (nI 4)]) (st' := [.int (nI 6), .int (nI 16)]) (E' := E1) (I' := I1) (J' := J1) (S' := S1) am_e222 rfl rfl rfl rfl ?_
      refine w_st (i' := 3) (ls' := [.int ((I1 116) 44), .int (nI 4)]) (st' := [.int ((I1 116) 44), .int (nI 6), .int (nI 16)]) (E' := E1) (I' := I1) (J' := J1) (S' := S1) am_e222 rfl rfl rfl rfl ?_
      refine w_st (i' := 4) (ls' := [.int ((I1 116) 44), .int (nI 4)]) (st' := [.int ((nI 6) * ((I1 116) 44)), .int (nI 16)]) (E' := E1) (I' := I1) (J' := J1) (S' := S1) am_e222 rfl rfl rfl rfl ?_
      refine w_st (i' := 5) (ls' := [.int ((I1 116) 44), .int (nI 4)]) (st' := [.int ((nI 16) + ((nI 6) * ((I1 116) 44)))]) (E' := E1) (I' := I1) (J' := J1) (S' := S1) am_e222 rfl rfl rfl rfl ?_
      refine w_st (i' := 6) (ls' := [.int ((I1 116) 44), .int (nI 4)]) (st' := [.int (nI 4), .int ((nI 16) + ((nI 6) * ((I1 116) 44)))]) (E' := E1) (I' := I1) (J' := J1) (S' := S1) am_e222 rfl rfl rfl rfl ?_
      refine w_st (i' := 7) (ls' := [.int ((I1 116) 44), .int (nI 4)]) (st' := [.int (((nI 16) + ((nI 6) * ((I1 116) 44))) + (nI 4))]) (E' := E1) (I' := I1) (J' := J1) (S' := S1) am_e222 rfl rfl rfl rfl ?_
      refine w_ri am_e222 rfl rfl (q_mkI ?_)
      show am_ww 223 8 [.ref 99, .int ((I1 116) 44)] [.int (((nI 16) + ((nI 6) * ((I1 116) 44))) + (nI 4)), .ref 116, .int ((nI 16) * ((I1 116) 44))] E1 I1 J1 S1 _
      refine w_var (fun w5 => am_ww 223 8 [.ref 99, .int ((I1 116) 44)] [.int w5, .ref 116, .int ((nI 16) * ((I1 116) 44))] E1 I1 J1 S1 _) (((nI 16) + ((nI 6) * ((I1 116) 44))) + (nI 4)) (fun w5 hw5 => ?_)
      replace h := h w5 hw5
      have hf6 := h.1
      replace h := h.2
      refine w_ia (k := 116) (n := 51) (jn := w5.toNatClampNeg) am_e223 rfl rfl (by decide) hf6 rfl ?_
      refine w_st (i' := 10) (ls' := [.ref 99, .int ((I1 116) 44)]) (st' := [.int (((nI 16) * ((I1 116) 44)) + ((I1 116) w5.toNatClampNeg))]) (E' := E1) (I' := I1) (J' := J1) (S' := S1) am_e223 rfl rfl rfl rfl ?_
      refine w_ri am_e223 rfl rfl (q_mkI ?_)
      show am_ww 278 19 [.ref 99, .int ((I1 116) 44), am_U] [.int (((nI 16) * ((I1 116) 44)) + ((I1 116) w5.toNatClampNeg))] E1 I1 J1 S1 _
      refine w_var (fun w7 => am_ww 278 19 [.ref 99, .int ((I1 116) 44), am_U] [.int w7] E1 I1 J1 S1 _) (((nI 16) * ((I1 116) 44)) + ((I1 116) w5.toNatClampNeg)) (fun w7 hw7 => ?_)
      replace h := h w7 hw7
      refine w_st (i' := 20) (ls' := [.ref 99, .int ((I1 116) 44), .int w7]) (st' := []) (E' := E1) (I' := I1) (J' := J1) (S' := S1) am_e278 rfl rfl rfl rfl ?_
      refine w_st (i' := 21) (ls' := [.ref 99, .int ((I1 116) 44), .int w7]) (st' := [.ref 99]) (E' := E1) (I' := I1) (J' := J1) (S' := S1) am_e278 rfl rfl rfl rfl ?_
      refine w_st (i' := 22) (ls' := [.ref 99, .int ((I1 116) 44), .int w7]) (st' := [.ref 106]) (E' := E1) (I' := I1) (J' := J1) (S' := S1) am_e278 rfl rfl rfl rfl ?_
      refine w_st (i' := 23) (ls' := [.ref 99, .int ((I1 116) 44), .int w7]) (st' := [.int w7, .ref 106]) (E' := E1) (I' := I1) (J' := J1) (S' := S1) am_e278 rfl rfl rfl rfl ?_
      have hf8 := h.1
      replace h := h.2
      refine w_ia (k := 106) (n := 128) (jn := w7.toNatClampNeg) am_e278 rfl rfl (by decide) hf8 rfl ?_
      refine w_st (i' := 25) (ls' := [.ref 99, .int ((I1 116) 44), .int w7]) (st' := [.int (nI 7), .int ((I1 106) w7.toNatClampNeg)]) (E' := E1) (I' := I1) (J' := J1) (S' := S1) am_e278 rfl rfl rfl rfl ?_
      refine w_if2 am_e278 rfl rfl (fun c => ?_) (fun c => ?_)
      · replace h := h.2 (of_decide_eq_true c)
        exact h
      · replace h := h.1 (Decidable.not_not.mp (of_decide_eq_false c))
        refine w_st (i' := 27) (ls' := [.ref 99, .int ((I1 116) 44), .int w7]) (st' := [.ref 99]) (E' := E1) (I' := I1) (J' := J1) (S' := S1) am_e278 rfl rfl rfl rfl ?_
        refine w_st (i' := 28) (ls' := [.ref 99, .int ((I1 116) 44), .int w7]) (st' := [.ref 116]) (E' := E1) (I' := I1) (J' := J1) (S' := S1) am_e278 rfl rfl rfl rfl ?_
        refine w_st (i' := 29) (ls' := [.ref 99, .int ((I1 116) 44), .int w7]) (st' := [.int (nI 40), .ref 116]) (E' := E1) (I' := I1) (J' := J1) (S' := S1) am_e278 rfl rfl rfl rfl ?_
        refine w_st (i' := 30) (ls' := [.ref 99, .int ((I1 116) 44), .int w7]) (st' := [.ref 99, .int (nI 40), .ref 116]) (E' := E1) (I' := I1) (J' := J1) (S' := S1) am_e278 rfl rfl rfl rfl ?_
        refine w_st (i' := 31) (ls' := [.ref 99, .int ((I1 116) 44), .int w7]) (st' := [.ref 107, .int (nI 40), .ref 116]) (E' := E1) (I' := I1) (J' := J1) (S' := S1) am_e278 rfl rfl rfl rfl ?_
        refine w_st (i' := 32) (ls' := [.ref 99, .int ((I1 116) 44), .int w7]) (st' := [.int w7, .ref 107, .int (nI 40), .ref 116]) (E' := E1) (I' := I1) (J' := J1) (S' := S1) am_e278 rfl rfl rfl rfl ?_
        refine w_ia (k := 107) (n := 128) (jn := w7.toNatClampNeg) am_e278 rfl rfl (by decide) hf8 rfl ?_
        refine w_st (i' := 34) (ls' := [.ref 99, .int ((I1 116) 44), .int w7]) (st' := [.int ((nI 40) + ((I1 107) w7.toNatClampNeg)), .ref 116]) (E' := E1) (I' := I1) (J' := J1) (S' := S1) am_e278 rfl rfl rfl rfl ?_
        have hf9 := h.1
        replace h := h.2
        refine w_ia (k := 116) (n := 51) (jn := ((nI 40) + ((I1 107) w7.toNatClampNeg)).toNatClampNeg) am_e278 rfl rfl (by decide) hf9 rfl ?_
        refine w_st (i' := 36) (ls' := [.ref 99, .int ((I1 116) 44), .int w7]) (st' := [.int (-1), .int ((I1 116) (((nI 40) + ((I1 107) w7.toNatClampNeg)).toNatClampNeg))]) (E' := E1) (I' := I1) (J' := J1) (S' := S1) am_e278 rfl rfl rfl rfl ?_
        refine w_if2 am_e278 rfl rfl (fun c => ?_) (fun c => ?_)
        · replace h := h.2 (of_decide_eq_true c)
          refine w_st (i' := 64) (ls' := [.ref 99, .int ((I1 116) 44), .int w7]) (st' := [.int (nI 0)]) (E' := E1) (I' := I1) (J' := J1) (S' := S1) am_e278 rfl rfl rfl rfl ?_
          exact w_end am_e278 rfl rfl rfl h
        · replace h := h.1 (Decidable.not_not.mp (of_decide_eq_false c))
          exact h
    · replace h := h.2 (of_decide_eq_false c)
      refine w_st (i' := 12) (ls' := [.ref 99, .int ((I1 116) 44)]) (st' := [.int (nI 1)]) (E' := E1) (I' := I1) (J' := J1) (S' := S1) am_e221 rfl rfl rfl rfl ?_
      refine w_st (i' := 14) (ls' := [.ref 99, .int ((I1 116) 44)]) (st' := [.int (nI 1)]) (E' := E1) (I' := I1) (J' := J1) (S' := S1) am_e221 rfl rfl rfl rfl ?_
      refine w_end (E' := E1) (I' := I1) (J' := J1) (S' := S1) am_e221 rfl rfl rfl (q_mkI ?_)
      show am_ww 278 13 [.ref 99, .int ((I1 116) 44), am_U] [.int (nI 1)] E1 I1 J1 S1 _
      refine w_st (i' := 14) (ls' := [.ref 99, .int ((I1 116) 44), am_U]) (st' := []) (E' := E1) (I' := I1) (J' := J1) (S' := S1) am_e278 rfl rfl rfl rfl ?_
      refine w_st (i' := 15) (ls' := [.ref 99, .int ((I1 116) 44), am_U]) (st' := [.int (nI 0)]) (E' := E1) (I' := I1) (J' := J1) (S' := S1) am_e278 rfl rfl rfl rfl ?_
      exact w_end am_e278 rfl rfl rfl h
theorem g278_37 {d1 : Value} {x2 : Int32} {E : am_Ev} {I : Nat → Nat → Int32} {J : Nat → Nat → Int64} {S : Nat → Nat → Option Nat} {Q : am_Qt} (hd1 : am_isL d1 = false) (h : vp_in x2 128 ∧ ((((I 106) x2.toNatClampNeg) = (nI 6) → (vp_in ((nI 48) + ((I 108) x2.toNatClampNeg)) 51 ∧ (∀ w3 : Int32, w3 = ((nI 48) + ((I 108) x2.toNatClampNeg)) → (vp_in (((nI 51) * ((I 99) 12)) + w3) 20451 ∧ (∀ w5 : Int32, w5 = ((I 117) ((((nI 51) * ((I 99) 12)) + w3).toNatClampNeg)) → ((((I 116) (((nI 48) + ((I 108) x2.toNatClampNeg)).toNatClampNeg)) < w5 → (am_ww 278 65 [.ref 99, d1, .int x2] [] E I J S Q)) ∧ (¬ ((I 116) (((nI 48) + ((I 108) x2.toNatClampNeg)).toNatClampNeg)) < w5 → (Q (.inl (some (.int (nI 0)))) E I J S)))))))) ∧ (¬ ((I 106) x2.toNatClampNeg) = (nI 6) → (am_ww 278 65 [.ref 99, d1, .int x2] [] E I J S Q)))) : am_ww 278 37 [.ref 99, d1, .int x2] [] E I J S Q := by
  refine w_st (i' := 38) (ls' := [.ref 99, d1, .int x2]) (st' := [.ref 99]) (E' := E) (I' := I) (J' := J) (S' := S) am_e278 rfl rfl rfl rfl ?_
  refine w_st (i' := 39) (ls' := [.ref 99, d1, .int x2]) (st' := [.ref 106]) (E' := E) (I' := I) (J' := J) (S' := S) am_e278 rfl rfl rfl rfl ?_
  refine w_st (i' := 40) (ls' := [.ref 99, d1, .int x2]) (st' := [.int x2, .ref 106]) (E' := E) (I' := I) (J' := J) (S' := S) am_e278 rfl rfl rfl rfl ?_
  have hf1 := h.1
  replace h := h.2
  refine w_ia (k := 106) (n := 128) (jn := x2.toNatClampNeg) am_e278 rfl rfl (by decide) hf1 rfl ?_
  refine w_st (i' := 42) (ls' := [.ref 99, d1, .int x2]) (st' := [.int (nI 6), .int ((I 106) x2.toNatClampNeg)]) (E' := E) (I' := I) (J' := J) (S' := S) am_e278 rfl rfl rfl rfl ?_
  refine w_if2 am_e278 rfl rfl (fun c => ?_) (fun c => ?_)
  · replace h := h.2 (of_decide_eq_true c)
    exact h
  · replace h := h.1 (Decidable.not_not.mp (of_decide_eq_false c))
    refine w_st (i' := 44) (ls' := [.ref 99, d1, .int x2]) (st' := [.ref 99]) (E' := E) (I' := I) (J' := J) (S' := S) am_e278 rfl rfl rfl rfl ?_
    refine w_st (i' := 45) (ls' := [.ref 99, d1, .int x2]) (st' := [.ref 116]) (E' := E) (I' := I) (J' := J) (S' := S) am_e278 rfl rfl rfl rfl ?_
    refine w_st (i' := 46) (ls' := [.ref 99, d1, .int x2]) (st' := [.int (nI 48), .ref 116]) (E' := E) (I' := I) (J' := J) (S' := S) am_e278 rfl rfl rfl rfl ?_
    refine w_st (i' := 47) (ls' := [.ref 99, d1, .int x2]) (st' := [.ref 99, .int (nI 48), .ref 116]) (E' := E) (I' := I) (J' := J) (S' := S) am_e278 rfl rfl rfl rfl ?_
    refine w_st (i' := 48) (ls' := [.ref 99, d1, .int x2]) (st' := [.ref 108, .int (nI 48), .ref 116]) (E' := E) (I' := I) (J' := J) (S' := S) am_e278 rfl rfl rfl rfl ?_
    refine w_st (i' := 49) (ls' := [.ref 99, d1, .int x2]) (st' := [.int x2, .ref 108, .int (nI 48), .ref 116]) (E' := E) (I' := I) (J' := J) (S' := S) am_e278 rfl rfl rfl rfl ?_
    refine w_ia (k := 108) (n := 128) (jn := x2.toNatClampNeg) am_e278 rfl rfl (by decide) hf1 rfl ?_
    refine w_st (i' := 51) (ls' := [.ref 99, d1, .int x2]) (st' := [.int ((nI 48) + ((I 108) x2.toNatClampNeg)), .ref 116]) (E' := E) (I' := I) (J' := J) (S' := S) am_e278 rfl rfl rfl rfl ?_
    have hf2 := h.1
    replace h := h.2
    refine w_ia (k := 116) (n := 51) (jn := ((nI 48) + ((I 108) x2.toNatClampNeg)).toNatClampNeg) am_e278 rfl rfl (by decide) hf2 rfl ?_
    refine w_st (i' := 53) (ls' := [.ref 99, d1, .int x2]) (st' := [.ref 99, .int ((I 116) (((nI 48) + ((I 108) x2.toNatClampNeg)).toNatClampNeg))]) (E' := E) (I' := I) (J' := J) (S' := S) am_e278 rfl rfl rfl rfl ?_
    refine w_st (i' := 54) (ls' := [.ref 99, d1, .int x2]) (st' := [.ref 99, .ref 99, .int ((I 116) (((nI 48) + ((I 108) x2.toNatClampNeg)).toNatClampNeg))]) (E' := E) (I' := I) (J' := J) (S' := S) am_e278 rfl rfl rfl rfl ?_
    refine w_st (i' := 55) (ls' := [.ref 99, d1, .int x2]) (st' := [.int ((I 99) 12), .ref 99, .int ((I 116) (((nI 48) + ((I 108) x2.toNatClampNeg)).toNatClampNeg))]) (E' := E) (I' := I) (J' := J) (S' := S) am_e278 rfl rfl rfl rfl ?_
    refine w_st (i' := 56) (ls' := [.ref 99, d1, .int x2]) (st' := [.int (nI 48), .int ((I 99) 12), .ref 99, .int ((I 116) (((nI 48) + ((I 108) x2.toNatClampNeg)).toNatClampNeg))]) (E' := E) (I' := I) (J' := J) (S' := S) am_e278 rfl rfl rfl rfl ?_
    refine w_st (i' := 57) (ls' := [.ref 99, d1, .int x2]) (st' := [.ref 99, .int (nI 48), .int ((I 99) 12), .ref 99, .int ((I 116) (((nI 48) + ((I 108) x2.toNatClampNeg)).toNatClampNeg))]) (E' := E) (I' := I) (J' := J) (S' := S) am_e278 rfl rfl rfl rfl ?_
    refine w_st (i' := 58) (ls' := [.ref 99, d1, .int x2]) (st' := [.ref 108, .int (nI 48), .int ((I 99) 12), .ref 99, .int ((I 116) (((nI 48) + ((I 108) x2.toNatClampNeg)).toNatClampNeg))]) (E' := E) (I' := I) (J' := J) (S' := S) am_e278 rfl rfl rfl rfl ?_
    refine w_st (i' := 59) (ls' := [.ref 99, d1, .int x2]) (st' := [.int x2, .ref 108, .int (nI 48), .int ((I 99) 12), .ref 99, .int ((I 116) (((nI 48) + ((I 108) x2.toNatClampNeg)).toNatClampNeg))]) (E' := E) (I' := I) (J' := J) (S' := S) am_e278 rfl rfl rfl rfl ?_
    refine w_ia (k := 108) (n := 128) (jn := x2.toNatClampNeg) am_e278 rfl rfl (by decide) hf1 rfl ?_
    refine w_st (i' := 61) (ls' := [.ref 99, d1, .int x2]) (st' := [.int ((nI 48) + ((I 108) x2.toNatClampNeg)), .int ((I 99) 12), .ref 99, .int ((I 116) (((nI 48) + ((I 108) x2.toNatClampNeg)).toNatClampNeg))]) (E' := E) (I' := I) (J' := J) (S' := S) am_e278 rfl rfl rfl rfl ?_
    refine w_cI am_e278 rfl rfl (as := [.ref 99, .int ((I 99) 12), .int ((nI 48) + ((I 108) x2.toNatClampNeg))]) (rest := [.int ((I 116) (((nI 48) + ((I 108) x2.toNatClampNeg)).toNatClampNeg))]) rfl rfl ?_
    show am_ww 245 0 [.ref 99, .int ((I 99) 12), .int ((nI 48) + ((I 108) x2.toNatClampNeg))] [] E I J S _
    refine w_var (fun w3 => am_ww 245 0 [.ref 99, .int ((I 99) 12), .int w3] [] E I J S _) ((nI 48) + ((I 108) x2.toNatClampNeg)) (fun w3 hw3 => ?_)
    replace h := h w3 hw3
    refine w_st (i' := 1) (ls' := [.ref 99, .int ((I 99) 12), .int w3]) (st' := [.ref 99]) (E' := E) (I' := I) (J' := J) (S' := S) am_e245 rfl rfl rfl rfl ?_
    refine w_st (i' := 2) (ls' := [.ref 99, .int ((I 99) 12), .int w3]) (st' := [.ref 117]) (E' := E) (I' := I) (J' := J) (S' := S) am_e245 rfl rfl rfl rfl ?_
    refine w_st (i' := 3) (ls' := [.ref 99, .int ((I 99) 12), .int w3]) (st' := [.int (nI 51), .ref 117]) (E' := E) (I' := I) (J' := J) (S' := S) am_e245 rfl rfl rfl rfl ?_
    refine w_st (i' := 4) (ls' := [.ref 99, .int ((I 99) 12), .int w3]) (st' := [.int ((I 99) 12), .int (nI 51), .ref 117]) (E' := E) (I' := I) (J' := J) (S' := S) am_e245 rfl rfl rfl rfl ?_
    refine w_st (i' := 5) (ls' := [.ref 99, .int ((I 99) 12), .int w3]) (st' := [.int ((nI 51) * ((I 99) 12)), .ref 117]) (E' := E) (I' := I) (J' := J) (S' := S) am_e245 rfl rfl rfl rfl ?_
    refine w_st (i' := 6) (ls' := [.ref 99, .int ((I 99) 12), .int w3]) (st' := [.int w3, .int ((nI 51) * ((I 99) 12)), .ref 117]) (E' := E) (I' := I) (J' := J) (S' := S) am_e245 rfl rfl rfl rfl ?_
    refine w_st (i' := 7) (ls' := [.ref 99, .int ((I 99) 12), .int w3]) (st' := [.int (((nI 51) * ((I 99) 12)) + w3), .ref 117]) (E' := E) (I' := I) (J' := J) (S' := S) am_e245 rfl rfl rfl rfl ?_
    have hf4 := h.1
    replace h := h.2
    refine w_ia (k := 117) (n := 20451) (jn := (((nI 51) * ((I 99) 12)) + w3).toNatClampNeg) am_e245 rfl rfl (by decide) hf4 rfl ?_
    refine w_ri am_e245 rfl rfl (q_mkI ?_)
    show am_ww 278 62 [.ref 99, d1, .int x2] [.int ((I 117) ((((nI 51) * ((I 99) 12)) + w3).toNatClampNeg)), .int ((I 116) (((nI 48) + ((I 108) x2.toNatClampNeg)).toNatClampNeg))] E I J S _
    refine w_var (fun w5 => am_ww 278 62 [.ref 99, d1, .int x2] [.int w5, .int ((I 116) (((nI 48) + ((I 108) x2.toNatClampNeg)).toNatClampNeg))] E I J S _) ((I 117) ((((nI 51) * ((I 99) 12)) + w3).toNatClampNeg)) (fun w5 hw5 => ?_)
    replace h := h w5 hw5
    refine w_if2 am_e278 rfl rfl (fun c => ?_) (fun c => ?_)
    · replace h := h.1 (of_decide_eq_true c)
      exact h
    · replace h := h.2 (of_decide_eq_false c)
      refine w_st (i' := 64) (ls' := [.ref 99, d1, .int x2]) (st' := [.int (nI 0)]) (E' := E) (I' := I) (J' := J) (S' := S) am_e278 rfl rfl rfl rfl ?_
      exact w_end am_e278 rfl rfl rfl h
theorem g278_65 {d1 : Value} {x2 : Int32} {E : am_Ev} {I : Nat → Nat → Int32} {J : Nat → Nat → Int64} {S : Nat → Nat → Option Nat} {Q : am_Qt} (hd1 : am_isL d1 = false) (h : vp_in x2 128 ∧ ((((I 106) x2.toNatClampNeg) = (nI 6) → (vp_in ((nI 48) + ((I 108) x2.toNatClampNeg)) 51 ∧ (∀ w4 : Int32, w4 = ((I 116) (((nI 48) + ((I 108) x2.toNatClampNeg)).toNatClampNeg)) → (((((I 99) 51) = ((nI 2) + ((I 108) x2.toNatClampNeg)) → ((w4 = ((I 99) 52) → (True)) ∧ (¬ w4 = ((I 99) 52) → (vp_in (((nI 30) * ((I 108) x2.toNatClampNeg)) + w4) 90 ∧ True)))) ∧ (¬ ((I 99) 51) = ((nI 2) + ((I 108) x2.toNatClampNeg)) → (vp_in (((nI 30) * ((I 108) x2.toNatClampNeg)) + w4) 90 ∧ True))) ∧ (∀ w7 : Int32, w7 = (if ((I 99) 51) = ((nI 2) + ((I 108) x2.toNatClampNeg)) then (if w4 = ((I 99) 52) then ((I 99) 53) else ((I 123) ((((nI 30) * ((I 108) x2.toNatClampNeg)) + w4).toNatClampNeg))) else ((I 123) ((((nI 30) * ((I 108) x2.toNatClampNeg)) + w4).toNatClampNeg))) → (am_cl 240 [.ref 99, .int w7] E I J S (q_V fun E8 I8 J8 S8 => Q (.inl (some (.int (nI 1)))) E8 I8 J8 S8))))))) ∧ (¬ ((I 106) x2.toNatClampNeg) = (nI 6) → (am_cl 240 [.ref 99, .int (nI 0)] E I J S (q_V fun E2 I2 J2 S2 => Q (.inl (some (.int (nI 1)))) E2 I2 J2 S2))))) : am_ww 278 65 [.ref 99, d1, .int x2] [] E I J S Q := by
  refine w_st (i' := 66) (ls' := [.ref 99, d1, .int x2]) (st' := [.ref 99]) (E' := E) (I' := I) (J' := J) (S' := S) am_e278 rfl rfl rfl rfl ?_
  refine w_st (i' := 67) (ls' := [.ref 99, d1, .int x2]) (st' := [.ref 99, .ref 99]) (E' := E) (I' := I) (J' := J) (S' := S) am_e278 rfl rfl rfl rfl ?_
  refine w_st (i' := 68) (ls' := [.ref 99, d1, .int x2]) (st' := [.ref 106, .ref 99]) (E' := E) (I' := I) (J' := J) (S' := S) am_e278 rfl rfl rfl rfl ?_
  refine w_st (i' := 69) (ls' := [.ref 99, d1, .int x2]) (st' := [.int x2, .ref 106, .ref 99]) (E' := E) (I' := I) (J' := J) (S' := S) am_e278 rfl rfl rfl rfl ?_
  have hf1 := h.1
  replace h := h.2
  refine w_ia (k := 106) (n := 128) (jn := x2.toNatClampNeg) am_e278 rfl rfl (by decide) hf1 rfl ?_
  refine w_st (i' := 71) (ls' := [.ref 99, d1, .int x2]) (st' := [.int (nI 6), .int ((I 106) x2.toNatClampNeg), .ref 99]) (E' := E) (I' := I) (J' := J) (S' := S) am_e278 rfl rfl rfl rfl ?_
  refine w_if2 am_e278 rfl rfl (fun c => ?_) (fun c => ?_)
  · replace h := h.2 (of_decide_eq_true c)
    refine w_st (i' := 89) (ls' := [.ref 99, d1, .int x2]) (st' := [.int (nI 0), .ref 99]) (E' := E) (I' := I) (J' := J) (S' := S) am_e278 rfl rfl rfl rfl ?_
    refine w_cV am_e278 rfl rfl (as := [.ref 99, .int (nI 0)]) (rest := []) rfl rfl (am_ww.mono h ?_)
    rintro _ E2 I2 J2 S2 ⟨rfl, h⟩
    refine q_mkV ?_
    refine w_st (i' := 91) (ls' := [.ref 99, d1, .int x2]) (st' := [.int (nI 1)]) (E' := E2) (I' := I2) (J' := J2) (S' := S2) am_e278 rfl rfl rfl rfl ?_
    exact w_end am_e278 rfl rfl rfl h
  · replace h := h.1 (Decidable.not_not.mp (of_decide_eq_false c))
    refine w_st (i' := 73) (ls' := [.ref 99, d1, .int x2]) (st' := [.ref 99, .ref 99]) (E' := E) (I' := I) (J' := J) (S' := S) am_e278 rfl rfl rfl rfl ?_
    refine w_st (i' := 74) (ls' := [.ref 99, d1, .int x2]) (st' := [.ref 99, .ref 99, .ref 99]) (E' := E) (I' := I) (J' := J) (S' := S) am_e278 rfl rfl rfl rfl ?_
    refine w_st (i' := 75) (ls' := [.ref 99, d1, .int x2]) (st' := [.ref 108, .ref 99, .ref 99]) (E' := E) (I' := I) (J' := J) (S' := S) am_e278 rfl rfl rfl rfl ?_
    refine w_st (i' := 76) (ls' := [.ref 99, d1, .int x2]) (st' := [.int x2, .ref 108, .ref 99, .ref 99]) (E' := E) (I' := I) (J' := J) (S' := S) am_e278 rfl rfl rfl rfl ?_
    refine w_ia (k := 108) (n := 128) (jn := x2.toNatClampNeg) am_e278 rfl rfl (by decide) hf1 rfl ?_
    refine w_st (i' := 78) (ls' := [.ref 99, d1, .int x2]) (st' := [.ref 99, .int ((I 108) x2.toNatClampNeg), .ref 99, .ref 99]) (E' := E) (I' := I) (J' := J) (S' := S) am_e278 rfl rfl rfl rfl ?_
    refine w_st (i' := 79) (ls' := [.ref 99, d1, .int x2]) (st' := [.ref 116, .int ((I 108) x2.toNatClampNeg), .ref 99, .ref 99]) (E' := E) (I' := I) (J' := J) (S' := S) am_e278 rfl rfl rfl rfl ?_
    refine w_st (i' := 80) (ls' := [.ref 99, d1, .int x2]) (st' := [.int (nI 48), .ref 116, .int ((I 108) x2.toNatClampNeg), .ref 99, .ref 99]) (E' := E) (I' := I) (J' := J) (S' := S) am_e278 rfl rfl rfl rfl ?_
    refine w_st (i' := 81) (ls' := [.ref 99, d1, .int x2]) (st' := [.ref 99, .int (nI 48), .ref 116, .int ((I 108) x2.toNatClampNeg), .ref 99, .ref 99]) (E' := E) (I' := I) (J' := J) (S' := S) am_e278 rfl rfl rfl rfl ?_
    refine w_st (i' := 82) (ls' := [.ref 99, d1, .int x2]) (st' := [.ref 108, .int (nI 48), .ref 116, .int ((I 108) x2.toNatClampNeg), .ref 99, .ref 99]) (E' := E) (I' := I) (J' := J) (S' := S) am_e278 rfl rfl rfl rfl ?_
    refine w_st (i' := 83) (ls' := [.ref 99, d1, .int x2]) (st' := [.int x2, .ref 108, .int (nI 48), .ref 116, .int ((I 108) x2.toNatClampNeg), .ref 99, .ref 99]) (E' := E) (I' := I) (J' := J) (S' := S) am_e278 rfl rfl rfl rfl ?_
    refine w_ia (k := 108) (n := 128) (jn := x2.toNatClampNeg) am_e278 rfl rfl (by decide) hf1 rfl ?_
    refine w_st (i' := 85) (ls' := [.ref 99, d1, .int x2]) (st' := [.int ((nI 48) + ((I 108) x2.toNatClampNeg)), .ref 116, .int ((I 108) x2.toNatClampNeg), .ref 99, .ref 99]) (E' := E) (I' := I) (J' := J) (S' := S) am_e278 rfl rfl rfl rfl ?_
    have hf3 := h.1
    replace h := h.2
    refine w_ia (k := 116) (n := 51) (jn := ((nI 48) + ((I 108) x2.toNatClampNeg)).toNatClampNeg) am_e278 rfl rfl (by decide) hf3 rfl ?_
    refine w_cI am_e278 rfl rfl (as := [.ref 99, .int ((I 108) x2.toNatClampNeg), .int ((I 116) (((nI 48) + ((I 108) x2.toNatClampNeg)).toNatClampNeg))]) (rest := [.ref 99]) rfl rfl ?_
    show am_ww 280 0 [.ref 99, .int ((I 108) x2.toNatClampNeg), .int ((I 116) (((nI 48) + ((I 108) x2.toNatClampNeg)).toNatClampNeg))] [] E I J S _
    refine w_var (fun w4 => am_ww 280 0 [.ref 99, .int ((I 108) x2.toNatClampNeg), .int w4] [] E I J S _) ((I 116) (((nI 48) + ((I 108) x2.toNatClampNeg)).toNatClampNeg)) (fun w4 hw4 => ?_)
    replace h := h w4 hw4
    refine w_st (i' := 1) (ls' := [.ref 99, .int ((I 108) x2.toNatClampNeg), .int w4]) (st' := [.ref 99]) (E' := E) (I' := I) (J' := J) (S' := S) am_e280 rfl rfl rfl rfl ?_
    refine w_st (i' := 2) (ls' := [.ref 99, .int ((I 108) x2.toNatClampNeg), .int w4]) (st' := [.int ((I 99) 51)]) (E' := E) (I' := I) (J' := J) (S' := S) am_e280 rfl rfl rfl rfl ?_
    refine w_st (i' := 3) (ls' := [.ref 99, .int ((I 108) x2.toNatClampNeg), .int w4]) (st' := [.int (nI 2), .int ((I 99) 51)]) (E' := E) (I' := I) (J' := J) (S' := S) am_e280 rfl rfl rfl rfl ?_
    refine w_st (i' := 4) (ls' := [.ref 99, .int ((I 108) x2.toNatClampNeg), .int w4]) (st' := [.int ((I 108) x2.toNatClampNeg), .int (nI 2), .int ((I 99) 51)]) (E' := E) (I' := I) (J' := J) (S' := S) am_e280 rfl rfl rfl rfl ?_
    refine w_st (i' := 5) (ls' := [.ref 99, .int ((I 108) x2.toNatClampNeg), .int w4]) (st' := [.int ((nI 2) + ((I 108) x2.toNatClampNeg)), .int ((I 99) 51)]) (E' := E) (I' := I) (J' := J) (S' := S) am_e280 rfl rfl rfl rfl ?_
    refine w_mg (i := 21) (ls' := [.ref 99, .int ((I 108) x2.toNatClampNeg), .int w4]) (st' := [.int (if ((I 99) 51) = ((nI 2) + ((I 108) x2.toNatClampNeg)) then (if w4 = ((I 99) 52) then ((I 99) 53) else ((I 123) ((((nI 30) * ((I 108) x2.toNatClampNeg)) + w4).toNatClampNeg))) else ((I 123) ((((nI 30) * ((I 108) x2.toNatClampNeg)) + w4).toNatClampNeg)))]) (fun hm => ?_) ?_
    · replace h := h.1
      refine w_if2 am_e280 rfl rfl (fun c => ?_) (fun c => ?_)
      · have m5 : ¬ (((I 99) 51) = ((nI 2) + ((I 108) x2.toNatClampNeg))) := (of_decide_eq_true c)
        replace h := h.2 m5
        refine w_st (i' := 14) (ls' := [.ref 99, .int ((I 108) x2.toNatClampNeg), .int w4]) (st' := [.ref 99]) (E' := E) (I' := I) (J' := J) (S' := S) am_e280 rfl rfl rfl rfl ?_
        refine w_st (i' := 15) (ls' := [.ref 99, .int ((I 108) x2.toNatClampNeg), .int w4]) (st' := [.ref 123]) (E' := E) (I' := I) (J' := J) (S' := S) am_e280 rfl rfl rfl rfl ?_
        refine w_st (i' := 16) (ls' := [.ref 99, .int ((I 108) x2.toNatClampNeg), .int w4]) (st' := [.int (nI 30), .ref 123]) (E' := E) (I' := I) (J' := J) (S' := S) am_e280 rfl rfl rfl rfl ?_
        refine w_st (i' := 17) (ls' := [.ref 99, .int ((I 108) x2.toNatClampNeg), .int w4]) (st' := [.int ((I 108) x2.toNatClampNeg), .int (nI 30), .ref 123]) (E' := E) (I' := I) (J' := J) (S' := S) am_e280 rfl rfl rfl rfl ?_
        refine w_st (i' := 18) (ls' := [.ref 99, .int ((I 108) x2.toNatClampNeg), .int w4]) (st' := [.int ((nI 30) * ((I 108) x2.toNatClampNeg)), .ref 123]) (E' := E) (I' := I) (J' := J) (S' := S) am_e280 rfl rfl rfl rfl ?_
        refine w_st (i' := 19) (ls' := [.ref 99, .int ((I 108) x2.toNatClampNeg), .int w4]) (st' := [.int w4, .int ((nI 30) * ((I 108) x2.toNatClampNeg)), .ref 123]) (E' := E) (I' := I) (J' := J) (S' := S) am_e280 rfl rfl rfl rfl ?_
        refine w_st (i' := 20) (ls' := [.ref 99, .int ((I 108) x2.toNatClampNeg), .int w4]) (st' := [.int (((nI 30) * ((I 108) x2.toNatClampNeg)) + w4), .ref 123]) (E' := E) (I' := I) (J' := J) (S' := S) am_e280 rfl rfl rfl rfl ?_
        refine w_ia (k := 123) (n := 90) (jn := (((nI 30) * ((I 108) x2.toNatClampNeg)) + w4).toNatClampNeg) am_e280 rfl rfl (by decide) h.1 rfl ?_
        replace h := h.2
        show am_ww 280 21 [.ref 99, .int ((I 108) x2.toNatClampNeg), .int w4] [.int ((I 123) ((((nI 30) * ((I 108) x2.toNatClampNeg)) + w4).toNatClampNeg))] E I J S _
        first | exact hm | (simp only [if_neg m5] at hm; exact hm)
      · have m5 : ((I 99) 51) = ((nI 2) + ((I 108) x2.toNatClampNeg)) := (Decidable.not_not.mp (of_decide_eq_false c))
        replace h := h.1 m5
        refine w_st (i' := 7) (ls' := [.ref 99, .int ((I 108) x2.toNatClampNeg), .int w4]) (st' := [.int w4]) (E' := E) (I' := I) (J' := J) (S' := S) am_e280 rfl rfl rfl rfl ?_
        refine w_st (i' := 8) (ls' := [.ref 99, .int ((I 108) x2.toNatClampNeg), .int w4]) (st' := [.ref 99, .int w4]) (E' := E) (I' := I) (J' := J) (S' := S) am_e280 rfl rfl rfl rfl ?_
        refine w_st (i' := 9) (ls' := [.ref 99, .int ((I 108) x2.toNatClampNeg), .int w4]) (st' := [.int ((I 99) 52), .int w4]) (E' := E) (I' := I) (J' := J) (S' := S) am_e280 rfl rfl rfl rfl ?_
        refine w_if2 am_e280 rfl rfl (fun c => ?_) (fun c => ?_)
        · have m6 : ¬ (w4 = ((I 99) 52)) := (of_decide_eq_true c)
          replace h := h.2 m6
          refine w_st (i' := 14) (ls' := [.ref 99, .int ((I 108) x2.toNatClampNeg), .int w4]) (st' := [.ref 99]) (E' := E) (I' := I) (J' := J) (S' := S) am_e280 rfl rfl rfl rfl ?_
          refine w_st (i' := 15) (ls' := [.ref 99, .int ((I 108) x2.toNatClampNeg), .int w4]) (st' := [.ref 123]) (E' := E) (I' := I) (J' := J) (S' := S) am_e280 rfl rfl rfl rfl ?_
          refine w_st (i' := 16) (ls' := [.ref 99, .int ((I 108) x2.toNatClampNeg), .int w4]) (st' := [.int (nI 30), .ref 123]) (E' := E) (I' := I) (J' := J) (S' := S) am_e280 rfl rfl rfl rfl ?_
          refine w_st (i' := 17) (ls' := [.ref 99, .int ((I 108) x2.toNatClampNeg), .int w4]) (st' := [.int ((I 108) x2.toNatClampNeg), .int (nI 30), .ref 123]) (E' := E) (I' := I) (J' := J) (S' := S) am_e280 rfl rfl rfl rfl ?_
          refine w_st (i' := 18) (ls' := [.ref 99, .int ((I 108) x2.toNatClampNeg), .int w4]) (st' := [.int ((nI 30) * ((I 108) x2.toNatClampNeg)), .ref 123]) (E' := E) (I' := I) (J' := J) (S' := S) am_e280 rfl rfl rfl rfl ?_
          refine w_st (i' := 19) (ls' := [.ref 99, .int ((I 108) x2.toNatClampNeg), .int w4]) (st' := [.int w4, .int ((nI 30) * ((I 108) x2.toNatClampNeg)), .ref 123]) (E' := E) (I' := I) (J' := J) (S' := S) am_e280 rfl rfl rfl rfl ?_
          refine w_st (i' := 20) (ls' := [.ref 99, .int ((I 108) x2.toNatClampNeg), .int w4]) (st' := [.int (((nI 30) * ((I 108) x2.toNatClampNeg)) + w4), .ref 123]) (E' := E) (I' := I) (J' := J) (S' := S) am_e280 rfl rfl rfl rfl ?_
          refine w_ia (k := 123) (n := 90) (jn := (((nI 30) * ((I 108) x2.toNatClampNeg)) + w4).toNatClampNeg) am_e280 rfl rfl (by decide) h.1 rfl ?_
          replace h := h.2
          show am_ww 280 21 [.ref 99, .int ((I 108) x2.toNatClampNeg), .int w4] [.int ((I 123) ((((nI 30) * ((I 108) x2.toNatClampNeg)) + w4).toNatClampNeg))] E I J S _
          first | exact hm | (simp only [if_pos m5, if_neg m6] at hm; exact hm)
        · have m6 : w4 = ((I 99) 52) := (Decidable.not_not.mp (of_decide_eq_false c))
          replace h := h.1 m6
          refine w_st (i' := 11) (ls' := [.ref 99, .int ((I 108) x2.toNatClampNeg), .int w4]) (st' := [.ref 99]) (E' := E) (I' := I) (J' := J) (S' := S) am_e280 rfl rfl rfl rfl ?_
          refine w_st (i' := 12) (ls' := [.ref 99, .int ((I 108) x2.toNatClampNeg), .int w4]) (st' := [.int ((I 99) 53)]) (E' := E) (I' := I) (J' := J) (S' := S) am_e280 rfl rfl rfl rfl ?_
          refine w_st (i' := 21) (ls' := [.ref 99, .int ((I 108) x2.toNatClampNeg), .int w4]) (st' := [.int ((I 99) 53)]) (E' := E) (I' := I) (J' := J) (S' := S) am_e280 rfl rfl rfl rfl ?_
          first | exact hm | (simp only [if_pos m5, if_pos m6] at hm; exact hm)
    replace h := h.2
    refine w_var (fun w7 => am_ww 280 21 [.ref 99, .int ((I 108) x2.toNatClampNeg), .int w4] [.int w7] E I J S _) (if ((I 99) 51) = ((nI 2) + ((I 108) x2.toNatClampNeg)) then (if w4 = ((I 99) 52) then ((I 99) 53) else ((I 123) ((((nI 30) * ((I 108) x2.toNatClampNeg)) + w4).toNatClampNeg))) else ((I 123) ((((nI 30) * ((I 108) x2.toNatClampNeg)) + w4).toNatClampNeg))) (fun w7 hw7 => ?_)
    replace h := h w7 hw7
    refine w_ri am_e280 rfl rfl (q_mkI ?_)
    show am_ww 278 87 [.ref 99, d1, .int x2] [.int w7, .ref 99] E I J S _
    refine w_st (i' := 89) (ls' := [.ref 99, d1, .int x2]) (st' := [.int w7, .ref 99]) (E' := E) (I' := I) (J' := J) (S' := S) am_e278 rfl rfl rfl rfl ?_
    refine w_cV am_e278 rfl rfl (as := [.ref 99, .int w7]) (rest := []) rfl rfl (am_ww.mono h ?_)
    rintro _ E8 I8 J8 S8 ⟨rfl, h⟩
    refine q_mkV ?_
    refine w_st (i' := 91) (ls' := [.ref 99, d1, .int x2]) (st' := [.int (nI 1)]) (E' := E8) (I' := I8) (J' := J8) (S' := S8) am_e278 rfl rfl rfl rfl ?_
    exact w_end am_e278 rfl rfl rfl h
-- 276 replay
theorem g276_0  {E : am_Ev} {I : Nat → Nat → Int32} {J : Nat → Nat → Int64} {S : Nat → Nat → Option Nat} {Q : am_Qt}  (h : am_cl 184 [.ref 99, .int ((I 103) 1)] E (u_I I 99 (upd (upd (upd (I 99) 54 (-1)) 55 (-1)) 56 (-1))) J S (q_V fun E1 I1 J1 S1 => (((I1 99) 51) = (nI 5) → (vp_in ((I1 99) 52) 51 ∧ (am_cl 277 [.ref 99, .int (nI 0)] E1 (u_I I1 116 (upd (I1 116) (((I1 99) 52).toNatClampNeg) ((I1 99) 53))) J1 S1 (q_I fun v4 E4 I4 J4 S4 => (v4 = 0 → (am_ww 276 35 [.ref 99, .int (nI 1)] [] E4 I4 J4 S4 Q)) ∧ (¬ v4 = 0 → (am_ww 276 35 [.ref 99, .int (nI 1)] [] E4 (u_I I4 99 (upd (I4 99) 54 (nI 0))) J4 S4 Q)))))) ∧ (¬ ((I1 99) 51) = (nI 5) → (am_cl 277 [.ref 99, .int (nI 0)] E1 I1 J1 S1 (q_I fun v2 E2 I2 J2 S2 => (v2 = 0 → (am_ww 276 35 [.ref 99, .int (nI 1)] [] E2 I2 J2 S2 Q)) ∧ (¬ v2 = 0 → (am_ww 276 35 [.ref 99, .int (nI 1)] [] E2 (u_I I2 99 (upd (I2 99) 54 (nI 0))) J2 S2 Q))))))) : am_ww 276 0 [.ref 99, am_U] [] E I J S Q := by
  refine w_st (i' := 1) (ls' := [.ref 99, am_U]) (st' := [.ref 99]) (E' := E) (I' := I) (J' := J) (S' := S) am_e276 rfl rfl rfl rfl ?_
  refine w_st (i' := 2) (ls' := [.ref 99, am_U]) (st' := [.int (-1), .ref 99]) (E' := E) (I' := I) (J' := J) (S' := S) am_e276 rfl rfl rfl rfl ?_
  refine w_st (i' := 3) (ls' := [.ref 99, am_U]) (st' := []) (E' := E) (I' := (u_I I 99 (upd (I 99) 54 (-1)))) (J' := J) (S' := S) am_e276 rfl rfl rfl rfl ?_
  refine w_st (i' := 4) (ls' := [.ref 99, am_U]) (st' := [.ref 99]) (E' := E) (I' := (u_I I 99 (upd (I 99) 54 (-1)))) (J' := J) (S' := S) am_e276 rfl rfl rfl rfl ?_
  refine w_st (i' := 5) (ls' := [.ref 99, am_U]) (st' := [.int (-1), .ref 99]) (E' := E) (I' := (u_I I 99 (upd (I 99) 54 (-1)))) (J' := J) (S' := S) am_e276 rfl rfl rfl rfl ?_
  refine w_st (i' := 6) (ls' := [.ref 99, am_U]) (st' := []) (E' := E) (I' := (u_I (u_I I 99 (upd (I 99) 54 (-1))) 99 (upd (upd (I 99) 54 (-1)) 55 (-1)))) (J' := J) (S' := S) am_e276 rfl rfl rfl rfl ?_
  refine w_eI (uI_0 ..) ?_
  show am_ww 276 6 [.ref 99, am_U] [] E (u_I I 99 (upd (upd (I 99) 54 (-1)) 55 (-1))) J S _
  refine w_st (i' := 7) (ls' := [.ref 99, am_U]) (st' := [.ref 99]) (E' := E) (I' := (u_I I 99 (upd (upd (I 99) 54 (-1)) 55 (-1)))) (J' := J) (S' := S) am_e276 rfl rfl rfl rfl ?_
  refine w_st (i' := 8) (ls' := [.ref 99, am_U]) (st' := [.int (-1), .ref 99]) (E' := E) (I' := (u_I I 99 (upd (upd (I 99) 54 (-1)) 55 (-1)))) (J' := J) (S' := S) am_e276 rfl rfl rfl rfl ?_
  refine w_st (i' := 9) (ls' := [.ref 99, am_U]) (st' := []) (E' := E) (I' := (u_I (u_I I 99 (upd (upd (I 99) 54 (-1)) 55 (-1))) 99 (upd (upd (upd (I 99) 54 (-1)) 55 (-1)) 56 (-1)))) (J' := J) (S' := S) am_e276 rfl rfl rfl rfl ?_
  refine w_eI (uI_0 ..) ?_
  show am_ww 276 9 [.ref 99, am_U] [] E (u_I I 99 (upd (upd (upd (I 99) 54 (-1)) 55 (-1)) 56 (-1))) J S _
  refine w_st (i' := 10) (ls' := [.ref 99, am_U]) (st' := [.ref 99]) (E' := E) (I' := (u_I I 99 (upd (upd (upd (I 99) 54 (-1)) 55 (-1)) 56 (-1)))) (J' := J) (S' := S) am_e276 rfl rfl rfl rfl ?_
  refine w_st (i' := 11) (ls' := [.ref 99, am_U]) (st' := [.ref 99, .ref 99]) (E' := E) (I' := (u_I I 99 (upd (upd (upd (I 99) 54 (-1)) 55 (-1)) 56 (-1)))) (J' := J) (S' := S) am_e276 rfl rfl rfl rfl ?_
  refine w_st (i' := 12) (ls' := [.ref 99, am_U]) (st' := [.ref 103, .ref 99]) (E' := E) (I' := (u_I I 99 (upd (upd (upd (I 99) 54 (-1)) 55 (-1)) 56 (-1)))) (J' := J) (S' := S) am_e276 rfl rfl rfl rfl ?_
  refine w_st (i' := 13) (ls' := [.ref 99, am_U]) (st' := [.int (nI 1), .ref 103, .ref 99]) (E' := E) (I' := (u_I I 99 (upd (upd (upd (I 99) 54 (-1)) 55 (-1)) 56 (-1)))) (J' := J) (S' := S) am_e276 rfl rfl rfl rfl ?_
  refine w_ia (k := 103) (n := 10) (jn := 1) am_e276 rfl rfl (by decide) (vp_in_nI (by decide) (by decide)) rfl ?_
  show am_ww 276 14 [.ref 99, am_U] [.int ((I 103) 1), .ref 99] E (u_I I 99 (upd (upd (upd (I 99) 54 (-1)) 55 (-1)) 56 (-1))) J S _
  refine w_cV am_e276 rfl rfl (as := [.ref 99, .int ((I 103) 1)]) (rest := []) rfl rfl (am_ww.mono h ?_)
  rintro _ E1 I1 J1 S1 ⟨rfl, h⟩
  refine q_mkV ?_
  refine w_st (i' := 16) (ls' := [.ref 99, am_U]) (st' := [.ref 99]) (E' := E1) (I' := I1) (J' := J1) (S' := S1) am_e276 rfl rfl rfl rfl ?_
  refine w_st (i' := 17) (ls' := [.ref 99, am_U]) (st' := [.int ((I1 99) 51)]) (E' := E1) (I' := I1) (J' := J1) (S' := S1) am_e276 rfl rfl rfl rfl ?_
  refine w_st (i' := 18) (ls' := [.ref 99, am_U]) (st' := [.int (nI 5), .int ((I1 99) 51)]) (E' := E1) (I' := I1) (J' := J1) (S' := S1) am_e276 rfl rfl rfl rfl ?_
  refine w_if2 am_e276 rfl rfl (fun c => ?_) (fun c => ?_)
  · replace h := h.2 (of_decide_eq_true c)
    refine w_st (i' := 27) (ls' := [.ref 99, am_U]) (st' := [.ref 99]) (E' := E1) (I' := I1) (J' := J1) (S' := S1) am_e276 rfl rfl rfl rfl ?_
    refine w_st (i' := 28) (ls' := [.ref 99, am_U]) (st' := [.int (nI 0), .ref 99]) (E' := E1) (I' := I1) (J' := J1) (S' := S1) am_e276 rfl rfl rfl rfl ?_
    refine w_cI am_e276 rfl rfl (as := [.ref 99, .int (nI 0)]) (rest := []) rfl rfl (am_ww.mono h ?_)
    rintro _ E2 I2 J2 S2 ⟨v2, rfl, h⟩
    refine q_mkI ?_
    refine w_if1 am_e276 rfl rfl (fun c => ?_) (fun c => ?_)
    · replace h := h.1 (of_decide_eq_true c)
      refine w_st (i' := 34) (ls' := [.ref 99, am_U]) (st' := [.int (nI 1)]) (E' := E2) (I' := I2) (J' := J2) (S' := S2) am_e276 rfl rfl rfl rfl ?_
      refine w_st (i' := 35) (ls' := [.ref 99, .int (nI 1)]) (st' := []) (E' := E2) (I' := I2) (J' := J2) (S' := S2) am_e276 rfl rfl rfl rfl ?_
      exact h
    · replace h := h.2 (of_decide_eq_false c)
      refine w_st (i' := 31) (ls' := [.ref 99, am_U]) (st' := [.ref 99]) (E' := E2) (I' := I2) (J' := J2) (S' := S2) am_e276 rfl rfl rfl rfl ?_
      refine w_st (i' := 32) (ls' := [.ref 99, am_U]) (st' := [.int (nI 0), .ref 99]) (E' := E2) (I' := I2) (J' := J2) (S' := S2) am_e276 rfl rfl rfl rfl ?_
      refine w_st (i' := 33) (ls' := [.ref 99, am_U]) (st' := []) (E' := E2) (I' := (u_I I2 99 (upd (I2 99) 54 (nI 0)))) (J' := J2) (S' := S2) am_e276 rfl rfl rfl rfl ?_
      refine w_st (i' := 34) (ls' := [.ref 99, am_U]) (st' := [.int (nI 1)]) (E' := E2) (I' := (u_I I2 99 (upd (I2 99) 54 (nI 0)))) (J' := J2) (S' := S2) am_e276 rfl rfl rfl rfl ?_
      refine w_st (i' := 35) (ls' := [.ref 99, .int (nI 1)]) (st' := []) (E' := E2) (I' := (u_I I2 99 (upd (I2 99) 54 (nI 0)))) (J' := J2) (S' := S2) am_e276 rfl rfl rfl rfl ?_
      exact h
  · replace h := h.1 (Decidable.not_not.mp (of_decide_eq_false c))
    refine w_st (i' := 20) (ls' := [.ref 99, am_U]) (st' := [.ref 99]) (E' := E1) (I' := I1) (J' := J1) (S' := S1) am_e276 rfl rfl rfl rfl ?_
    refine w_st (i' := 21) (ls' := [.ref 99, am_U]) (st' := [.ref 116]) (E' := E1) (I' := I1) (J' := J1) (S' := S1) am_e276 rfl rfl rfl rfl ?_
    refine w_st (i' := 22) (ls' := [.ref 99, am_U]) (st' := [.ref 99, .ref 116]) (E' := E1) (I' := I1) (J' := J1) (S' := S1) am_e276 rfl rfl rfl rfl ?_
    refine w_st (i' := 23) (ls' := [.ref 99, am_U]) (st' := [.int ((I1 99) 52), .ref 116]) (E' := E1) (I' := I1) (J' := J1) (S' := S1) am_e276 rfl rfl rfl rfl ?_
    refine w_st (i' := 24) (ls' := [.ref 99, am_U]) (st' := [.ref 99, .int ((I1 99) 52), .ref 116]) (E' := E1) (I' := I1) (J' := J1) (S' := S1) am_e276 rfl rfl rfl rfl ?_
    refine w_st (i' := 25) (ls' := [.ref 99, am_U]) (st' := [.int ((I1 99) 53), .int ((I1 99) 52), .ref 116]) (E' := E1) (I' := I1) (J' := J1) (S' := S1) am_e276 rfl rfl rfl rfl ?_
    have hf3 := h.1
    replace h := h.2
    refine w_is (k := 116) (n := 51) (jn := ((I1 99) 52).toNatClampNeg) am_e276 rfl rfl (by decide) hf3 rfl ?_
    show am_ww 276 26 [.ref 99, am_U] [] E1 (u_I I1 116 (upd (I1 116) (((I1 99) 52).toNatClampNeg) ((I1 99) 53))) J1 S1 _
    refine w_st (i' := 27) (ls' := [.ref 99, am_U]) (st' := [.ref 99]) (E' := E1) (I' := (u_I I1 116 (upd (I1 116) (((I1 99) 52).toNatClampNeg) ((I1 99) 53)))) (J' := J1) (S' := S1) am_e276 rfl rfl rfl rfl ?_
    refine w_st (i' := 28) (ls' := [.ref 99, am_U]) (st' := [.int (nI 0), .ref 99]) (E' := E1) (I' := (u_I I1 116 (upd (I1 116) (((I1 99) 52).toNatClampNeg) ((I1 99) 53)))) (J' := J1) (S' := S1) am_e276 rfl rfl rfl rfl ?_
    refine w_cI am_e276 rfl rfl (as := [.ref 99, .int (nI 0)]) (rest := []) rfl rfl (am_ww.mono h ?_)
    rintro _ E4 I4 J4 S4 ⟨v4, rfl, h⟩
    refine q_mkI ?_
    refine w_if1 am_e276 rfl rfl (fun c => ?_) (fun c => ?_)
    · replace h := h.1 (of_decide_eq_true c)
      refine w_st (i' := 34) (ls' := [.ref 99, am_U]) (st' := [.int (nI 1)]) (E' := E4) (I' := I4) (J' := J4) (S' := S4) am_e276 rfl rfl rfl rfl ?_
      refine w_st (i' := 35) (ls' := [.ref 99, .int (nI 1)]) (st' := []) (E' := E4) (I' := I4) (J' := J4) (S' := S4) am_e276 rfl rfl rfl rfl ?_
      exact h
    · replace h := h.2 (of_decide_eq_false c)
      refine w_st (i' := 31) (ls' := [.ref 99, am_U]) (st' := [.ref 99]) (E' := E4) (I' := I4) (J' := J4) (S' := S4) am_e276 rfl rfl rfl rfl ?_
      refine w_st (i' := 32) (ls' := [.ref 99, am_U]) (st' := [.int (nI 0), .ref 99]) (E' := E4) (I' := I4) (J' := J4) (S' := S4) am_e276 rfl rfl rfl rfl ?_
      refine w_st (i' := 33) (ls' := [.ref 99, am_U]) (st' := []) (E' := E4) (I' := (u_I I4 99 (upd (I4 99) 54 (nI 0)))) (J' := J4) (S' := S4) am_e276 rfl rfl rfl rfl ?_
      refine w_st (i' := 34) (ls' := [.ref 99, am_U]) (st' := [.int (nI 1)]) (E' := E4) (I' := (u_I I4 99 (upd (I4 99) 54 (nI 0)))) (J' := J4) (S' := S4) am_e276 rfl rfl rfl rfl ?_
      refine w_st (i' := 35) (ls' := [.ref 99, .int (nI 1)]) (st' := []) (E' := E4) (I' := (u_I I4 99 (upd (I4 99) 54 (nI 0)))) (J' := J4) (S' := S4) am_e276 rfl rfl rfl rfl ?_
      exact h
theorem g276_35 {x1 : Int32} {E : am_Ev} {I : Nat → Nat → Int32} {J : Nat → Nat → Int64} {S : Nat → Nat → Option Nat} {Q : am_Qt}  (h : (((I 99) 12) < x1 → (Q (.inl none) E I J S)) ∧ (¬ ((I 99) 12) < x1 → ((((I 99) 56) = (-1) → (am_cl 278 [.ref 99] E I J S (q_I fun v1 E1 I1 J1 S1 => (v1 = 0 → (∀ w4 : Int32, w4 = (if ((I1 99) 54) = (-1) then x1 else ((I1 99) 54)) → (am_ww 276 35 [.ref 99, .int (x1 + nI 1)] [] E1 (u_I I1 99 (upd (upd (I1 99) 56 (x1 - (nI 1))) 54 w4)) J1 S1 Q))) ∧ (¬ v1 = 0 → ((((I1 99) 54) = (-1) → (am_cl 277 [.ref 99, .int x1] E1 I1 J1 S1 (q_I fun v2 E2 I2 J2 S2 => (v2 = 0 → (am_ww 276 73 [.ref 99, .int x1] [] E2 I2 J2 S2 Q)) ∧ (¬ v2 = 0 → (am_ww 276 73 [.ref 99, .int x1] [] E2 (u_I I2 99 (upd (I2 99) 54 x1)) J2 S2 Q))))) ∧ (¬ ((I1 99) 54) = (-1) → (am_ww 276 73 [.ref 99, .int x1] [] E1 I1 J1 S1 Q))))))) ∧ (¬ ((I 99) 56) = (-1) → (Q (.inl none) E I J S))))) : am_ww 276 35 [.ref 99, .int x1] [] E I J S Q := by
  refine w_st (i' := 36) (ls' := [.ref 99, .int x1]) (st' := [.int x1]) (E' := E) (I' := I) (J' := J) (S' := S) am_e276 rfl rfl rfl rfl ?_
  refine w_st (i' := 37) (ls' := [.ref 99, .int x1]) (st' := [.ref 99, .int x1]) (E' := E) (I' := I) (J' := J) (S' := S) am_e276 rfl rfl rfl rfl ?_
  refine w_st (i' := 38) (ls' := [.ref 99, .int x1]) (st' := [.int ((I 99) 12), .int x1]) (E' := E) (I' := I) (J' := J) (S' := S) am_e276 rfl rfl rfl rfl ?_
  refine w_if2 am_e276 rfl rfl (fun c => ?_) (fun c => ?_)
  · replace h := h.1 (of_decide_eq_true c)
    exact w_end am_e276 rfl rfl rfl h
  · replace h := h.2 (of_decide_eq_false c)
    refine w_st (i' := 40) (ls' := [.ref 99, .int x1]) (st' := [.ref 99]) (E' := E) (I' := I) (J' := J) (S' := S) am_e276 rfl rfl rfl rfl ?_
    refine w_st (i' := 41) (ls' := [.ref 99, .int x1]) (st' := [.int ((I 99) 56)]) (E' := E) (I' := I) (J' := J) (S' := S) am_e276 rfl rfl rfl rfl ?_
    refine w_st (i' := 42) (ls' := [.ref 99, .int x1]) (st' := [.int (-1), .int ((I 99) 56)]) (E' := E) (I' := I) (J' := J) (S' := S) am_e276 rfl rfl rfl rfl ?_
    refine w_if2 am_e276 rfl rfl (fun c => ?_) (fun c => ?_)
    · replace h := h.2 (of_decide_eq_true c)
      exact w_end am_e276 rfl rfl rfl h
    · replace h := h.1 (Decidable.not_not.mp (of_decide_eq_false c))
      refine w_st (i' := 44) (ls' := [.ref 99, .int x1]) (st' := [.ref 99]) (E' := E) (I' := I) (J' := J) (S' := S) am_e276 rfl rfl rfl rfl ?_
      refine w_cI am_e276 rfl rfl (as := [.ref 99]) (rest := []) rfl rfl (am_ww.mono h ?_)
      rintro _ E1 I1 J1 S1 ⟨v1, rfl, h⟩
      refine q_mkI ?_
      refine w_if1 am_e276 rfl rfl (fun c => ?_) (fun c => ?_)
      · replace h := h.2 (of_decide_eq_true c)
        refine w_st (i' := 63) (ls' := [.ref 99, .int x1]) (st' := [.ref 99]) (E' := E1) (I' := I1) (J' := J1) (S' := S1) am_e276 rfl rfl rfl rfl ?_
        refine w_st (i' := 64) (ls' := [.ref 99, .int x1]) (st' := [.int ((I1 99) 54)]) (E' := E1) (I' := I1) (J' := J1) (S' := S1) am_e276 rfl rfl rfl rfl ?_
        refine w_st (i' := 65) (ls' := [.ref 99, .int x1]) (st' := [.int (-1), .int ((I1 99) 54)]) (E' := E1) (I' := I1) (J' := J1) (S' := S1) am_e276 rfl rfl rfl rfl ?_
        refine w_if2 am_e276 rfl rfl (fun c => ?_) (fun c => ?_)
        · replace h := h.2 (of_decide_eq_true c)
          exact h
        · replace h := h.1 (Decidable.not_not.mp (of_decide_eq_false c))
          refine w_st (i' := 67) (ls' := [.ref 99, .int x1]) (st' := [.ref 99]) (E' := E1) (I' := I1) (J' := J1) (S' := S1) am_e276 rfl rfl rfl rfl ?_
          refine w_st (i' := 68) (ls' := [.ref 99, .int x1]) (st' := [.int x1, .ref 99]) (E' := E1) (I' := I1) (J' := J1) (S' := S1) am_e276 rfl rfl rfl rfl ?_
          refine w_cI am_e276 rfl rfl (as := [.ref 99, .int x1]) (rest := []) rfl rfl (am_ww.mono h ?_)
          rintro _ E2 I2 J2 S2 ⟨v2, rfl, h⟩
          refine q_mkI ?_
          refine w_if1 am_e276 rfl rfl (fun c => ?_) (fun c => ?_)
          · replace h := h.1 (of_decide_eq_true c)
            exact h
          · replace h := h.2 (of_decide_eq_false c)
            refine w_st (i' := 71) (ls' := [.ref 99, .int x1]) (st' := [.ref 99]) (E' := E2) (I' := I2) (J' := J2) (S' := S2) am_e276 rfl rfl rfl rfl ?_
            refine w_st (i' := 72) (ls' := [.ref 99, .int x1]) (st' := [.int x1, .ref 99]) (E' := E2) (I' := I2) (J' := J2) (S' := S2) am_e276 rfl rfl rfl rfl ?_
            refine w_st (i' := 73) (ls' := [.ref 99, .int x1]) (st' := []) (E' := E2) (I' := (u_I I2 99 (upd (I2 99) 54 x1))) (J' := J2) (S' := S2) am_e276 rfl rfl rfl rfl ?_
            exact h
      · replace h := h.1 (Decidable.not_not.mp (of_decide_eq_false c))
        refine w_st (i' := 47) (ls' := [.ref 99, .int x1]) (st' := [.ref 99]) (E' := E1) (I' := I1) (J' := J1) (S' := S1) am_e276 rfl rfl rfl rfl ?_
        refine w_st (i' := 48) (ls' := [.ref 99, .int x1]) (st' := [.int x1, .ref 99]) (E' := E1) (I' := I1) (J' := J1) (S' := S1) am_e276 rfl rfl rfl rfl ?_
        refine w_st (i' := 49) (ls' := [.ref 99, .int x1]) (st' := [.int (nI 1), .int x1, .ref 99]) (E' := E1) (I' := I1) (J' := J1) (S' := S1) am_e276 rfl rfl rfl rfl ?_
        refine w_st (i' := 50) (ls' := [.ref 99, .int x1]) (st' := [.int (x1 - (nI 1)), .ref 99]) (E' := E1) (I' := I1) (J' := J1) (S' := S1) am_e276 rfl rfl rfl rfl ?_
        refine w_st (i' := 51) (ls' := [.ref 99, .int x1]) (st' := []) (E' := E1) (I' := (u_I I1 99 (upd (I1 99) 56 (x1 - (nI 1))))) (J' := J1) (S' := S1) am_e276 rfl rfl rfl rfl ?_
        refine w_st (i' := 52) (ls' := [.ref 99, .int x1]) (st' := [.ref 99]) (E' := E1) (I' := (u_I I1 99 (upd (I1 99) 56 (x1 - (nI 1))))) (J' := J1) (S' := S1) am_e276 rfl rfl rfl rfl ?_
        refine w_st (i' := 53) (ls' := [.ref 99, .int x1]) (st' := [.ref 99, .ref 99]) (E' := E1) (I' := (u_I I1 99 (upd (I1 99) 56 (x1 - (nI 1))))) (J' := J1) (S' := S1) am_e276 rfl rfl rfl rfl ?_
        refine w_st (i' := 54) (ls' := [.ref 99, .int x1]) (st' := [.int ((I1 99) 54), .ref 99]) (E' := E1) (I' := (u_I I1 99 (upd (I1 99) 56 (x1 - (nI 1))))) (J' := J1) (S' := S1) am_e276 rfl rfl rfl rfl ?_
        refine w_st (i' := 55) (ls' := [.ref 99, .int x1]) (st' := [.int (-1), .int ((I1 99) 54), .ref 99]) (E' := E1) (I' := (u_I I1 99 (upd (I1 99) 56 (x1 - (nI 1))))) (J' := J1) (S' := S1) am_e276 rfl rfl rfl rfl ?_
        refine w_mg (i := 60) (ls' := [.ref 99, .int x1]) (st' := [.int (if ((I1 99) 54) = (-1) then x1 else ((I1 99) 54)), .ref 99]) (fun hm => ?_) ?_
        · clear h
          refine w_if2 am_e276 rfl rfl (fun c => ?_) (fun c => ?_)
          · have m3 : ¬ (((I1 99) 54) = (-1)) := (of_decide_eq_true c)
            refine w_st (i' := 59) (ls' := [.ref 99, .int x1]) (st' := [.ref 99, .ref 99]) (E' := E1) (I' := (u_I I1 99 (upd (I1 99) 56 (x1 - (nI 1))))) (J' := J1) (S' := S1) am_e276 rfl rfl rfl rfl ?_
            refine w_st (i' := 60) (ls' := [.ref 99, .int x1]) (st' := [.int ((I1 99) 54), .ref 99]) (E' := E1) (I' := (u_I I1 99 (upd (I1 99) 56 (x1 - (nI 1))))) (J' := J1) (S' := S1) am_e276 rfl rfl rfl rfl ?_
            first | exact hm | (simp only [if_neg m3] at hm; exact hm)
          · have m3 : ((I1 99) 54) = (-1) := (Decidable.not_not.mp (of_decide_eq_false c))
            refine w_st (i' := 57) (ls' := [.ref 99, .int x1]) (st' := [.int x1, .ref 99]) (E' := E1) (I' := (u_I I1 99 (upd (I1 99) 56 (x1 - (nI 1))))) (J' := J1) (S' := S1) am_e276 rfl rfl rfl rfl ?_
            refine w_st (i' := 60) (ls' := [.ref 99, .int x1]) (st' := [.int x1, .ref 99]) (E' := E1) (I' := (u_I I1 99 (upd (I1 99) 56 (x1 - (nI 1))))) (J' := J1) (S' := S1) am_e276 rfl rfl rfl rfl ?_
            first | exact hm | (simp only [if_pos m3] at hm; exact hm)
        refine w_var (fun w4 => am_ww 276 60 [.ref 99, .int x1] [.int w4, .ref 99] E1 (u_I I1 99 (upd (I1 99) 56 (x1 - (nI 1)))) J1 S1 _) (if ((I1 99) 54) = (-1) then x1 else ((I1 99) 54)) (fun w4 hw4 => ?_)
        replace h := h w4 hw4
        refine w_st (i' := 61) (ls' := [.ref 99, .int x1]) (st' := []) (E' := E1) (I' := (u_I (u_I I1 99 (upd (I1 99) 56 (x1 - (nI 1)))) 99 (upd (upd (I1 99) 56 (x1 - (nI 1))) 54 w4))) (J' := J1) (S' := S1) am_e276 rfl rfl rfl rfl ?_
        refine w_eI (uI_0 ..) ?_
        show am_ww 276 61 [.ref 99, .int x1] [] E1 (u_I I1 99 (upd (upd (I1 99) 56 (x1 - (nI 1))) 54 w4)) J1 S1 _
        refine w_st (i' := 100) (ls' := [.ref 99, .int x1]) (st' := []) (E' := E1) (I' := (u_I I1 99 (upd (upd (I1 99) 56 (x1 - (nI 1))) 54 w4))) (J' := J1) (S' := S1) am_e276 rfl rfl rfl rfl ?_
        refine w_st (i' := 101) (ls' := [.ref 99, .int (x1 + nI 1)]) (st' := []) (E' := E1) (I' := (u_I I1 99 (upd (upd (I1 99) 56 (x1 - (nI 1))) 54 w4))) (J' := J1) (S' := S1) am_e276 rfl rfl rfl rfl ?_
        refine w_st (i' := 35) (ls' := [.ref 99, .int (x1 + nI 1)]) (st' := []) (E' := E1) (I' := (u_I I1 99 (upd (upd (I1 99) 56 (x1 - (nI 1))) 54 w4))) (J' := J1) (S' := S1) am_e276 rfl rfl rfl rfl ?_
        exact h
theorem g276_73 {x1 : Int32} {E : am_Ev} {I : Nat → Nat → Int32} {J : Nat → Nat → Int64} {S : Nat → Nat → Option Nat} {Q : am_Qt}  (h : (((I 99) 55) = (-1) → ((¬ ((I 103) 2) = 0) ∧ (((x1 - x1 / ((I 103) 2) * ((I 103) 2)) = 0 → (am_cl 281 [.ref 99] E I J S (q_I fun v1 E1 I1 J1 S1 => am_cl 248 [.ref 99, .int x1] E1 I1 J1 S1 (q_I fun v2 E2 I2 J2 S2 => (v1 = v2 → (am_ww 276 35 [.ref 99, .int (x1 + nI 1)] [] E2 I2 J2 S2 Q)) ∧ (¬ v1 = v2 → ((¬ ((I2 103) 2) = 0) ∧ (am_ww 276 35 [.ref 99, .int (x1 + nI 1)] [] E2 (u_I I2 99 (upd (I2 99) 55 ((x1 / ((I2 103) 2)) - (nI 1)))) J2 S2 Q))))))) ∧ (¬ (x1 - x1 / ((I 103) 2) * ((I 103) 2)) = 0 → (am_ww 276 35 [.ref 99, .int (x1 + nI 1)] [] E I J S Q))))) ∧ (¬ ((I 99) 55) = (-1) → (am_ww 276 35 [.ref 99, .int (x1 + nI 1)] [] E I J S Q))) : am_ww 276 73 [.ref 99, .int x1] [] E I J S Q := by
  refine w_st (i' := 74) (ls' := [.ref 99, .int x1]) (st' := [.ref 99]) (E' := E) (I' := I) (J' := J) (S' := S) am_e276 rfl rfl rfl rfl ?_
  refine w_st (i' := 75) (ls' := [.ref 99, .int x1]) (st' := [.int ((I 99) 55)]) (E' := E) (I' := I) (J' := J) (S' := S) am_e276 rfl rfl rfl rfl ?_
  refine w_st (i' := 76) (ls' := [.ref 99, .int x1]) (st' := [.int (-1), .int ((I 99) 55)]) (E' := E) (I' := I) (J' := J) (S' := S) am_e276 rfl rfl rfl rfl ?_
  refine w_if2 am_e276 rfl rfl (fun c => ?_) (fun c => ?_)
  · replace h := h.2 (of_decide_eq_true c)
    refine w_st (i' := 101) (ls' := [.ref 99, .int (x1 + nI 1)]) (st' := []) (E' := E) (I' := I) (J' := J) (S' := S) am_e276 rfl rfl rfl rfl ?_
    refine w_st (i' := 35) (ls' := [.ref 99, .int (x1 + nI 1)]) (st' := []) (E' := E) (I' := I) (J' := J) (S' := S) am_e276 rfl rfl rfl rfl ?_
    exact h
  · replace h := h.1 (Decidable.not_not.mp (of_decide_eq_false c))
    refine w_st (i' := 78) (ls' := [.ref 99, .int x1]) (st' := [.int x1]) (E' := E) (I' := I) (J' := J) (S' := S) am_e276 rfl rfl rfl rfl ?_
    refine w_st (i' := 79) (ls' := [.ref 99, .int x1]) (st' := [.ref 99, .int x1]) (E' := E) (I' := I) (J' := J) (S' := S) am_e276 rfl rfl rfl rfl ?_
    refine w_st (i' := 80) (ls' := [.ref 99, .int x1]) (st' := [.ref 103, .int x1]) (E' := E) (I' := I) (J' := J) (S' := S) am_e276 rfl rfl rfl rfl ?_
    refine w_st (i' := 81) (ls' := [.ref 99, .int x1]) (st' := [.int (nI 2), .ref 103, .int x1]) (E' := E) (I' := I) (J' := J) (S' := S) am_e276 rfl rfl rfl rfl ?_
    refine w_ia (k := 103) (n := 10) (jn := 2) am_e276 rfl rfl (by decide) (vp_in_nI (by decide) (by decide)) rfl ?_
    show am_ww 276 82 [.ref 99, .int x1] [.int ((I 103) 2), .int x1] E I J S _
    refine w_rm h.1 am_e276 rfl ?_
    replace h := h.2
    refine w_if1 am_e276 rfl rfl (fun c => ?_) (fun c => ?_)
    · replace h := h.2 (of_decide_eq_true c)
      refine w_st (i' := 101) (ls' := [.ref 99, .int (x1 + nI 1)]) (st' := []) (E' := E) (I' := I) (J' := J) (S' := S) am_e276 rfl rfl rfl rfl ?_
      refine w_st (i' := 35) (ls' := [.ref 99, .int (x1 + nI 1)]) (st' := []) (E' := E) (I' := I) (J' := J) (S' := S) am_e276 rfl rfl rfl rfl ?_
      exact h
    · replace h := h.1 (Decidable.not_not.mp (of_decide_eq_false c))
      refine w_st (i' := 85) (ls' := [.ref 99, .int x1]) (st' := [.ref 99]) (E' := E) (I' := I) (J' := J) (S' := S) am_e276 rfl rfl rfl rfl ?_
      refine w_cI am_e276 rfl rfl (as := [.ref 99]) (rest := []) rfl rfl (am_ww.mono h ?_)
      rintro _ E1 I1 J1 S1 ⟨v1, rfl, h⟩
      refine q_mkI ?_
      refine w_st (i' := 87) (ls' := [.ref 99, .int x1]) (st' := [.ref 99, .int v1]) (E' := E1) (I' := I1) (J' := J1) (S' := S1) am_e276 rfl rfl rfl rfl ?_
      refine w_st (i' := 88) (ls' := [.ref 99, .int x1]) (st' := [.int x1, .ref 99, .int v1]) (E' := E1) (I' := I1) (J' := J1) (S' := S1) am_e276 rfl rfl rfl rfl ?_
      refine w_cI am_e276 rfl rfl (as := [.ref 99, .int x1]) (rest := [.int v1]) rfl rfl (am_ww.mono h ?_)
      rintro _ E2 I2 J2 S2 ⟨v2, rfl, h⟩
      refine q_mkI ?_
      refine w_if2 am_e276 rfl rfl (fun c => ?_) (fun c => ?_)
      · replace h := h.1 (of_decide_eq_true c)
        refine w_st (i' := 101) (ls' := [.ref 99, .int (x1 + nI 1)]) (st' := []) (E' := E2) (I' := I2) (J' := J2) (S' := S2) am_e276 rfl rfl rfl rfl ?_
        refine w_st (i' := 35) (ls' := [.ref 99, .int (x1 + nI 1)]) (st' := []) (E' := E2) (I' := I2) (J' := J2) (S' := S2) am_e276 rfl rfl rfl rfl ?_
        exact h
      · replace h := h.2 (of_decide_eq_false c)
        refine w_st (i' := 91) (ls' := [.ref 99, .int x1]) (st' := [.ref 99]) (E' := E2) (I' := I2) (J' := J2) (S' := S2) am_e276 rfl rfl rfl rfl ?_
        refine w_st (i' := 92) (ls' := [.ref 99, .int x1]) (st' := [.int x1, .ref 99]) (E' := E2) (I' := I2) (J' := J2) (S' := S2) am_e276 rfl rfl rfl rfl ?_
        refine w_st (i' := 93) (ls' := [.ref 99, .int x1]) (st' := [.ref 99, .int x1, .ref 99]) (E' := E2) (I' := I2) (J' := J2) (S' := S2) am_e276 rfl rfl rfl rfl ?_
        refine w_st (i' := 94) (ls' := [.ref 99, .int x1]) (st' := [.ref 103, .int x1, .ref 99]) (E' := E2) (I' := I2) (J' := J2) (S' := S2) am_e276 rfl rfl rfl rfl ?_
        refine w_st (i' := 95) (ls' := [.ref 99, .int x1]) (st' := [.int (nI 2), .ref 103, .int x1, .ref 99]) (E' := E2) (I' := I2) (J' := J2) (S' := S2) am_e276 rfl rfl rfl rfl ?_
        refine w_ia (k := 103) (n := 10) (jn := 2) am_e276 rfl rfl (by decide) (vp_in_nI (by decide) (by decide)) rfl ?_
        show am_ww 276 96 [.ref 99, .int x1] [.int ((I2 103) 2), .int x1, .ref 99] E2 I2 J2 S2 _
        refine w_dv h.1 am_e276 rfl ?_
        replace h := h.2
        refine w_st (i' := 98) (ls' := [.ref 99, .int x1]) (st' := [.int (nI 1), .int (x1 / ((I2 103) 2)), .ref 99]) (E' := E2) (I' := I2) (J' := J2) (S' := S2) am_e276 rfl rfl rfl rfl ?_
        refine w_st (i' := 99) (ls' := [.ref 99, .int x1]) (st' := [.int ((x1 / ((I2 103) 2)) - (nI 1)), .ref 99]) (E' := E2) (I' := I2) (J' := J2) (S' := S2) am_e276 rfl rfl rfl rfl ?_
        refine w_st (i' := 100) (ls' := [.ref 99, .int x1]) (st' := []) (E' := E2) (I' := (u_I I2 99 (upd (I2 99) 55 ((x1 / ((I2 103) 2)) - (nI 1))))) (J' := J2) (S' := S2) am_e276 rfl rfl rfl rfl ?_
        refine w_st (i' := 101) (ls' := [.ref 99, .int (x1 + nI 1)]) (st' := []) (E' := E2) (I' := (u_I I2 99 (upd (I2 99) 55 ((x1 / ((I2 103) 2)) - (nI 1))))) (J' := J2) (S' := S2) am_e276 rfl rfl rfl rfl ?_
        refine w_st (i' := 35) (ls' := [.ref 99, .int (x1 + nI 1)]) (st' := []) (E' := E2) (I' := (u_I I2 99 (upd (I2 99) 55 ((x1 / ((I2 103) 2)) - (nI 1))))) (J' := J2) (S' := S2) am_e276 rfl rfl rfl rfl ?_
        exact h
-- 275 canAlter
theorem g275_0 {p1 : Int32} {p2 : Int32} {p3 : Int32} {E : am_Ev} {I : Nat → Nat → Int32} {J : Nat → Nat → Int64} {S : Nat → Nat → Option Nat} {Q : am_Qt}  (h : ((nI 2) ≤ p1 → ((p1 = (nI 5) → ((p2 < (nI 0) → (Q (.inl (some (.int (nI 0)))) E I J S)) ∧ (¬ p2 < (nI 0) → (((nI 15) < p2 → (Q (.inl (some (.int (nI 0)))) E I J S)) ∧ (¬ (nI 15) < p2 → (Q (.inl (some (.int (nI 1)))) E I J S)))))) ∧ (¬ p1 = (nI 5) → (vp_in (((nI 51) * ((I 99) 12)) + (((nI 48) + p1) - (nI 2))) 20451 ∧ (∀ w2 : Int32, w2 = ((I 117) ((((nI 51) * ((I 99) 12)) + (((nI 48) + p1) - (nI 2))).toNatClampNeg)) → ((p2 < (nI 0) → (Q (.inl (some (.int (nI 0)))) E I J S)) ∧ (¬ p2 < (nI 0) → (((w2 - (nI 1)) < p2 → (Q (.inl (some (.int (nI 0)))) E I J S)) ∧ (¬ (w2 - (nI 1)) < p2 → (Q (.inl (some (.int (nI 1)))) E I J S)))))))))) ∧ (¬ (nI 2) ≤ p1 → (vp_in (((nI 51) * ((I 99) 12)) + (nI 47)) 20451 ∧ (∀ w4 : Int32, w4 = ((I 117) ((((nI 51) * ((I 99) 12)) + (nI 47)).toNatClampNeg)) → ((p2 < (nI 0) → (Q (.inl (some (.int (nI 0)))) E I J S)) ∧ (¬ p2 < (nI 0) → (((w4 - (nI 1)) < p2 → (Q (.inl (some (.int (nI 0)))) E I J S)) ∧ (¬ (w4 - (nI 1)) < p2 → ((p1 = (nI 1) → (Q (.inl (some (.int (nI 1)))) E I J S)) ∧ (¬ p1 = (nI 1) → ((p3 < (nI 0) → (Q (.inl (some (.int (nI 0)))) E I J S)) ∧ (¬ p3 < (nI 0) → (((((I 103) 4) - (nI 1)) < p3 → (Q (.inl (some (.int (nI 0)))) E I J S)) ∧ (¬ (((I 103) 4) - (nI 1)) < p3 → (Q (.inl (some (.int (nI 1)))) E I J S))))))))))))))) : am_ww 275 0 [.ref 99, .int p1, .int p2, .int p3] [] E I J S Q := by
  refine w_st (i' := 1) (ls' := [.ref 99, .int p1, .int p2, .int p3]) (st' := [.int p1]) (E' := E) (I' := I) (J' := J) (S' := S) am_e275 rfl rfl rfl rfl ?_
  refine w_st (i' := 2) (ls' := [.ref 99, .int p1, .int p2, .int p3]) (st' := [.int (nI 2), .int p1]) (E' := E) (I' := I) (J' := J) (S' := S) am_e275 rfl rfl rfl rfl ?_
  refine w_if2 am_e275 rfl rfl (fun c => ?_) (fun c => ?_)
  · replace h := h.1 (of_decide_eq_true c)
    refine w_st (i' := 32) (ls' := [.ref 99, .int p1, .int p2, .int p3]) (st' := [.int p1]) (E' := E) (I' := I) (J' := J) (S' := S) am_e275 rfl rfl rfl rfl ?_
    refine w_st (i' := 33) (ls' := [.ref 99, .int p1, .int p2, .int p3]) (st' := [.int (nI 5), .int p1]) (E' := E) (I' := I) (J' := J) (S' := S) am_e275 rfl rfl rfl rfl ?_
    refine w_if2 am_e275 rfl rfl (fun c => ?_) (fun c => ?_)
    · replace h := h.2 (of_decide_eq_true c)
      refine w_st (i' := 40) (ls' := [.ref 99, .int p1, .int p2, .int p3]) (st' := [.int p2]) (E' := E) (I' := I) (J' := J) (S' := S) am_e275 rfl rfl rfl rfl ?_
      refine w_st (i' := 41) (ls' := [.ref 99, .int p1, .int p2, .int p3]) (st' := [.int (nI 0), .int p2]) (E' := E) (I' := I) (J' := J) (S' := S) am_e275 rfl rfl rfl rfl ?_
      refine w_st (i' := 42) (ls' := [.ref 99, .int p1, .int p2, .int p3]) (st' := [.ref 99, .int (nI 0), .int p2]) (E' := E) (I' := I) (J' := J) (S' := S) am_e275 rfl rfl rfl rfl ?_
      refine w_st (i' := 43) (ls' := [.ref 99, .int p1, .int p2, .int p3]) (st' := [.ref 99, .ref 99, .int (nI 0), .int p2]) (E' := E) (I' := I) (J' := J) (S' := S) am_e275 rfl rfl rfl rfl ?_
      refine w_st (i' := 44) (ls' := [.ref 99, .int p1, .int p2, .int p3]) (st' := [.int ((I 99) 12), .ref 99, .int (nI 0), .int p2]) (E' := E) (I' := I) (J' := J) (S' := S) am_e275 rfl rfl rfl rfl ?_
      refine w_st (i' := 45) (ls' := [.ref 99, .int p1, .int p2, .int p3]) (st' := [.int (nI 48), .int ((I 99) 12), .ref 99, .int (nI 0), .int p2]) (E' := E) (I' := I) (J' := J) (S' := S) am_e275 rfl rfl rfl rfl ?_
      refine w_st (i' := 46) (ls' := [.ref 99, .int p1, .int p2, .int p3]) (st' := [.int p1, .int (nI 48), .int ((I 99) 12), .ref 99, .int (nI 0), .int p2]) (E' := E) (I' := I) (J' := J) (S' := S) am_e275 rfl rfl rfl rfl ?_
      refine w_st (i' := 47) (ls' := [.ref 99, .int p1, .int p2, .int p3]) (st' := [.int ((nI 48) + p1), .int ((I 99) 12), .ref 99, .int (nI 0), .int p2]) (E' := E) (I' := I) (J' := J) (S' := S) am_e275 rfl rfl rfl rfl ?_
      refine w_st (i' := 48) (ls' := [.ref 99, .int p1, .int p2, .int p3]) (st' := [.int (nI 2), .int ((nI 48) + p1), .int ((I 99) 12), .ref 99, .int (nI 0), .int p2]) (E' := E) (I' := I) (J' := J) (S' := S) am_e275 rfl rfl rfl rfl ?_
      refine w_st (i' := 49) (ls' := [.ref 99, .int p1, .int p2, .int p3]) (st' := [.int (((nI 48) + p1) - (nI 2)), .int ((I 99) 12), .ref 99, .int (nI 0), .int p2]) (E' := E) (I' := I) (J' := J) (S' := S) am_e275 rfl rfl rfl rfl ?_
      refine w_cI am_e275 rfl rfl (as := [.ref 99, .int ((I 99) 12), .int (((nI 48) + p1) - (nI 2))]) (rest := [.int (nI 0), .int p2]) rfl rfl ?_
      show am_ww 245 0 [.ref 99, .int ((I 99) 12), .int (((nI 48) + p1) - (nI 2))] [] E I J S _
      refine w_st (i' := 1) (ls' := [.ref 99, .int ((I 99) 12), .int (((nI 48) + p1) - (nI 2))]) (st' := [.ref 99]) (E' := E) (I' := I) (J' := J) (S' := S) am_e245 rfl rfl rfl rfl ?_
      refine w_st (i' := 2) (ls' := [.ref 99, .int ((I 99) 12), .int (((nI 48) + p1) - (nI 2))]) (st' := [.ref 117]) (E' := E) (I' := I) (J' := J) (S' := S) am_e245 rfl rfl rfl rfl ?_
      refine w_st (i' := 3) (ls' := [.ref 99, .int ((I 99) 12), .int (((nI 48) + p1) - (nI 2))]) (st' := [.int (nI 51), .ref 117]) (E' := E) (I' := I) (J' := J) (S' := S) am_e245 rfl rfl rfl rfl ?_
      refine w_st (i' := 4) (ls' := [.ref 99, .int ((I 99) 12), .int (((nI 48) + p1) - (nI 2))]) (st' := [.int ((I 99) 12), .int (nI 51), .ref 117]) (E' := E) (I' := I) (J' := J) (S' := S) am_e245 rfl rfl rfl rfl ?_
      refine w_st (i' := 5) (ls' := [.ref 99, .int ((I 99) 12), .int (((nI 48) + p1) - (nI 2))]) (st' := [.int ((nI 51) * ((I 99) 12)), .ref 117]) (E' := E) (I' := I) (J' := J) (S' := S) am_e245 rfl rfl rfl rfl ?_
      refine w_st (i' := 6) (ls' := [.ref 99, .int ((I 99) 12), .int (((nI 48) + p1) - (nI 2))]) (st' := [.int (((nI 48) + p1) - (nI 2)), .int ((nI 51) * ((I 99) 12)), .ref 117]) (E' := E) (I' := I) (J' := J) (S' := S) am_e245 rfl rfl rfl rfl ?_
      refine w_st (i' := 7) (ls' := [.ref 99, .int ((I 99) 12), .int (((nI 48) + p1) - (nI 2))]) (st' := [.int (((nI 51) * ((I 99) 12)) + (((nI 48) + p1) - (nI 2))), .ref 117]) (E' := E) (I' := I) (J' := J) (S' := S) am_e245 rfl rfl rfl rfl ?_
      have hf1 := h.1
      replace h := h.2
      refine w_ia (k := 117) (n := 20451) (jn := (((nI 51) * ((I 99) 12)) + (((nI 48) + p1) - (nI 2))).toNatClampNeg) am_e245 rfl rfl (by decide) hf1 rfl ?_
      refine w_ri am_e245 rfl rfl (q_mkI ?_)
      show am_ww 275 50 [.ref 99, .int p1, .int p2, .int p3] [.int ((I 117) ((((nI 51) * ((I 99) 12)) + (((nI 48) + p1) - (nI 2))).toNatClampNeg)), .int (nI 0), .int p2] E I J S _
      refine w_var (fun w2 => am_ww 275 50 [.ref 99, .int p1, .int p2, .int p3] [.int w2, .int (nI 0), .int p2] E I J S _) ((I 117) ((((nI 51) * ((I 99) 12)) + (((nI 48) + p1) - (nI 2))).toNatClampNeg)) (fun w2 hw2 => ?_)
      replace h := h w2 hw2
      refine w_st (i' := 51) (ls' := [.ref 99, .int p1, .int p2, .int p3]) (st' := [.int (nI 1), .int w2, .int (nI 0), .int p2]) (E' := E) (I' := I) (J' := J) (S' := S) am_e275 rfl rfl rfl rfl ?_
      refine w_st (i' := 52) (ls' := [.ref 99, .int p1, .int p2, .int p3]) (st' := [.int (w2 - (nI 1)), .int (nI 0), .int p2]) (E' := E) (I' := I) (J' := J) (S' := S) am_e275 rfl rfl rfl rfl ?_
      refine w_cI am_e275 rfl rfl (as := [.int p2, .int (nI 0), .int (w2 - (nI 1))]) (rest := []) rfl rfl ?_
      show am_ww 232 0 [.int p2, .int (nI 0), .int (w2 - (nI 1))] [] E I J S _
      refine w_st (i' := 1) (ls' := [.int p2, .int (nI 0), .int (w2 - (nI 1))]) (st' := [.int p2]) (E' := E) (I' := I) (J' := J) (S' := S) am_e232 rfl rfl rfl rfl ?_
      refine w_st (i' := 2) (ls' := [.int p2, .int (nI 0), .int (w2 - (nI 1))]) (st' := [.int (nI 0), .int p2]) (E' := E) (I' := I) (J' := J) (S' := S) am_e232 rfl rfl rfl rfl ?_
      refine w_if2 am_e232 rfl rfl (fun c => ?_) (fun c => ?_)
      · replace h := h.1 (of_decide_eq_true c)
        refine w_st (i' := 9) (ls' := [.int p2, .int (nI 0), .int (w2 - (nI 1))]) (st' := [.int (nI 0)]) (E' := E) (I' := I) (J' := J) (S' := S) am_e232 rfl rfl rfl rfl ?_
        refine w_end (E' := E) (I' := I) (J' := J) (S' := S) am_e232 rfl rfl rfl (q_mkI ?_)
        show am_ww 275 53 [.ref 99, .int p1, .int p2, .int p3] [.int (nI 0)] E I J S _
        exact w_end am_e275 rfl rfl rfl h
      · replace h := h.2 (of_decide_eq_false c)
        refine w_st (i' := 4) (ls' := [.int p2, .int (nI 0), .int (w2 - (nI 1))]) (st' := [.int p2]) (E' := E) (I' := I) (J' := J) (S' := S) am_e232 rfl rfl rfl rfl ?_
        refine w_st (i' := 5) (ls' := [.int p2, .int (nI 0), .int (w2 - (nI 1))]) (st' := [.int (w2 - (nI 1)), .int p2]) (E' := E) (I' := I) (J' := J) (S' := S) am_e232 rfl rfl rfl rfl ?_
        refine w_if2 am_e232 rfl rfl (fun c => ?_) (fun c => ?_)
        · replace h := h.1 (of_decide_eq_true c)
          refine w_st (i' := 9) (ls' := [.int p2, .int (nI 0), .int (w2 - (nI 1))]) (st' := [.int (nI 0)]) (E' := E) (I' := I) (J' := J) (S' := S) am_e232 rfl rfl rfl rfl ?_
          refine w_end (E' := E) (I' := I) (J' := J) (S' := S) am_e232 rfl rfl rfl (q_mkI ?_)
          show am_ww 275 53 [.ref 99, .int p1, .int p2, .int p3] [.int (nI 0)] E I J S _
          exact w_end am_e275 rfl rfl rfl h
        · replace h := h.2 (of_decide_eq_false c)
          refine w_st (i' := 7) (ls' := [.int p2, .int (nI 0), .int (w2 - (nI 1))]) (st' := [.int (nI 1)]) (E' := E) (I' := I) (J' := J) (S' := S) am_e232 rfl rfl rfl rfl ?_
          refine w_st (i' := 9) (ls' := [.int p2, .int (nI 0), .int (w2 - (nI 1))]) (st' := [.int (nI 1)]) (E' := E) (I' := I) (J' := J) (S' := S) am_e232 rfl rfl rfl rfl ?_
          refine w_end (E' := E) (I' := I) (J' := J) (S' := S) am_e232 rfl rfl rfl (q_mkI ?_)
          show am_ww 275 53 [.ref 99, .int p1, .int p2, .int p3] [.int (nI 1)] E I J S _
          exact w_end am_e275 rfl rfl rfl h
    · replace h := h.1 (Decidable.not_not.mp (of_decide_eq_false c))
      refine w_st (i' := 35) (ls' := [.ref 99, .int p1, .int p2, .int p3]) (st' := [.int p2]) (E' := E) (I' := I) (J' := J) (S' := S) am_e275 rfl rfl rfl rfl ?_
      refine w_st (i' := 36) (ls' := [.ref 99, .int p1, .int p2, .int p3]) (st' := [.int (nI 0), .int p2]) (E' := E) (I' := I) (J' := J) (S' := S) am_e275 rfl rfl rfl rfl ?_
      refine w_st (i' := 37) (ls' := [.ref 99, .int p1, .int p2, .int p3]) (st' := [.int (nI 15), .int (nI 0), .int p2]) (E' := E) (I' := I) (J' := J) (S' := S) am_e275 rfl rfl rfl rfl ?_
      refine w_cI am_e275 rfl rfl (as := [.int p2, .int (nI 0), .int (nI 15)]) (rest := []) rfl rfl ?_
      show am_ww 232 0 [.int p2, .int (nI 0), .int (nI 15)] [] E I J S _
      refine w_st (i' := 1) (ls' := [.int p2, .int (nI 0), .int (nI 15)]) (st' := [.int p2]) (E' := E) (I' := I) (J' := J) (S' := S) am_e232 rfl rfl rfl rfl ?_
      refine w_st (i' := 2) (ls' := [.int p2, .int (nI 0), .int (nI 15)]) (st' := [.int (nI 0), .int p2]) (E' := E) (I' := I) (J' := J) (S' := S) am_e232 rfl rfl rfl rfl ?_
      refine w_if2 am_e232 rfl rfl (fun c => ?_) (fun c => ?_)
      · replace h := h.1 (of_decide_eq_true c)
        refine w_st (i' := 9) (ls' := [.int p2, .int (nI 0), .int (nI 15)]) (st' := [.int (nI 0)]) (E' := E) (I' := I) (J' := J) (S' := S) am_e232 rfl rfl rfl rfl ?_
        refine w_end (E' := E) (I' := I) (J' := J) (S' := S) am_e232 rfl rfl rfl (q_mkI ?_)
        show am_ww 275 38 [.ref 99, .int p1, .int p2, .int p3] [.int (nI 0)] E I J S _
        refine w_st (i' := 53) (ls' := [.ref 99, .int p1, .int p2, .int p3]) (st' := [.int (nI 0)]) (E' := E) (I' := I) (J' := J) (S' := S) am_e275 rfl rfl rfl rfl ?_
        exact w_end am_e275 rfl rfl rfl h
      · replace h := h.2 (of_decide_eq_false c)
        refine w_st (i' := 4) (ls' := [.int p2, .int (nI 0), .int (nI 15)]) (st' := [.int p2]) (E' := E) (I' := I) (J' := J) (S' := S) am_e232 rfl rfl rfl rfl ?_
        refine w_st (i' := 5) (ls' := [.int p2, .int (nI 0), .int (nI 15)]) (st' := [.int (nI 15), .int p2]) (E' := E) (I' := I) (J' := J) (S' := S) am_e232 rfl rfl rfl rfl ?_
        refine w_if2 am_e232 rfl rfl (fun c => ?_) (fun c => ?_)
        · replace h := h.1 (of_decide_eq_true c)
          refine w_st (i' := 9) (ls' := [.int p2, .int (nI 0), .int (nI 15)]) (st' := [.int (nI 0)]) (E' := E) (I' := I) (J' := J) (S' := S) am_e232 rfl rfl rfl rfl ?_
          refine w_end (E' := E) (I' := I) (J' := J) (S' := S) am_e232 rfl rfl rfl (q_mkI ?_)
          show am_ww 275 38 [.ref 99, .int p1, .int p2, .int p3] [.int (nI 0)] E I J S _
          refine w_st (i' := 53) (ls' := [.ref 99, .int p1, .int p2, .int p3]) (st' := [.int (nI 0)]) (E' := E) (I' := I) (J' := J) (S' := S) am_e275 rfl rfl rfl rfl ?_
          exact w_end am_e275 rfl rfl rfl h
        · replace h := h.2 (of_decide_eq_false c)
          refine w_st (i' := 7) (ls' := [.int p2, .int (nI 0), .int (nI 15)]) (st' := [.int (nI 1)]) (E' := E) (I' := I) (J' := J) (S' := S) am_e232 rfl rfl rfl rfl ?_
          refine w_st (i' := 9) (ls' := [.int p2, .int (nI 0), .int (nI 15)]) (st' := [.int (nI 1)]) (E' := E) (I' := I) (J' := J) (S' := S) am_e232 rfl rfl rfl rfl ?_
          refine w_end (E' := E) (I' := I) (J' := J) (S' := S) am_e232 rfl rfl rfl (q_mkI ?_)
          show am_ww 275 38 [.ref 99, .int p1, .int p2, .int p3] [.int (nI 1)] E I J S _
          refine w_st (i' := 53) (ls' := [.ref 99, .int p1, .int p2, .int p3]) (st' := [.int (nI 1)]) (E' := E) (I' := I) (J' := J) (S' := S) am_e275 rfl rfl rfl rfl ?_
          exact w_end am_e275 rfl rfl rfl h
  · replace h := h.2 (of_decide_eq_false c)
    refine w_st (i' := 4) (ls' := [.ref 99, .int p1, .int p2, .int p3]) (st' := [.int p2]) (E' := E) (I' := I) (J' := J) (S' := S) am_e275 rfl rfl rfl rfl ?_
    refine w_st (i' := 5) (ls' := [.ref 99, .int p1, .int p2, .int p3]) (st' := [.int (nI 0), .int p2]) (E' := E) (I' := I) (J' := J) (S' := S) am_e275 rfl rfl rfl rfl ?_
    refine w_st (i' := 6) (ls' := [.ref 99, .int p1, .int p2, .int p3]) (st' := [.ref 99, .int (nI 0), .int p2]) (E' := E) (I' := I) (J' := J) (S' := S) am_e275 rfl rfl rfl rfl ?_
    refine w_st (i' := 7) (ls' := [.ref 99, .int p1, .int p2, .int p3]) (st' := [.ref 99, .ref 99, .int (nI 0), .int p2]) (E' := E) (I' := I) (J' := J) (S' := S) am_e275 rfl rfl rfl rfl ?_
    refine w_st (i' := 8) (ls' := [.ref 99, .int p1, .int p2, .int p3]) (st' := [.int ((I 99) 12), .ref 99, .int (nI 0), .int p2]) (E' := E) (I' := I) (J' := J) (S' := S) am_e275 rfl rfl rfl rfl ?_
    refine w_st (i' := 9) (ls' := [.ref 99, .int p1, .int p2, .int p3]) (st' := [.int (nI 47), .int ((I 99) 12), .ref 99, .int (nI 0), .int p2]) (E' := E) (I' := I) (J' := J) (S' := S) am_e275 rfl rfl rfl rfl ?_
    refine w_cI am_e275 rfl rfl (as := [.ref 99, .int ((I 99) 12), .int (nI 47)]) (rest := [.int (nI 0), .int p2]) rfl rfl ?_
    show am_ww 245 0 [.ref 99, .int ((I 99) 12), .int (nI 47)] [] E I J S _
    refine w_st (i' := 1) (ls' := [.ref 99, .int ((I 99) 12), .int (nI 47)]) (st' := [.ref 99]) (E' := E) (I' := I) (J' := J) (S' := S) am_e245 rfl rfl rfl rfl ?_
    refine w_st (i' := 2) (ls' := [.ref 99, .int ((I 99) 12), .int (nI 47)]) (st' := [.ref 117]) (E' := E) (I' := I) (J' := J) (S' := S) am_e245 rfl rfl rfl rfl ?_
    refine w_st (i' := 3) (ls' := [.ref 99, .int ((I 99) 12), .int (nI 47)]) (st' := [.int (nI 51), .ref 117]) (E' := E) (I' := I) (J' := J) (S' := S) am_e245 rfl rfl rfl rfl ?_
    refine w_st (i' := 4) (ls' := [.ref 99, .int ((I 99) 12), .int (nI 47)]) (st' := [.int ((I 99) 12), .int (nI 51), .ref 117]) (E' := E) (I' := I) (J' := J) (S' := S) am_e245 rfl rfl rfl rfl ?_
    refine w_st (i' := 5) (ls' := [.ref 99, .int ((I 99) 12), .int (nI 47)]) (st' := [.int ((nI 51) * ((I 99) 12)), .ref 117]) (E' := E) (I' := I) (J' := J) (S' := S) am_e245 rfl rfl rfl rfl ?_
    refine w_st (i' := 6) (ls' := [.ref 99, .int ((I 99) 12), .int (nI 47)]) (st' := [.int (nI 47), .int ((nI 51) * ((I 99) 12)), .ref 117]) (E' := E) (I' := I) (J' := J) (S' := S) am_e245 rfl rfl rfl rfl ?_
    refine w_st (i' := 7) (ls' := [.ref 99, .int ((I 99) 12), .int (nI 47)]) (st' := [.int (((nI 51) * ((I 99) 12)) + (nI 47)), .ref 117]) (E' := E) (I' := I) (J' := J) (S' := S) am_e245 rfl rfl rfl rfl ?_
    have hf3 := h.1
    replace h := h.2
    refine w_ia (k := 117) (n := 20451) (jn := (((nI 51) * ((I 99) 12)) + (nI 47)).toNatClampNeg) am_e245 rfl rfl (by decide) hf3 rfl ?_
    refine w_ri am_e245 rfl rfl (q_mkI ?_)
    show am_ww 275 10 [.ref 99, .int p1, .int p2, .int p3] [.int ((I 117) ((((nI 51) * ((I 99) 12)) + (nI 47)).toNatClampNeg)), .int (nI 0), .int p2] E I J S _
    refine w_var (fun w4 => am_ww 275 10 [.ref 99, .int p1, .int p2, .int p3] [.int w4, .int (nI 0), .int p2] E I J S _) ((I 117) ((((nI 51) * ((I 99) 12)) + (nI 47)).toNatClampNeg)) (fun w4 hw4 => ?_)
    replace h := h w4 hw4
    refine w_st (i' := 11) (ls' := [.ref 99, .int p1, .int p2, .int p3]) (st' := [.int (nI 1), .int w4, .int (nI 0), .int p2]) (E' := E) (I' := I) (J' := J) (S' := S) am_e275 rfl rfl rfl rfl ?_
    refine w_st (i' := 12) (ls' := [.ref 99, .int p1, .int p2, .int p3]) (st' := [.int (w4 - (nI 1)), .int (nI 0), .int p2]) (E' := E) (I' := I) (J' := J) (S' := S) am_e275 rfl rfl rfl rfl ?_
    refine w_cI am_e275 rfl rfl (as := [.int p2, .int (nI 0), .int (w4 - (nI 1))]) (rest := []) rfl rfl ?_
    show am_ww 232 0 [.int p2, .int (nI 0), .int (w4 - (nI 1))] [] E I J S _
    refine w_st (i' := 1) (ls' := [.int p2, .int (nI 0), .int (w4 - (nI 1))]) (st' := [.int p2]) (E' := E) (I' := I) (J' := J) (S' := S) am_e232 rfl rfl rfl rfl ?_
    refine w_st (i' := 2) (ls' := [.int p2, .int (nI 0), .int (w4 - (nI 1))]) (st' := [.int (nI 0), .int p2]) (E' := E) (I' := I) (J' := J) (S' := S) am_e232 rfl rfl rfl rfl ?_
    refine w_if2 am_e232 rfl rfl (fun c => ?_) (fun c => ?_)
    · replace h := h.1 (of_decide_eq_true c)
      refine w_st (i' := 9) (ls' := [.int p2, .int (nI 0), .int (w4 - (nI 1))]) (st' := [.int (nI 0)]) (E' := E) (I' := I) (J' := J) (S' := S) am_e232 rfl rfl rfl rfl ?_
      refine w_end (E' := E) (I' := I) (J' := J) (S' := S) am_e232 rfl rfl rfl (q_mkI ?_)
      show am_ww 275 13 [.ref 99, .int p1, .int p2, .int p3] [.int (nI 0)] E I J S _
      refine w_st (i' := 29) (ls' := [.ref 99, .int p1, .int p2, .int p3]) (st' := []) (E' := E) (I' := I) (J' := J) (S' := S) am_e275 rfl rfl rfl rfl ?_
      refine w_st (i' := 30) (ls' := [.ref 99, .int p1, .int p2, .int p3]) (st' := [.int (nI 0)]) (E' := E) (I' := I) (J' := J) (S' := S) am_e275 rfl rfl rfl rfl ?_
      exact w_end am_e275 rfl rfl rfl h
    · replace h := h.2 (of_decide_eq_false c)
      refine w_st (i' := 4) (ls' := [.int p2, .int (nI 0), .int (w4 - (nI 1))]) (st' := [.int p2]) (E' := E) (I' := I) (J' := J) (S' := S) am_e232 rfl rfl rfl rfl ?_
      refine w_st (i' := 5) (ls' := [.int p2, .int (nI 0), .int (w4 - (nI 1))]) (st' := [.int (w4 - (nI 1)), .int p2]) (E' := E) (I' := I) (J' := J) (S' := S) am_e232 rfl rfl rfl rfl ?_
      refine w_if2 am_e232 rfl rfl (fun c => ?_) (fun c => ?_)
      · replace h := h.1 (of_decide_eq_true c)
        refine w_st (i' := 9) (ls' := [.int p2, .int (nI 0), .int (w4 - (nI 1))]) (st' := [.int (nI 0)]) (E' := E) (I' := I) (J' := J) (S' := S) am_e232 rfl rfl rfl rfl ?_
        refine w_end (E' := E) (I' := I) (J' := J) (S' := S) am_e232 rfl rfl rfl (q_mkI ?_)
        show am_ww 275 13 [.ref 99, .int p1, .int p2, .int p3] [.int (nI 0)] E I J S _
        refine w_st (i' := 29) (ls' := [.ref 99, .int p1, .int p2, .int p3]) (st' := []) (E' := E) (I' := I) (J' := J) (S' := S) am_e275 rfl rfl rfl rfl ?_
        refine w_st (i' := 30) (ls' := [.ref 99, .int p1, .int p2, .int p3]) (st' := [.int (nI 0)]) (E' := E) (I' := I) (J' := J) (S' := S) am_e275 rfl rfl rfl rfl ?_
        exact w_end am_e275 rfl rfl rfl h
      · replace h := h.2 (of_decide_eq_false c)
        refine w_st (i' := 7) (ls' := [.int p2, .int (nI 0), .int (w4 - (nI 1))]) (st' := [.int (nI 1)]) (E' := E) (I' := I) (J' := J) (S' := S) am_e232 rfl rfl rfl rfl ?_
        refine w_st (i' := 9) (ls' := [.int p2, .int (nI 0), .int (w4 - (nI 1))]) (st' := [.int (nI 1)]) (E' := E) (I' := I) (J' := J) (S' := S) am_e232 rfl rfl rfl rfl ?_
        refine w_end (E' := E) (I' := I) (J' := J) (S' := S) am_e232 rfl rfl rfl (q_mkI ?_)
        show am_ww 275 13 [.ref 99, .int p1, .int p2, .int p3] [.int (nI 1)] E I J S _
        refine w_st (i' := 14) (ls' := [.ref 99, .int p1, .int p2, .int p3]) (st' := []) (E' := E) (I' := I) (J' := J) (S' := S) am_e275 rfl rfl rfl rfl ?_
        refine w_st (i' := 15) (ls' := [.ref 99, .int p1, .int p2, .int p3]) (st' := [.int p1]) (E' := E) (I' := I) (J' := J) (S' := S) am_e275 rfl rfl rfl rfl ?_
        refine w_st (i' := 16) (ls' := [.ref 99, .int p1, .int p2, .int p3]) (st' := [.int (nI 1), .int p1]) (E' := E) (I' := I) (J' := J) (S' := S) am_e275 rfl rfl rfl rfl ?_
        refine w_if2 am_e275 rfl rfl (fun c => ?_) (fun c => ?_)
        · replace h := h.1 (of_decide_eq_true c)
          refine w_st (i' := 28) (ls' := [.ref 99, .int p1, .int p2, .int p3]) (st' := [.int (nI 1)]) (E' := E) (I' := I) (J' := J) (S' := S) am_e275 rfl rfl rfl rfl ?_
          refine w_st (i' := 30) (ls' := [.ref 99, .int p1, .int p2, .int p3]) (st' := [.int (nI 1)]) (E' := E) (I' := I) (J' := J) (S' := S) am_e275 rfl rfl rfl rfl ?_
          exact w_end am_e275 rfl rfl rfl h
        · replace h := h.2 (of_decide_eq_false c)
          refine w_st (i' := 18) (ls' := [.ref 99, .int p1, .int p2, .int p3]) (st' := [.int p3]) (E' := E) (I' := I) (J' := J) (S' := S) am_e275 rfl rfl rfl rfl ?_
          refine w_st (i' := 19) (ls' := [.ref 99, .int p1, .int p2, .int p3]) (st' := [.int (nI 0), .int p3]) (E' := E) (I' := I) (J' := J) (S' := S) am_e275 rfl rfl rfl rfl ?_
          refine w_st (i' := 20) (ls' := [.ref 99, .int p1, .int p2, .int p3]) (st' := [.ref 99, .int (nI 0), .int p3]) (E' := E) (I' := I) (J' := J) (S' := S) am_e275 rfl rfl rfl rfl ?_
          refine w_st (i' := 21) (ls' := [.ref 99, .int p1, .int p2, .int p3]) (st' := [.ref 103, .int (nI 0), .int p3]) (E' := E) (I' := I) (J' := J) (S' := S) am_e275 rfl rfl rfl rfl ?_
          refine w_st (i' := 22) (ls' := [.ref 99, .int p1, .int p2, .int p3]) (st' := [.int (nI 4), .ref 103, .int (nI 0), .int p3]) (E' := E) (I' := I) (J' := J) (S' := S) am_e275 rfl rfl rfl rfl ?_
          refine w_ia (k := 103) (n := 10) (jn := 4) am_e275 rfl rfl (by decide) (vp_in_nI (by decide) (by decide)) rfl ?_
          show am_ww 275 23 [.ref 99, .int p1, .int p2, .int p3] [.int ((I 103) 4), .int (nI 0), .int p3] E I J S _
          refine w_st (i' := 24) (ls' := [.ref 99, .int p1, .int p2, .int p3]) (st' := [.int (nI 1), .int ((I 103) 4), .int (nI 0), .int p3]) (E' := E) (I' := I) (J' := J) (S' := S) am_e275 rfl rfl rfl rfl ?_
          refine w_st (i' := 25) (ls' := [.ref 99, .int p1, .int p2, .int p3]) (st' := [.int (((I 103) 4) - (nI 1)), .int (nI 0), .int p3]) (E' := E) (I' := I) (J' := J) (S' := S) am_e275 rfl rfl rfl rfl ?_
          refine w_cI am_e275 rfl rfl (as := [.int p3, .int (nI 0), .int (((I 103) 4) - (nI 1))]) (rest := []) rfl rfl ?_
          show am_ww 232 0 [.int p3, .int (nI 0), .int (((I 103) 4) - (nI 1))] [] E I J S _
          refine w_st (i' := 1) (ls' := [.int p3, .int (nI 0), .int (((I 103) 4) - (nI 1))]) (st' := [.int p3]) (E' := E) (I' := I) (J' := J) (S' := S) am_e232 rfl rfl rfl rfl ?_
          refine w_st (i' := 2) (ls' := [.int p3, .int (nI 0), .int (((I 103) 4) - (nI 1))]) (st' := [.int (nI 0), .int p3]) (E' := E) (I' := I) (J' := J) (S' := S) am_e232 rfl rfl rfl rfl ?_
          refine w_if2 am_e232 rfl rfl (fun c => ?_) (fun c => ?_)
          · replace h := h.1 (of_decide_eq_true c)
            refine w_st (i' := 9) (ls' := [.int p3, .int (nI 0), .int (((I 103) 4) - (nI 1))]) (st' := [.int (nI 0)]) (E' := E) (I' := I) (J' := J) (S' := S) am_e232 rfl rfl rfl rfl ?_
            refine w_end (E' := E) (I' := I) (J' := J) (S' := S) am_e232 rfl rfl rfl (q_mkI ?_)
            show am_ww 275 26 [.ref 99, .int p1, .int p2, .int p3] [.int (nI 0)] E I J S _
            refine w_st (i' := 29) (ls' := [.ref 99, .int p1, .int p2, .int p3]) (st' := []) (E' := E) (I' := I) (J' := J) (S' := S) am_e275 rfl rfl rfl rfl ?_
            refine w_st (i' := 30) (ls' := [.ref 99, .int p1, .int p2, .int p3]) (st' := [.int (nI 0)]) (E' := E) (I' := I) (J' := J) (S' := S) am_e275 rfl rfl rfl rfl ?_
            exact w_end am_e275 rfl rfl rfl h
          · replace h := h.2 (of_decide_eq_false c)
            refine w_st (i' := 4) (ls' := [.int p3, .int (nI 0), .int (((I 103) 4) - (nI 1))]) (st' := [.int p3]) (E' := E) (I' := I) (J' := J) (S' := S) am_e232 rfl rfl rfl rfl ?_
            refine w_st (i' := 5) (ls' := [.int p3, .int (nI 0), .int (((I 103) 4) - (nI 1))]) (st' := [.int (((I 103) 4) - (nI 1)), .int p3]) (E' := E) (I' := I) (J' := J) (S' := S) am_e232 rfl rfl rfl rfl ?_
            refine w_if2 am_e232 rfl rfl (fun c => ?_) (fun c => ?_)
            · replace h := h.1 (of_decide_eq_true c)
              refine w_st (i' := 9) (ls' := [.int p3, .int (nI 0), .int (((I 103) 4) - (nI 1))]) (st' := [.int (nI 0)]) (E' := E) (I' := I) (J' := J) (S' := S) am_e232 rfl rfl rfl rfl ?_
              refine w_end (E' := E) (I' := I) (J' := J) (S' := S) am_e232 rfl rfl rfl (q_mkI ?_)
              show am_ww 275 26 [.ref 99, .int p1, .int p2, .int p3] [.int (nI 0)] E I J S _
              refine w_st (i' := 29) (ls' := [.ref 99, .int p1, .int p2, .int p3]) (st' := []) (E' := E) (I' := I) (J' := J) (S' := S) am_e275 rfl rfl rfl rfl ?_
              refine w_st (i' := 30) (ls' := [.ref 99, .int p1, .int p2, .int p3]) (st' := [.int (nI 0)]) (E' := E) (I' := I) (J' := J) (S' := S) am_e275 rfl rfl rfl rfl ?_
              exact w_end am_e275 rfl rfl rfl h
            · replace h := h.2 (of_decide_eq_false c)
              refine w_st (i' := 7) (ls' := [.int p3, .int (nI 0), .int (((I 103) 4) - (nI 1))]) (st' := [.int (nI 1)]) (E' := E) (I' := I) (J' := J) (S' := S) am_e232 rfl rfl rfl rfl ?_
              refine w_st (i' := 9) (ls' := [.int p3, .int (nI 0), .int (((I 103) 4) - (nI 1))]) (st' := [.int (nI 1)]) (E' := E) (I' := I) (J' := J) (S' := S) am_e232 rfl rfl rfl rfl ?_
              refine w_end (E' := E) (I' := I) (J' := J) (S' := S) am_e232 rfl rfl rfl (q_mkI ?_)
              show am_ww 275 26 [.ref 99, .int p1, .int p2, .int p3] [.int (nI 1)] E I J S _
              refine w_st (i' := 27) (ls' := [.ref 99, .int p1, .int p2, .int p3]) (st' := []) (E' := E) (I' := I) (J' := J) (S' := S) am_e275 rfl rfl rfl rfl ?_
              refine w_st (i' := 28) (ls' := [.ref 99, .int p1, .int p2, .int p3]) (st' := [.int (nI 1)]) (E' := E) (I' := I) (J' := J) (S' := S) am_e275 rfl rfl rfl rfl ?_
              refine w_st (i' := 30) (ls' := [.ref 99, .int p1, .int p2, .int p3]) (st' := [.int (nI 1)]) (E' := E) (I' := I) (J' := J) (S' := S) am_e275 rfl rfl rfl rfl ?_
              exact w_end am_e275 rfl rfl rfl h
-- 274 diverged
theorem g274_0 {p1 : Int32} {p2 : Int32} {p3 : Int32} {p4 : Int32} {E : am_Ev} {I : Nat → Nat → Int32} {J : Nat → Nat → Int64} {S : Nat → Nat → Option Nat} {Q : am_Qt}  (h : (p4 < (nI 0) → (Q (.inl (some (.int (nI 0)))) E (u_I I 99 (upd (upd (I 99) 3 (nI 0)) 3 (nI 1))) J S)) ∧ (¬ p4 < (nI 0) → (((nI 2) < p4 → (Q (.inl (some (.int (nI 0)))) E (u_I I 99 (upd (upd (I 99) 3 (nI 0)) 3 (nI 1))) J S)) ∧ (¬ (nI 2) < p4 → ((p1 < (nI 0) → (Q (.inl (some (.int (nI 0)))) E (u_I I 99 (upd (upd (I 99) 3 (nI 0)) 3 (nI 1))) J S)) ∧ (¬ p1 < (nI 0) → (((nI 5) < p1 → (Q (.inl (some (.int (nI 0)))) E (u_I I 99 (upd (upd (I 99) 3 (nI 0)) 3 (nI 1))) J S)) ∧ (¬ (nI 5) < p1 → (((nI 2) ≤ p1 → ((p1 = (nI 5) → ((p2 < (nI 0) → (Q (.inl (some (.int (nI 0)))) E (u_I I 99 (upd (upd (I 99) 3 (nI 0)) 3 (nI 1))) J S)) ∧ (¬ p2 < (nI 0) → (((nI 15) < p2 → (Q (.inl (some (.int (nI 0)))) E (u_I I 99 (upd (upd (I 99) 3 (nI 0)) 3 (nI 1))) J S)) ∧ (¬ (nI 15) < p2 → (am_cl 276 [.ref 99] E (u_I I 99 (upd (upd (upd (upd (I 99) 3 (nI 0)) 51 p1) 52 p2) 53 p3)) J S (q_V fun E7 I7 J7 S7 => ∀ w10 : Int32, w10 = (if p4 = 0 then ((I7 99) 54) else (if p4 = (nI 1) then ((I7 99) 55) else ((I7 99) 56))) → (Q (.inl (some (.int w10))) E7 I7 J7 S7)))))))) ∧ (¬ p1 = (nI 5) → (vp_in (((nI 51) * ((I 99) 12)) + (((nI 48) + p1) - (nI 2))) 20451 ∧ (∀ w2 : Int32, w2 = ((I 117) ((((nI 51) * ((I 99) 12)) + (((nI 48) + p1) - (nI 2))).toNatClampNeg)) → ((p2 < (nI 0) → (Q (.inl (some (.int (nI 0)))) E (u_I I 99 (upd (upd (I 99) 3 (nI 0)) 3 (nI 1))) J S)) ∧ (¬ p2 < (nI 0) → (((w2 - (nI 1)) < p2 → (Q (.inl (some (.int (nI 0)))) E (u_I I 99 (upd (upd (I 99) 3 (nI 0)) 3 (nI 1))) J S)) ∧ (¬ (w2 - (nI 1)) < p2 → (am_cl 276 [.ref 99] E (u_I I 99 (upd (upd (upd (upd (I 99) 3 (nI 0)) 51 p1) 52 p2) 53 p3)) J S (q_V fun E3 I3 J3 S3 => ∀ w6 : Int32, w6 = (if p4 = 0 then ((I3 99) 54) else (if p4 = (nI 1) then ((I3 99) 55) else ((I3 99) 56))) → (Q (.inl (some (.int w6))) E3 I3 J3 S3)))))))))))) ∧ (¬ (nI 2) ≤ p1 → (vp_in (((nI 51) * ((I 99) 12)) + (nI 47)) 20451 ∧ (∀ w12 : Int32, w12 = ((I 117) ((((nI 51) * ((I 99) 12)) + (nI 47)).toNatClampNeg)) → ((p2 < (nI 0) → (Q (.inl (some (.int (nI 0)))) E (u_I I 99 (upd (upd (I 99) 3 (nI 0)) 3 (nI 1))) J S)) ∧ (¬ p2 < (nI 0) → (((w12 - (nI 1)) < p2 → (Q (.inl (some (.int (nI 0)))) E (u_I I 99 (upd (upd (I 99) 3 (nI 0)) 3 (nI 1))) J S)) ∧ (¬ (w12 - (nI 1)) < p2 → ((p1 = (nI 1) → (am_cl 276 [.ref 99] E (u_I I 99 (upd (upd (upd (upd (I 99) 3 (nI 0)) 51 p1) 52 p2) 53 p3)) J S (q_V fun E13 I13 J13 S13 => ∀ w16 : Int32, w16 = (if p4 = 0 then ((I13 99) 54) else (if p4 = (nI 1) then ((I13 99) 55) else ((I13 99) 56))) → (Q (.inl (some (.int w16))) E13 I13 J13 S13)))) ∧ (¬ p1 = (nI 1) → ((p3 < (nI 0) → (Q (.inl (some (.int (nI 0)))) E (u_I I 99 (upd (upd (I 99) 3 (nI 0)) 3 (nI 1))) J S)) ∧ (¬ p3 < (nI 0) → (((((I 103) 4) - (nI 1)) < p3 → (Q (.inl (some (.int (nI 0)))) E (u_I I 99 (upd (upd (I 99) 3 (nI 0)) 3 (nI 1))) J S)) ∧ (¬ (((I 103) 4) - (nI 1)) < p3 → (am_cl 276 [.ref 99] E (u_I I 99 (upd (upd (upd (upd (I 99) 3 (nI 0)) 51 p1) 52 p2) 53 p3)) J S (q_V fun E17 I17 J17 S17 => ∀ w20 : Int32, w20 = (if p4 = 0 then ((I17 99) 54) else (if p4 = (nI 1) then ((I17 99) 55) else ((I17 99) 56))) → (Q (.inl (some (.int w20))) E17 I17 J17 S17))))))))))))))))))))))))) : am_ww 274 0 [.ref 99, .int p1, .int p2, .int p3, .int p4] [] E I J S Q := by
  refine w_st (i' := 1) (ls' := [.ref 99, .int p1, .int p2, .int p3, .int p4]) (st' := [.ref 99]) (E' := E) (I' := I) (J' := J) (S' := S) am_e274 rfl rfl rfl rfl ?_
  refine w_st (i' := 2) (ls' := [.ref 99, .int p1, .int p2, .int p3, .int p4]) (st' := [.int (nI 0), .ref 99]) (E' := E) (I' := I) (J' := J) (S' := S) am_e274 rfl rfl rfl rfl ?_
  refine w_st (i' := 3) (ls' := [.ref 99, .int p1, .int p2, .int p3, .int p4]) (st' := []) (E' := E) (I' := (u_I I 99 (upd (I 99) 3 (nI 0)))) (J' := J) (S' := S) am_e274 rfl rfl rfl rfl ?_
  refine w_st (i' := 4) (ls' := [.ref 99, .int p1, .int p2, .int p3, .int p4]) (st' := [.int p4]) (E' := E) (I' := (u_I I 99 (upd (I 99) 3 (nI 0)))) (J' := J) (S' := S) am_e274 rfl rfl rfl rfl ?_
  refine w_st (i' := 5) (ls' := [.ref 99, .int p1, .int p2, .int p3, .int p4]) (st' := [.int (nI 0), .int p4]) (E' := E) (I' := (u_I I 99 (upd (I 99) 3 (nI 0)))) (J' := J) (S' := S) am_e274 rfl rfl rfl rfl ?_
  refine w_st (i' := 6) (ls' := [.ref 99, .int p1, .int p2, .int p3, .int p4]) (st' := [.int (nI 2), .int (nI 0), .int p4]) (E' := E) (I' := (u_I I 99 (upd (I 99) 3 (nI 0)))) (J' := J) (S' := S) am_e274 rfl rfl rfl rfl ?_
  refine w_cI am_e274 rfl rfl (as := [.int p4, .int (nI 0), .int (nI 2)]) (rest := []) rfl rfl ?_
  show am_ww 232 0 [.int p4, .int (nI 0), .int (nI 2)] [] E (u_I I 99 (upd (I 99) 3 (nI 0))) J S _
  refine w_st (i' := 1) (ls' := [.int p4, .int (nI 0), .int (nI 2)]) (st' := [.int p4]) (E' := E) (I' := (u_I I 99 (upd (I 99) 3 (nI 0)))) (J' := J) (S' := S) am_e232 rfl rfl rfl rfl ?_
  refine w_st (i' := 2) (ls' := [.int p4, .int (nI 0), .int (nI 2)]) (st' := [.int (nI 0), .int p4]) (E' := E) (I' := (u_I I 99 (upd (I 99) 3 (nI 0)))) (J' := J) (S' := S) am_e232 rfl rfl rfl rfl ?_
  refine w_if2 am_e232 rfl rfl (fun c => ?_) (fun c => ?_)
  · replace h := h.1 (of_decide_eq_true c)
    refine w_st (i' := 9) (ls' := [.int p4, .int (nI 0), .int (nI 2)]) (st' := [.int (nI 0)]) (E' := E) (I' := (u_I I 99 (upd (I 99) 3 (nI 0)))) (J' := J) (S' := S) am_e232 rfl rfl rfl rfl ?_
    refine w_end (E' := E) (I' := (u_I I 99 (upd (I 99) 3 (nI 0)))) (J' := J) (S' := S) am_e232 rfl rfl rfl (q_mkI ?_)
    show am_ww 274 7 [.ref 99, .int p1, .int p2, .int p3, .int p4] [.int (nI 0)] E (u_I I 99 (upd (I 99) 3 (nI 0))) J S _
    refine w_st (i' := 19) (ls' := [.ref 99, .int p1, .int p2, .int p3, .int p4]) (st' := []) (E' := E) (I' := (u_I I 99 (upd (I 99) 3 (nI 0)))) (J' := J) (S' := S) am_e274 rfl rfl rfl rfl ?_
    refine w_st (i' := 20) (ls' := [.ref 99, .int p1, .int p2, .int p3, .int p4]) (st' := [.ref 99]) (E' := E) (I' := (u_I I 99 (upd (I 99) 3 (nI 0)))) (J' := J) (S' := S) am_e274 rfl rfl rfl rfl ?_
    refine w_st (i' := 21) (ls' := [.ref 99, .int p1, .int p2, .int p3, .int p4]) (st' := [.int (nI 1), .ref 99]) (E' := E) (I' := (u_I I 99 (upd (I 99) 3 (nI 0)))) (J' := J) (S' := S) am_e274 rfl rfl rfl rfl ?_
    refine w_cI am_e274 rfl rfl (as := [.ref 99, .int (nI 1)]) (rest := []) rfl rfl ?_
    show am_ww 189 0 [.ref 99, .int (nI 1)] [] E (u_I I 99 (upd (I 99) 3 (nI 0))) J S _
    refine w_st (i' := 1) (ls' := [.ref 99, .int (nI 1)]) (st' := [.ref 99]) (E' := E) (I' := (u_I I 99 (upd (I 99) 3 (nI 0)))) (J' := J) (S' := S) am_e189 rfl rfl rfl rfl ?_
    refine w_st (i' := 2) (ls' := [.ref 99, .int (nI 1)]) (st' := [.int (nI 1), .ref 99]) (E' := E) (I' := (u_I I 99 (upd (I 99) 3 (nI 0)))) (J' := J) (S' := S) am_e189 rfl rfl rfl rfl ?_
    refine w_st (i' := 3) (ls' := [.ref 99, .int (nI 1)]) (st' := []) (E' := E) (I' := (u_I (u_I I 99 (upd (I 99) 3 (nI 0))) 99 (upd (upd (I 99) 3 (nI 0)) 3 (nI 1)))) (J' := J) (S' := S) am_e189 rfl rfl rfl rfl ?_
    refine w_eI (uI_0 ..) ?_
    show am_ww 189 3 [.ref 99, .int (nI 1)] [] E (u_I I 99 (upd (upd (I 99) 3 (nI 0)) 3 (nI 1))) J S _
    refine w_st (i' := 4) (ls' := [.ref 99, .int (nI 1)]) (st' := [.int (nI 0)]) (E' := E) (I' := (u_I I 99 (upd (upd (I 99) 3 (nI 0)) 3 (nI 1)))) (J' := J) (S' := S) am_e189 rfl rfl rfl rfl ?_
    refine w_end (E' := E) (I' := (u_I I 99 (upd (upd (I 99) 3 (nI 0)) 3 (nI 1)))) (J' := J) (S' := S) am_e189 rfl rfl rfl (q_mkI ?_)
    show am_ww 274 22 [.ref 99, .int p1, .int p2, .int p3, .int p4] [.int (nI 0)] E (u_I I 99 (upd (upd (I 99) 3 (nI 0)) 3 (nI 1))) J S _
    exact w_end am_e274 rfl rfl rfl h
  · replace h := h.2 (of_decide_eq_false c)
    refine w_st (i' := 4) (ls' := [.int p4, .int (nI 0), .int (nI 2)]) (st' := [.int p4]) (E' := E) (I' := (u_I I 99 (upd (I 99) 3 (nI 0)))) (J' := J) (S' := S) am_e232 rfl rfl rfl rfl ?_
    refine w_st (i' := 5) (ls' := [.int p4, .int (nI 0), .int (nI 2)]) (st' := [.int (nI 2), .int p4]) (E' := E) (I' := (u_I I 99 (upd (I 99) 3 (nI 0)))) (J' := J) (S' := S) am_e232 rfl rfl rfl rfl ?_
    refine w_if2 am_e232 rfl rfl (fun c => ?_) (fun c => ?_)
    · replace h := h.1 (of_decide_eq_true c)
      refine w_st (i' := 9) (ls' := [.int p4, .int (nI 0), .int (nI 2)]) (st' := [.int (nI 0)]) (E' := E) (I' := (u_I I 99 (upd (I 99) 3 (nI 0)))) (J' := J) (S' := S) am_e232 rfl rfl rfl rfl ?_
      refine w_end (E' := E) (I' := (u_I I 99 (upd (I 99) 3 (nI 0)))) (J' := J) (S' := S) am_e232 rfl rfl rfl (q_mkI ?_)
      show am_ww 274 7 [.ref 99, .int p1, .int p2, .int p3, .int p4] [.int (nI 0)] E (u_I I 99 (upd (I 99) 3 (nI 0))) J S _
      refine w_st (i' := 19) (ls' := [.ref 99, .int p1, .int p2, .int p3, .int p4]) (st' := []) (E' := E) (I' := (u_I I 99 (upd (I 99) 3 (nI 0)))) (J' := J) (S' := S) am_e274 rfl rfl rfl rfl ?_
      refine w_st (i' := 20) (ls' := [.ref 99, .int p1, .int p2, .int p3, .int p4]) (st' := [.ref 99]) (E' := E) (I' := (u_I I 99 (upd (I 99) 3 (nI 0)))) (J' := J) (S' := S) am_e274 rfl rfl rfl rfl ?_
      refine w_st (i' := 21) (ls' := [.ref 99, .int p1, .int p2, .int p3, .int p4]) (st' := [.int (nI 1), .ref 99]) (E' := E) (I' := (u_I I 99 (upd (I 99) 3 (nI 0)))) (J' := J) (S' := S) am_e274 rfl rfl rfl rfl ?_
      refine w_cI am_e274 rfl rfl (as := [.ref 99, .int (nI 1)]) (rest := []) rfl rfl ?_
      show am_ww 189 0 [.ref 99, .int (nI 1)] [] E (u_I I 99 (upd (I 99) 3 (nI 0))) J S _
      refine w_st (i' := 1) (ls' := [.ref 99, .int (nI 1)]) (st' := [.ref 99]) (E' := E) (I' := (u_I I 99 (upd (I 99) 3 (nI 0)))) (J' := J) (S' := S) am_e189 rfl rfl rfl rfl ?_
      refine w_st (i' := 2) (ls' := [.ref 99, .int (nI 1)]) (st' := [.int (nI 1), .ref 99]) (E' := E) (I' := (u_I I 99 (upd (I 99) 3 (nI 0)))) (J' := J) (S' := S) am_e189 rfl rfl rfl rfl ?_
      refine w_st (i' := 3) (ls' := [.ref 99, .int (nI 1)]) (st' := []) (E' := E) (I' := (u_I (u_I I 99 (upd (I 99) 3 (nI 0))) 99 (upd (upd (I 99) 3 (nI 0)) 3 (nI 1)))) (J' := J) (S' := S) am_e189 rfl rfl rfl rfl ?_
      refine w_eI (uI_0 ..) ?_
      show am_ww 189 3 [.ref 99, .int (nI 1)] [] E (u_I I 99 (upd (upd (I 99) 3 (nI 0)) 3 (nI 1))) J S _
      refine w_st (i' := 4) (ls' := [.ref 99, .int (nI 1)]) (st' := [.int (nI 0)]) (E' := E) (I' := (u_I I 99 (upd (upd (I 99) 3 (nI 0)) 3 (nI 1)))) (J' := J) (S' := S) am_e189 rfl rfl rfl rfl ?_
      refine w_end (E' := E) (I' := (u_I I 99 (upd (upd (I 99) 3 (nI 0)) 3 (nI 1)))) (J' := J) (S' := S) am_e189 rfl rfl rfl (q_mkI ?_)
      show am_ww 274 22 [.ref 99, .int p1, .int p2, .int p3, .int p4] [.int (nI 0)] E (u_I I 99 (upd (upd (I 99) 3 (nI 0)) 3 (nI 1))) J S _
      exact w_end am_e274 rfl rfl rfl h
    · replace h := h.2 (of_decide_eq_false c)
      refine w_st (i' := 7) (ls' := [.int p4, .int (nI 0), .int (nI 2)]) (st' := [.int (nI 1)]) (E' := E) (I' := (u_I I 99 (upd (I 99) 3 (nI 0)))) (J' := J) (S' := S) am_e232 rfl rfl rfl rfl ?_
      refine w_st (i' := 9) (ls' := [.int p4, .int (nI 0), .int (nI 2)]) (st' := [.int (nI 1)]) (E' := E) (I' := (u_I I 99 (upd (I 99) 3 (nI 0)))) (J' := J) (S' := S) am_e232 rfl rfl rfl rfl ?_
      refine w_end (E' := E) (I' := (u_I I 99 (upd (I 99) 3 (nI 0)))) (J' := J) (S' := S) am_e232 rfl rfl rfl (q_mkI ?_)
      show am_ww 274 7 [.ref 99, .int p1, .int p2, .int p3, .int p4] [.int (nI 1)] E (u_I I 99 (upd (I 99) 3 (nI 0))) J S _
      refine w_st (i' := 8) (ls' := [.ref 99, .int p1, .int p2, .int p3, .int p4]) (st' := []) (E' := E) (I' := (u_I I 99 (upd (I 99) 3 (nI 0)))) (J' := J) (S' := S) am_e274 rfl rfl rfl rfl ?_
      refine w_st (i' := 9) (ls' := [.ref 99, .int p1, .int p2, .int p3, .int p4]) (st' := [.int p1]) (E' := E) (I' := (u_I I 99 (upd (I 99) 3 (nI 0)))) (J' := J) (S' := S) am_e274 rfl rfl rfl rfl ?_
      refine w_st (i' := 10) (ls' := [.ref 99, .int p1, .int p2, .int p3, .int p4]) (st' := [.int (nI 0), .int p1]) (E' := E) (I' := (u_I I 99 (upd (I 99) 3 (nI 0)))) (J' := J) (S' := S) am_e274 rfl rfl rfl rfl ?_
      refine w_st (i' := 11) (ls' := [.ref 99, .int p1, .int p2, .int p3, .int p4]) (st' := [.int (nI 5), .int (nI 0), .int p1]) (E' := E) (I' := (u_I I 99 (upd (I 99) 3 (nI 0)))) (J' := J) (S' := S) am_e274 rfl rfl rfl rfl ?_
      refine w_cI am_e274 rfl rfl (as := [.int p1, .int (nI 0), .int (nI 5)]) (rest := []) rfl rfl ?_
      show am_ww 232 0 [.int p1, .int (nI 0), .int (nI 5)] [] E (u_I I 99 (upd (I 99) 3 (nI 0))) J S _
      refine w_st (i' := 1) (ls' := [.int p1, .int (nI 0), .int (nI 5)]) (st' := [.int p1]) (E' := E) (I' := (u_I I 99 (upd (I 99) 3 (nI 0)))) (J' := J) (S' := S) am_e232 rfl rfl rfl rfl ?_
      refine w_st (i' := 2) (ls' := [.int p1, .int (nI 0), .int (nI 5)]) (st' := [.int (nI 0), .int p1]) (E' := E) (I' := (u_I I 99 (upd (I 99) 3 (nI 0)))) (J' := J) (S' := S) am_e232 rfl rfl rfl rfl ?_
      refine w_if2 am_e232 rfl rfl (fun c => ?_) (fun c => ?_)
      · replace h := h.1 (of_decide_eq_true c)
        refine w_st (i' := 9) (ls' := [.int p1, .int (nI 0), .int (nI 5)]) (st' := [.int (nI 0)]) (E' := E) (I' := (u_I I 99 (upd (I 99) 3 (nI 0)))) (J' := J) (S' := S) am_e232 rfl rfl rfl rfl ?_
        refine w_end (E' := E) (I' := (u_I I 99 (upd (I 99) 3 (nI 0)))) (J' := J) (S' := S) am_e232 rfl rfl rfl (q_mkI ?_)
        show am_ww 274 12 [.ref 99, .int p1, .int p2, .int p3, .int p4] [.int (nI 0)] E (u_I I 99 (upd (I 99) 3 (nI 0))) J S _
        refine w_st (i' := 19) (ls' := [.ref 99, .int p1, .int p2, .int p3, .int p4]) (st' := []) (E' := E) (I' := (u_I I 99 (upd (I 99) 3 (nI 0)))) (J' := J) (S' := S) am_e274 rfl rfl rfl rfl ?_
        refine w_st (i' := 20) (ls' := [.ref 99, .int p1, .int p2, .int p3, .int p4]) (st' := [.ref 99]) (E' := E) (I' := (u_I I 99 (upd (I 99) 3 (nI 0)))) (J' := J) (S' := S) am_e274 rfl rfl rfl rfl ?_
        refine w_st (i' := 21) (ls' := [.ref 99, .int p1, .int p2, .int p3, .int p4]) (st' := [.int (nI 1), .ref 99]) (E' := E) (I' := (u_I I 99 (upd (I 99) 3 (nI 0)))) (J' := J) (S' := S) am_e274 rfl rfl rfl rfl ?_
        refine w_cI am_e274 rfl rfl (as := [.ref 99, .int (nI 1)]) (rest := []) rfl rfl ?_
        show am_ww 189 0 [.ref 99, .int (nI 1)] [] E (u_I I 99 (upd (I 99) 3 (nI 0))) J S _
        refine w_st (i' := 1) (ls' := [.ref 99, .int (nI 1)]) (st' := [.ref 99]) (E' := E) (I' := (u_I I 99 (upd (I 99) 3 (nI 0)))) (J' := J) (S' := S) am_e189 rfl rfl rfl rfl ?_
        refine w_st (i' := 2) (ls' := [.ref 99, .int (nI 1)]) (st' := [.int (nI 1), .ref 99]) (E' := E) (I' := (u_I I 99 (upd (I 99) 3 (nI 0)))) (J' := J) (S' := S) am_e189 rfl rfl rfl rfl ?_
        refine w_st (i' := 3) (ls' := [.ref 99, .int (nI 1)]) (st' := []) (E' := E) (I' := (u_I (u_I I 99 (upd (I 99) 3 (nI 0))) 99 (upd (upd (I 99) 3 (nI 0)) 3 (nI 1)))) (J' := J) (S' := S) am_e189 rfl rfl rfl rfl ?_
        refine w_eI (uI_0 ..) ?_
        show am_ww 189 3 [.ref 99, .int (nI 1)] [] E (u_I I 99 (upd (upd (I 99) 3 (nI 0)) 3 (nI 1))) J S _
        refine w_st (i' := 4) (ls' := [.ref 99, .int (nI 1)]) (st' := [.int (nI 0)]) (E' := E) (I' := (u_I I 99 (upd (upd (I 99) 3 (nI 0)) 3 (nI 1)))) (J' := J) (S' := S) am_e189 rfl rfl rfl rfl ?_
        refine w_end (E' := E) (I' := (u_I I 99 (upd (upd (I 99) 3 (nI 0)) 3 (nI 1)))) (J' := J) (S' := S) am_e189 rfl rfl rfl (q_mkI ?_)
        show am_ww 274 22 [.ref 99, .int p1, .int p2, .int p3, .int p4] [.int (nI 0)] E (u_I I 99 (upd (upd (I 99) 3 (nI 0)) 3 (nI 1))) J S _
        exact w_end am_e274 rfl rfl rfl h
      · replace h := h.2 (of_decide_eq_false c)
        refine w_st (i' := 4) (ls' := [.int p1, .int (nI 0), .int (nI 5)]) (st' := [.int p1]) (E' := E) (I' := (u_I I 99 (upd (I 99) 3 (nI 0)))) (J' := J) (S' := S) am_e232 rfl rfl rfl rfl ?_
        refine w_st (i' := 5) (ls' := [.int p1, .int (nI 0), .int (nI 5)]) (st' := [.int (nI 5), .int p1]) (E' := E) (I' := (u_I I 99 (upd (I 99) 3 (nI 0)))) (J' := J) (S' := S) am_e232 rfl rfl rfl rfl ?_
        refine w_if2 am_e232 rfl rfl (fun c => ?_) (fun c => ?_)
        · replace h := h.1 (of_decide_eq_true c)
          refine w_st (i' := 9) (ls' := [.int p1, .int (nI 0), .int (nI 5)]) (st' := [.int (nI 0)]) (E' := E) (I' := (u_I I 99 (upd (I 99) 3 (nI 0)))) (J' := J) (S' := S) am_e232 rfl rfl rfl rfl ?_
          refine w_end (E' := E) (I' := (u_I I 99 (upd (I 99) 3 (nI 0)))) (J' := J) (S' := S) am_e232 rfl rfl rfl (q_mkI ?_)
          show am_ww 274 12 [.ref 99, .int p1, .int p2, .int p3, .int p4] [.int (nI 0)] E (u_I I 99 (upd (I 99) 3 (nI 0))) J S _
          refine w_st (i' := 19) (ls' := [.ref 99, .int p1, .int p2, .int p3, .int p4]) (st' := []) (E' := E) (I' := (u_I I 99 (upd (I 99) 3 (nI 0)))) (J' := J) (S' := S) am_e274 rfl rfl rfl rfl ?_
          refine w_st (i' := 20) (ls' := [.ref 99, .int p1, .int p2, .int p3, .int p4]) (st' := [.ref 99]) (E' := E) (I' := (u_I I 99 (upd (I 99) 3 (nI 0)))) (J' := J) (S' := S) am_e274 rfl rfl rfl rfl ?_
          refine w_st (i' := 21) (ls' := [.ref 99, .int p1, .int p2, .int p3, .int p4]) (st' := [.int (nI 1), .ref 99]) (E' := E) (I' := (u_I I 99 (upd (I 99) 3 (nI 0)))) (J' := J) (S' := S) am_e274 rfl rfl rfl rfl ?_
          refine w_cI am_e274 rfl rfl (as := [.ref 99, .int (nI 1)]) (rest := []) rfl rfl ?_
          show am_ww 189 0 [.ref 99, .int (nI 1)] [] E (u_I I 99 (upd (I 99) 3 (nI 0))) J S _
          refine w_st (i' := 1) (ls' := [.ref 99, .int (nI 1)]) (st' := [.ref 99]) (E' := E) (I' := (u_I I 99 (upd (I 99) 3 (nI 0)))) (J' := J) (S' := S) am_e189 rfl rfl rfl rfl ?_
          refine w_st (i' := 2) (ls' := [.ref 99, .int (nI 1)]) (st' := [.int (nI 1), .ref 99]) (E' := E) (I' := (u_I I 99 (upd (I 99) 3 (nI 0)))) (J' := J) (S' := S) am_e189 rfl rfl rfl rfl ?_
          refine w_st (i' := 3) (ls' := [.ref 99, .int (nI 1)]) (st' := []) (E' := E) (I' := (u_I (u_I I 99 (upd (I 99) 3 (nI 0))) 99 (upd (upd (I 99) 3 (nI 0)) 3 (nI 1)))) (J' := J) (S' := S) am_e189 rfl rfl rfl rfl ?_
          refine w_eI (uI_0 ..) ?_
          show am_ww 189 3 [.ref 99, .int (nI 1)] [] E (u_I I 99 (upd (upd (I 99) 3 (nI 0)) 3 (nI 1))) J S _
          refine w_st (i' := 4) (ls' := [.ref 99, .int (nI 1)]) (st' := [.int (nI 0)]) (E' := E) (I' := (u_I I 99 (upd (upd (I 99) 3 (nI 0)) 3 (nI 1)))) (J' := J) (S' := S) am_e189 rfl rfl rfl rfl ?_
          refine w_end (E' := E) (I' := (u_I I 99 (upd (upd (I 99) 3 (nI 0)) 3 (nI 1)))) (J' := J) (S' := S) am_e189 rfl rfl rfl (q_mkI ?_)
          show am_ww 274 22 [.ref 99, .int p1, .int p2, .int p3, .int p4] [.int (nI 0)] E (u_I I 99 (upd (upd (I 99) 3 (nI 0)) 3 (nI 1))) J S _
          exact w_end am_e274 rfl rfl rfl h
        · replace h := h.2 (of_decide_eq_false c)
          refine w_st (i' := 7) (ls' := [.int p1, .int (nI 0), .int (nI 5)]) (st' := [.int (nI 1)]) (E' := E) (I' := (u_I I 99 (upd (I 99) 3 (nI 0)))) (J' := J) (S' := S) am_e232 rfl rfl rfl rfl ?_
          refine w_st (i' := 9) (ls' := [.int p1, .int (nI 0), .int (nI 5)]) (st' := [.int (nI 1)]) (E' := E) (I' := (u_I I 99 (upd (I 99) 3 (nI 0)))) (J' := J) (S' := S) am_e232 rfl rfl rfl rfl ?_
          refine w_end (E' := E) (I' := (u_I I 99 (upd (I 99) 3 (nI 0)))) (J' := J) (S' := S) am_e232 rfl rfl rfl (q_mkI ?_)
          show am_ww 274 12 [.ref 99, .int p1, .int p2, .int p3, .int p4] [.int (nI 1)] E (u_I I 99 (upd (I 99) 3 (nI 0))) J S _
          refine w_st (i' := 13) (ls' := [.ref 99, .int p1, .int p2, .int p3, .int p4]) (st' := []) (E' := E) (I' := (u_I I 99 (upd (I 99) 3 (nI 0)))) (J' := J) (S' := S) am_e274 rfl rfl rfl rfl ?_
          refine w_st (i' := 14) (ls' := [.ref 99, .int p1, .int p2, .int p3, .int p4]) (st' := [.ref 99]) (E' := E) (I' := (u_I I 99 (upd (I 99) 3 (nI 0)))) (J' := J) (S' := S) am_e274 rfl rfl rfl rfl ?_
          refine w_st (i' := 15) (ls' := [.ref 99, .int p1, .int p2, .int p3, .int p4]) (st' := [.int p1, .ref 99]) (E' := E) (I' := (u_I I 99 (upd (I 99) 3 (nI 0)))) (J' := J) (S' := S) am_e274 rfl rfl rfl rfl ?_
          refine w_st (i' := 16) (ls' := [.ref 99, .int p1, .int p2, .int p3, .int p4]) (st' := [.int p2, .int p1, .ref 99]) (E' := E) (I' := (u_I I 99 (upd (I 99) 3 (nI 0)))) (J' := J) (S' := S) am_e274 rfl rfl rfl rfl ?_
          refine w_st (i' := 17) (ls' := [.ref 99, .int p1, .int p2, .int p3, .int p4]) (st' := [.int p3, .int p2, .int p1, .ref 99]) (E' := E) (I' := (u_I I 99 (upd (I 99) 3 (nI 0)))) (J' := J) (S' := S) am_e274 rfl rfl rfl rfl ?_
          refine w_cI am_e274 rfl rfl (as := [.ref 99, .int p1, .int p2, .int p3]) (rest := []) rfl rfl ?_
          show am_ww 275 0 [.ref 99, .int p1, .int p2, .int p3] [] E (u_I I 99 (upd (I 99) 3 (nI 0))) J S _
          refine w_st (i' := 1) (ls' := [.ref 99, .int p1, .int p2, .int p3]) (st' := [.int p1]) (E' := E) (I' := (u_I I 99 (upd (I 99) 3 (nI 0)))) (J' := J) (S' := S) am_e275 rfl rfl rfl rfl ?_
          refine w_st (i' := 2) (ls' := [.ref 99, .int p1, .int p2, .int p3]) (st' := [.int (nI 2), .int p1]) (E' := E) (I' := (u_I I 99 (upd (I 99) 3 (nI 0)))) (J' := J) (S' := S) am_e275 rfl rfl rfl rfl ?_
          refine w_if2 am_e275 rfl rfl (fun c => ?_) (fun c => ?_)
          · replace h := h.1 (of_decide_eq_true c)
            refine w_st (i' := 32) (ls' := [.ref 99, .int p1, .int p2, .int p3]) (st' := [.int p1]) (E' := E) (I' := (u_I I 99 (upd (I 99) 3 (nI 0)))) (J' := J) (S' := S) am_e275 rfl rfl rfl rfl ?_
            refine w_st (i' := 33) (ls' := [.ref 99, .int p1, .int p2, .int p3]) (st' := [.int (nI 5), .int p1]) (E' := E) (I' := (u_I I 99 (upd (I 99) 3 (nI 0)))) (J' := J) (S' := S) am_e275 rfl rfl rfl rfl ?_
            refine w_if2 am_e275 rfl rfl (fun c => ?_) (fun c => ?_)
            · replace h := h.2 (of_decide_eq_true c)
              refine w_st (i' := 40) (ls' := [.ref 99, .int p1, .int p2, .int p3]) (st' := [.int p2]) (E' := E) (I' := (u_I I 99 (upd (I 99) 3 (nI 0)))) (J' := J) (S' := S) am_e275 rfl rfl rfl rfl ?_
              refine w_st (i' := 41) (ls' := [.ref 99, .int p1, .int p2, .int p3]) (st' := [.int (nI 0), .int p2]) (E' := E) (I' := (u_I I 99 (upd (I 99) 3 (nI 0)))) (J' := J) (S' := S) am_e275 rfl rfl rfl rfl ?_
              refine w_st (i' := 42) (ls' := [.ref 99, .int p1, .int p2, .int p3]) (st' := [.ref 99, .int (nI 0), .int p2]) (E' := E) (I' := (u_I I 99 (upd (I 99) 3 (nI 0)))) (J' := J) (S' := S) am_e275 rfl rfl rfl rfl ?_
              refine w_st (i' := 43) (ls' := [.ref 99, .int p1, .int p2, .int p3]) (st' := [.ref 99, .ref 99, .int (nI 0), .int p2]) (E' := E) (I' := (u_I I 99 (upd (I 99) 3 (nI 0)))) (J' := J) (S' := S) am_e275 rfl rfl rfl rfl ?_
              refine w_st (i' := 44) (ls' := [.ref 99, .int p1, .int p2, .int p3]) (st' := [.int ((I 99) 12), .ref 99, .int (nI 0), .int p2]) (E' := E) (I' := (u_I I 99 (upd (I 99) 3 (nI 0)))) (J' := J) (S' := S) am_e275 rfl rfl rfl rfl ?_
              refine w_st (i' := 45) (ls' := [.ref 99, .int p1, .int p2, .int p3]) (st' := [.int (nI 48), .int ((I 99) 12), .ref 99, .int (nI 0), .int p2]) (E' := E) (I' := (u_I I 99 (upd (I 99) 3 (nI 0)))) (J' := J) (S' := S) am_e275 rfl rfl rfl rfl ?_
              refine w_st (i' := 46) (ls' := [.ref 99, .int p1, .int p2, .int p3]) (st' := [.int p1, .int (nI 48), .int ((I 99) 12), .ref 99, .int (nI 0), .int p2]) (E' := E) (I' := (u_I I 99 (upd (I 99) 3 (nI 0)))) (J' := J) (S' := S) am_e275 rfl rfl rfl rfl ?_
              refine w_st (i' := 47) (ls' := [.ref 99, .int p1, .int p2, .int p3]) (st' := [.int ((nI 48) + p1), .int ((I 99) 12), .ref 99, .int (nI 0), .int p2]) (E' := E) (I' := (u_I I 99 (upd (I 99) 3 (nI 0)))) (J' := J) (S' := S) am_e275 rfl rfl rfl rfl ?_
              refine w_st (i' := 48) (ls' := [.ref 99, .int p1, .int p2, .int p3]) (st' := [.int (nI 2), .int ((nI 48) + p1), .int ((I 99) 12), .ref 99, .int (nI 0), .int p2]) (E' := E) (I' := (u_I I 99 (upd (I 99) 3 (nI 0)))) (J' := J) (S' := S) am_e275 rfl rfl rfl rfl ?_
              refine w_st (i' := 49) (ls' := [.ref 99, .int p1, .int p2, .int p3]) (st' := [.int (((nI 48) + p1) - (nI 2)), .int ((I 99) 12), .ref 99, .int (nI 0), .int p2]) (E' := E) (I' := (u_I I 99 (upd (I 99) 3 (nI 0)))) (J' := J) (S' := S) am_e275 rfl rfl rfl rfl ?_
              refine w_cI am_e275 rfl rfl (as := [.ref 99, .int ((I 99) 12), .int (((nI 48) + p1) - (nI 2))]) (rest := [.int (nI 0), .int p2]) rfl rfl ?_
              show am_ww 245 0 [.ref 99, .int ((I 99) 12), .int (((nI 48) + p1) - (nI 2))] [] E (u_I I 99 (upd (I 99) 3 (nI 0))) J S _
              refine w_st (i' := 1) (ls' := [.ref 99, .int ((I 99) 12), .int (((nI 48) + p1) - (nI 2))]) (st' := [.ref 99]) (E' := E) (I' := (u_I I 99 (upd (I 99) 3 (nI 0)))) (J' := J) (S' := S) am_e245 rfl rfl rfl rfl ?_
              refine w_st (i' := 2) (ls' := [.ref 99, .int ((I 99) 12), .int (((nI 48) + p1) - (nI 2))]) (st' := [.ref 117]) (E' := E) (I' := (u_I I 99 (upd (I 99) 3 (nI 0)))) (J' := J) (S' := S) am_e245 rfl rfl rfl rfl ?_
              refine w_st (i' := 3) (ls' := [.ref 99, .int ((I 99) 12), .int (((nI 48) + p1) - (nI 2))]) (st' := [.int (nI 51), .ref 117]) (E' := E) (I' := (u_I I 99 (upd (I 99) 3 (nI 0)))) (J' := J) (S' := S) am_e245 rfl rfl rfl rfl ?_
              refine w_st (i' := 4) (ls' := [.ref 99, .int ((I 99) 12), .int (((nI 48) + p1) - (nI 2))]) (st' := [.int ((I 99) 12), .int (nI 51), .ref 117]) (E' := E) (I' := (u_I I 99 (upd (I 99) 3 (nI 0)))) (J' := J) (S' := S) am_e245 rfl rfl rfl rfl ?_
              refine w_st (i' := 5) (ls' := [.ref 99, .int ((I 99) 12), .int (((nI 48) + p1) - (nI 2))]) (st' := [.int ((nI 51) * ((I 99) 12)), .ref 117]) (E' := E) (I' := (u_I I 99 (upd (I 99) 3 (nI 0)))) (J' := J) (S' := S) am_e245 rfl rfl rfl rfl ?_
              refine w_st (i' := 6) (ls' := [.ref 99, .int ((I 99) 12), .int (((nI 48) + p1) - (nI 2))]) (st' := [.int (((nI 48) + p1) - (nI 2)), .int ((nI 51) * ((I 99) 12)), .ref 117]) (E' := E) (I' := (u_I I 99 (upd (I 99) 3 (nI 0)))) (J' := J) (S' := S) am_e245 rfl rfl rfl rfl ?_
              refine w_st (i' := 7) (ls' := [.ref 99, .int ((I 99) 12), .int (((nI 48) + p1) - (nI 2))]) (st' := [.int (((nI 51) * ((I 99) 12)) + (((nI 48) + p1) - (nI 2))), .ref 117]) (E' := E) (I' := (u_I I 99 (upd (I 99) 3 (nI 0)))) (J' := J) (S' := S) am_e245 rfl rfl rfl rfl ?_
              have hf1 := h.1
              replace h := h.2
              refine w_ia (k := 117) (n := 20451) (jn := (((nI 51) * ((I 99) 12)) + (((nI 48) + p1) - (nI 2))).toNatClampNeg) am_e245 rfl rfl (by decide) hf1 rfl ?_
              show am_ww 245 8 [.ref 99, .int ((I 99) 12), .int (((nI 48) + p1) - (nI 2))] [.int ((I 117) ((((nI 51) * ((I 99) 12)) + (((nI 48) + p1) - (nI 2))).toNatClampNeg))] E (u_I I 99 (upd (I 99) 3 (nI 0))) J S _
              refine w_ri am_e245 rfl rfl (q_mkI ?_)
              show am_ww 275 50 [.ref 99, .int p1, .int p2, .int p3] [.int ((I 117) ((((nI 51) * ((I 99) 12)) + (((nI 48) + p1) - (nI 2))).toNatClampNeg)), .int (nI 0), .int p2] E (u_I I 99 (upd (I 99) 3 (nI 0))) J S _
              refine w_var (fun w2 => am_ww 275 50 [.ref 99, .int p1, .int p2, .int p3] [.int w2, .int (nI 0), .int p2] E (u_I I 99 (upd (I 99) 3 (nI 0))) J S _) ((I 117) ((((nI 51) * ((I 99) 12)) + (((nI 48) + p1) - (nI 2))).toNatClampNeg)) (fun w2 hw2 => ?_)
              replace h := h w2 hw2
              refine w_st (i' := 51) (ls' := [.ref 99, .int p1, .int p2, .int p3]) (st' := [.int (nI 1), .int w2, .int (nI 0), .int p2]) (E' := E) (I' := (u_I I 99 (upd (I 99) 3 (nI 0)))) (J' := J) (S' := S) am_e275 rfl rfl rfl rfl ?_
              refine w_st (i' := 52) (ls' := [.ref 99, .int p1, .int p2, .int p3]) (st' := [.int (w2 - (nI 1)), .int (nI 0), .int p2]) (E' := E) (I' := (u_I I 99 (upd (I 99) 3 (nI 0)))) (J' := J) (S' := S) am_e275 rfl rfl rfl rfl ?_
              refine w_cI am_e275 rfl rfl (as := [.int p2, .int (nI 0), .int (w2 - (nI 1))]) (rest := []) rfl rfl ?_
              show am_ww 232 0 [.int p2, .int (nI 0), .int (w2 - (nI 1))] [] E (u_I I 99 (upd (I 99) 3 (nI 0))) J S _
              refine w_st (i' := 1) (ls' := [.int p2, .int (nI 0), .int (w2 - (nI 1))]) (st' := [.int p2]) (E' := E) (I' := (u_I I 99 (upd (I 99) 3 (nI 0)))) (J' := J) (S' := S) am_e232 rfl rfl rfl rfl ?_
              refine w_st (i' := 2) (ls' := [.int p2, .int (nI 0), .int (w2 - (nI 1))]) (st' := [.int (nI 0), .int p2]) (E' := E) (I' := (u_I I 99 (upd (I 99) 3 (nI 0)))) (J' := J) (S' := S) am_e232 rfl rfl rfl rfl ?_
              refine w_if2 am_e232 rfl rfl (fun c => ?_) (fun c => ?_)
              · replace h := h.1 (of_decide_eq_true c)
                refine w_st (i' := 9) (ls' := [.int p2, .int (nI 0), .int (w2 - (nI 1))]) (st' := [.int (nI 0)]) (E' := E) (I' := (u_I I 99 (upd (I 99) 3 (nI 0)))) (J' := J) (S' := S) am_e232 rfl rfl rfl rfl ?_
                refine w_end (E' := E) (I' := (u_I I 99 (upd (I 99) 3 (nI 0)))) (J' := J) (S' := S) am_e232 rfl rfl rfl (q_mkI ?_)
                show am_ww 275 53 [.ref 99, .int p1, .int p2, .int p3] [.int (nI 0)] E (u_I I 99 (upd (I 99) 3 (nI 0))) J S _
                refine w_end (E' := E) (I' := (u_I I 99 (upd (I 99) 3 (nI 0)))) (J' := J) (S' := S) am_e275 rfl rfl rfl (q_mkI ?_)
                show am_ww 274 18 [.ref 99, .int p1, .int p2, .int p3, .int p4] [.int (nI 0)] E (u_I I 99 (upd (I 99) 3 (nI 0))) J S _
                refine w_st (i' := 19) (ls' := [.ref 99, .int p1, .int p2, .int p3, .int p4]) (st' := []) (E' := E) (I' := (u_I I 99 (upd (I 99) 3 (nI 0)))) (J' := J) (S' := S) am_e274 rfl rfl rfl rfl ?_
                refine w_st (i' := 20) (ls' := [.ref 99, .int p1, .int p2, .int p3, .int p4]) (st' := [.ref 99]) (E' := E) (I' := (u_I I 99 (upd (I 99) 3 (nI 0)))) (J' := J) (S' := S) am_e274 rfl rfl rfl rfl ?_
                refine w_st (i' := 21) (ls' := [.ref 99, .int p1, .int p2, .int p3, .int p4]) (st' := [.int (nI 1), .ref 99]) (E' := E) (I' := (u_I I 99 (upd (I 99) 3 (nI 0)))) (J' := J) (S' := S) am_e274 rfl rfl rfl rfl ?_
                refine w_cI am_e274 rfl rfl (as := [.ref 99, .int (nI 1)]) (rest := []) rfl rfl ?_
                show am_ww 189 0 [.ref 99, .int (nI 1)] [] E (u_I I 99 (upd (I 99) 3 (nI 0))) J S _
                refine w_st (i' := 1) (ls' := [.ref 99, .int (nI 1)]) (st' := [.ref 99]) (E' := E) (I' := (u_I I 99 (upd (I 99) 3 (nI 0)))) (J' := J) (S' := S) am_e189 rfl rfl rfl rfl ?_
                refine w_st (i' := 2) (ls' := [.ref 99, .int (nI 1)]) (st' := [.int (nI 1), .ref 99]) (E' := E) (I' := (u_I I 99 (upd (I 99) 3 (nI 0)))) (J' := J) (S' := S) am_e189 rfl rfl rfl rfl ?_
                refine w_st (i' := 3) (ls' := [.ref 99, .int (nI 1)]) (st' := []) (E' := E) (I' := (u_I (u_I I 99 (upd (I 99) 3 (nI 0))) 99 (upd (upd (I 99) 3 (nI 0)) 3 (nI 1)))) (J' := J) (S' := S) am_e189 rfl rfl rfl rfl ?_
                refine w_eI (uI_0 ..) ?_
                show am_ww 189 3 [.ref 99, .int (nI 1)] [] E (u_I I 99 (upd (upd (I 99) 3 (nI 0)) 3 (nI 1))) J S _
                refine w_st (i' := 4) (ls' := [.ref 99, .int (nI 1)]) (st' := [.int (nI 0)]) (E' := E) (I' := (u_I I 99 (upd (upd (I 99) 3 (nI 0)) 3 (nI 1)))) (J' := J) (S' := S) am_e189 rfl rfl rfl rfl ?_
                refine w_end (E' := E) (I' := (u_I I 99 (upd (upd (I 99) 3 (nI 0)) 3 (nI 1)))) (J' := J) (S' := S) am_e189 rfl rfl rfl (q_mkI ?_)
                show am_ww 274 22 [.ref 99, .int p1, .int p2, .int p3, .int p4] [.int (nI 0)] E (u_I I 99 (upd (upd (I 99) 3 (nI 0)) 3 (nI 1))) J S _
                exact w_end am_e274 rfl rfl rfl h
              · replace h := h.2 (of_decide_eq_false c)
                refine w_st (i' := 4) (ls' := [.int p2, .int (nI 0), .int (w2 - (nI 1))]) (st' := [.int p2]) (E' := E) (I' := (u_I I 99 (upd (I 99) 3 (nI 0)))) (J' := J) (S' := S) am_e232 rfl rfl rfl rfl ?_
                refine w_st (i' := 5) (ls' := [.int p2, .int (nI 0), .int (w2 - (nI 1))]) (st' := [.int (w2 - (nI 1)), .int p2]) (E' := E) (I' := (u_I I 99 (upd (I 99) 3 (nI 0)))) (J' := J) (S' := S) am_e232 rfl rfl rfl rfl ?_
                refine w_if2 am_e232 rfl rfl (fun c => ?_) (fun c => ?_)
                · replace h := h.1 (of_decide_eq_true c)
                  refine w_st (i' := 9) (ls' := [.int p2, .int (nI 0), .int (w2 - (nI 1))]) (st' := [.int (nI 0)]) (E' := E) (I' := (u_I I 99 (upd (I 99) 3 (nI 0)))) (J' := J) (S' := S) am_e232 rfl rfl rfl rfl ?_
                  refine w_end (E' := E) (I' := (u_I I 99 (upd (I 99) 3 (nI 0)))) (J' := J) (S' := S) am_e232 rfl rfl rfl (q_mkI ?_)
                  show am_ww 275 53 [.ref 99, .int p1, .int p2, .int p3] [.int (nI 0)] E (u_I I 99 (upd (I 99) 3 (nI 0))) J S _
                  refine w_end (E' := E) (I' := (u_I I 99 (upd (I 99) 3 (nI 0)))) (J' := J) (S' := S) am_e275 rfl rfl rfl (q_mkI ?_)
                  show am_ww 274 18 [.ref 99, .int p1, .int p2, .int p3, .int p4] [.int (nI 0)] E (u_I I 99 (upd (I 99) 3 (nI 0))) J S _
                  refine w_st (i' := 19) (ls' := [.ref 99, .int p1, .int p2, .int p3, .int p4]) (st' := []) (E' := E) (I' := (u_I I 99 (upd (I 99) 3 (nI 0)))) (J' := J) (S' := S) am_e274 rfl rfl rfl rfl ?_
                  refine w_st (i' := 20) (ls' := [.ref 99, .int p1, .int p2, .int p3, .int p4]) (st' := [.ref 99]) (E' := E) (I' := (u_I I 99 (upd (I 99) 3 (nI 0)))) (J' := J) (S' := S) am_e274 rfl rfl rfl rfl ?_
                  refine w_st (i' := 21) (ls' := [.ref 99, .int p1, .int p2, .int p3, .int p4]) (st' := [.int (nI 1), .ref 99]) (E' := E) (I' := (u_I I 99 (upd (I 99) 3 (nI 0)))) (J' := J) (S' := S) am_e274 rfl rfl rfl rfl ?_
                  refine w_cI am_e274 rfl rfl (as := [.ref 99, .int (nI 1)]) (rest := []) rfl rfl ?_
                  show am_ww 189 0 [.ref 99, .int (nI 1)] [] E (u_I I 99 (upd (I 99) 3 (nI 0))) J S _
                  refine w_st (i' := 1) (ls' := [.ref 99, .int (nI 1)]) (st' := [.ref 99]) (E' := E) (I' := (u_I I 99 (upd (I 99) 3 (nI 0)))) (J' := J) (S' := S) am_e189 rfl rfl rfl rfl ?_
                  refine w_st (i' := 2) (ls' := [.ref 99, .int (nI 1)]) (st' := [.int (nI 1), .ref 99]) (E' := E) (I' := (u_I I 99 (upd (I 99) 3 (nI 0)))) (J' := J) (S' := S) am_e189 rfl rfl rfl rfl ?_
                  refine w_st (i' := 3) (ls' := [.ref 99, .int (nI 1)]) (st' := []) (E' := E) (I' := (u_I (u_I I 99 (upd (I 99) 3 (nI 0))) 99 (upd (upd (I 99) 3 (nI 0)) 3 (nI 1)))) (J' := J) (S' := S) am_e189 rfl rfl rfl rfl ?_
                  refine w_eI (uI_0 ..) ?_
                  show am_ww 189 3 [.ref 99, .int (nI 1)] [] E (u_I I 99 (upd (upd (I 99) 3 (nI 0)) 3 (nI 1))) J S _
                  refine w_st (i' := 4) (ls' := [.ref 99, .int (nI 1)]) (st' := [.int (nI 0)]) (E' := E) (I' := (u_I I 99 (upd (upd (I 99) 3 (nI 0)) 3 (nI 1)))) (J' := J) (S' := S) am_e189 rfl rfl rfl rfl ?_
                  refine w_end (E' := E) (I' := (u_I I 99 (upd (upd (I 99) 3 (nI 0)) 3 (nI 1)))) (J' := J) (S' := S) am_e189 rfl rfl rfl (q_mkI ?_)
                  show am_ww 274 22 [.ref 99, .int p1, .int p2, .int p3, .int p4] [.int (nI 0)] E (u_I I 99 (upd (upd (I 99) 3 (nI 0)) 3 (nI 1))) J S _
                  exact w_end am_e274 rfl rfl rfl h
                · replace h := h.2 (of_decide_eq_false c)
                  refine w_st (i' := 7) (ls' := [.int p2, .int (nI 0), .int (w2 - (nI 1))]) (st' := [.int (nI 1)]) (E' := E) (I' := (u_I I 99 (upd (I 99) 3 (nI 0)))) (J' := J) (S' := S) am_e232 rfl rfl rfl rfl ?_
                  refine w_st (i' := 9) (ls' := [.int p2, .int (nI 0), .int (w2 - (nI 1))]) (st' := [.int (nI 1)]) (E' := E) (I' := (u_I I 99 (upd (I 99) 3 (nI 0)))) (J' := J) (S' := S) am_e232 rfl rfl rfl rfl ?_
                  refine w_end (E' := E) (I' := (u_I I 99 (upd (I 99) 3 (nI 0)))) (J' := J) (S' := S) am_e232 rfl rfl rfl (q_mkI ?_)
                  show am_ww 275 53 [.ref 99, .int p1, .int p2, .int p3] [.int (nI 1)] E (u_I I 99 (upd (I 99) 3 (nI 0))) J S _
                  refine w_end (E' := E) (I' := (u_I I 99 (upd (I 99) 3 (nI 0)))) (J' := J) (S' := S) am_e275 rfl rfl rfl (q_mkI ?_)
                  show am_ww 274 18 [.ref 99, .int p1, .int p2, .int p3, .int p4] [.int (nI 1)] E (u_I I 99 (upd (I 99) 3 (nI 0))) J S _
                  refine w_st (i' := 23) (ls' := [.ref 99, .int p1, .int p2, .int p3, .int p4]) (st' := []) (E' := E) (I' := (u_I I 99 (upd (I 99) 3 (nI 0)))) (J' := J) (S' := S) am_e274 rfl rfl rfl rfl ?_
                  refine w_st (i' := 24) (ls' := [.ref 99, .int p1, .int p2, .int p3, .int p4]) (st' := [.ref 99]) (E' := E) (I' := (u_I I 99 (upd (I 99) 3 (nI 0)))) (J' := J) (S' := S) am_e274 rfl rfl rfl rfl ?_
                  refine w_st (i' := 25) (ls' := [.ref 99, .int p1, .int p2, .int p3, .int p4]) (st' := [.int p1, .ref 99]) (E' := E) (I' := (u_I I 99 (upd (I 99) 3 (nI 0)))) (J' := J) (S' := S) am_e274 rfl rfl rfl rfl ?_
                  refine w_st (i' := 26) (ls' := [.ref 99, .int p1, .int p2, .int p3, .int p4]) (st' := []) (E' := E) (I' := (u_I (u_I I 99 (upd (I 99) 3 (nI 0))) 99 (upd (upd (I 99) 3 (nI 0)) 51 p1))) (J' := J) (S' := S) am_e274 rfl rfl rfl rfl ?_
                  refine w_eI (uI_0 ..) ?_
                  show am_ww 274 26 [.ref 99, .int p1, .int p2, .int p3, .int p4] [] E (u_I I 99 (upd (upd (I 99) 3 (nI 0)) 51 p1)) J S _
                  refine w_st (i' := 27) (ls' := [.ref 99, .int p1, .int p2, .int p3, .int p4]) (st' := [.ref 99]) (E' := E) (I' := (u_I I 99 (upd (upd (I 99) 3 (nI 0)) 51 p1))) (J' := J) (S' := S) am_e274 rfl rfl rfl rfl ?_
                  refine w_st (i' := 28) (ls' := [.ref 99, .int p1, .int p2, .int p3, .int p4]) (st' := [.int p2, .ref 99]) (E' := E) (I' := (u_I I 99 (upd (upd (I 99) 3 (nI 0)) 51 p1))) (J' := J) (S' := S) am_e274 rfl rfl rfl rfl ?_
                  refine w_st (i' := 29) (ls' := [.ref 99, .int p1, .int p2, .int p3, .int p4]) (st' := []) (E' := E) (I' := (u_I (u_I I 99 (upd (upd (I 99) 3 (nI 0)) 51 p1)) 99 (upd (upd (upd (I 99) 3 (nI 0)) 51 p1) 52 p2))) (J' := J) (S' := S) am_e274 rfl rfl rfl rfl ?_
                  refine w_eI (uI_0 ..) ?_
                  show am_ww 274 29 [.ref 99, .int p1, .int p2, .int p3, .int p4] [] E (u_I I 99 (upd (upd (upd (I 99) 3 (nI 0)) 51 p1) 52 p2)) J S _
                  refine w_st (i' := 30) (ls' := [.ref 99, .int p1, .int p2, .int p3, .int p4]) (st' := [.ref 99]) (E' := E) (I' := (u_I I 99 (upd (upd (upd (I 99) 3 (nI 0)) 51 p1) 52 p2))) (J' := J) (S' := S) am_e274 rfl rfl rfl rfl ?_
                  refine w_st (i' := 31) (ls' := [.ref 99, .int p1, .int p2, .int p3, .int p4]) (st' := [.int p3, .ref 99]) (E' := E) (I' := (u_I I 99 (upd (upd (upd (I 99) 3 (nI 0)) 51 p1) 52 p2))) (J' := J) (S' := S) am_e274 rfl rfl rfl rfl ?_
                  refine w_st (i' := 32) (ls' := [.ref 99, .int p1, .int p2, .int p3, .int p4]) (st' := []) (E' := E) (I' := (u_I (u_I I 99 (upd (upd (upd (I 99) 3 (nI 0)) 51 p1) 52 p2)) 99 (upd (upd (upd (upd (I 99) 3 (nI 0)) 51 p1) 52 p2) 53 p3))) (J' := J) (S' := S) am_e274 rfl rfl rfl rfl ?_
                  refine w_eI (uI_0 ..) ?_
                  show am_ww 274 32 [.ref 99, .int p1, .int p2, .int p3, .int p4] [] E (u_I I 99 (upd (upd (upd (upd (I 99) 3 (nI 0)) 51 p1) 52 p2) 53 p3)) J S _
                  refine w_st (i' := 33) (ls' := [.ref 99, .int p1, .int p2, .int p3, .int p4]) (st' := [.ref 99]) (E' := E) (I' := (u_I I 99 (upd (upd (upd (upd (I 99) 3 (nI 0)) 51 p1) 52 p2) 53 p3))) (J' := J) (S' := S) am_e274 rfl rfl rfl rfl ?_
                  refine w_cV am_e274 rfl rfl (as := [.ref 99]) (rest := []) rfl rfl (am_ww.mono h ?_)
                  rintro _ E3 I3 J3 S3 ⟨rfl, h⟩
                  refine q_mkV ?_
                  refine w_st (i' := 35) (ls' := [.ref 99, .int p1, .int p2, .int p3, .int p4]) (st' := [.int p4]) (E' := E3) (I' := I3) (J' := J3) (S' := S3) am_e274 rfl rfl rfl rfl ?_
                  refine w_mg (i := 47) (ls' := [.ref 99, .int p1, .int p2, .int p3, .int p4]) (st' := [.int (if p4 = 0 then ((I3 99) 54) else (if p4 = (nI 1) then ((I3 99) 55) else ((I3 99) 56)))]) (fun hm => ?_) ?_
                  · clear h
                    refine w_if1 am_e274 rfl rfl (fun c => ?_) (fun c => ?_)
                    · have m4 : ¬ (p4 = 0) := (of_decide_eq_true c)
                      refine w_st (i' := 40) (ls' := [.ref 99, .int p1, .int p2, .int p3, .int p4]) (st' := [.int p4]) (E' := E3) (I' := I3) (J' := J3) (S' := S3) am_e274 rfl rfl rfl rfl ?_
                      refine w_st (i' := 41) (ls' := [.ref 99, .int p1, .int p2, .int p3, .int p4]) (st' := [.int (nI 1), .int p4]) (E' := E3) (I' := I3) (J' := J3) (S' := S3) am_e274 rfl rfl rfl rfl ?_
                      refine w_if2 am_e274 rfl rfl (fun c => ?_) (fun c => ?_)
                      · have m5 : ¬ (p4 = (nI 1)) := (of_decide_eq_true c)
                        refine w_st (i' := 46) (ls' := [.ref 99, .int p1, .int p2, .int p3, .int p4]) (st' := [.ref 99]) (E' := E3) (I' := I3) (J' := J3) (S' := S3) am_e274 rfl rfl rfl rfl ?_
                        refine w_st (i' := 47) (ls' := [.ref 99, .int p1, .int p2, .int p3, .int p4]) (st' := [.int ((I3 99) 56)]) (E' := E3) (I' := I3) (J' := J3) (S' := S3) am_e274 rfl rfl rfl rfl ?_
                        first | exact hm | (simp only [if_neg m4, if_neg m5] at hm; exact hm)
                      · have m5 : p4 = (nI 1) := (Decidable.not_not.mp (of_decide_eq_false c))
                        refine w_st (i' := 43) (ls' := [.ref 99, .int p1, .int p2, .int p3, .int p4]) (st' := [.ref 99]) (E' := E3) (I' := I3) (J' := J3) (S' := S3) am_e274 rfl rfl rfl rfl ?_
                        refine w_st (i' := 44) (ls' := [.ref 99, .int p1, .int p2, .int p3, .int p4]) (st' := [.int ((I3 99) 55)]) (E' := E3) (I' := I3) (J' := J3) (S' := S3) am_e274 rfl rfl rfl rfl ?_
                        refine w_st (i' := 47) (ls' := [.ref 99, .int p1, .int p2, .int p3, .int p4]) (st' := [.int ((I3 99) 55)]) (E' := E3) (I' := I3) (J' := J3) (S' := S3) am_e274 rfl rfl rfl rfl ?_
                        first | exact hm | (simp only [if_neg m4, if_pos m5] at hm; exact hm)
                    · have m4 : p4 = 0 := (Decidable.not_not.mp (of_decide_eq_false c))
                      refine w_st (i' := 37) (ls' := [.ref 99, .int p1, .int p2, .int p3, .int p4]) (st' := [.ref 99]) (E' := E3) (I' := I3) (J' := J3) (S' := S3) am_e274 rfl rfl rfl rfl ?_
                      refine w_st (i' := 38) (ls' := [.ref 99, .int p1, .int p2, .int p3, .int p4]) (st' := [.int ((I3 99) 54)]) (E' := E3) (I' := I3) (J' := J3) (S' := S3) am_e274 rfl rfl rfl rfl ?_
                      refine w_st (i' := 47) (ls' := [.ref 99, .int p1, .int p2, .int p3, .int p4]) (st' := [.int ((I3 99) 54)]) (E' := E3) (I' := I3) (J' := J3) (S' := S3) am_e274 rfl rfl rfl rfl ?_
                      first | exact hm | (simp only [if_pos m4] at hm; exact hm)
                  refine w_var (fun w6 => am_ww 274 47 [.ref 99, .int p1, .int p2, .int p3, .int p4] [.int w6] E3 I3 J3 S3 _) (if p4 = 0 then ((I3 99) 54) else (if p4 = (nI 1) then ((I3 99) 55) else ((I3 99) 56))) (fun w6 hw6 => ?_)
                  replace h := h w6 hw6
                  exact w_ri am_e274 rfl rfl h
            · replace h := h.1 (Decidable.not_not.mp (of_decide_eq_false c))
              refine w_st (i' := 35) (ls' := [.ref 99, .int p1, .int p2, .int p3]) (st' := [.int p2]) (E' := E) (I' := (u_I I 99 (upd (I 99) 3 (nI 0)))) (J' := J) (S' := S) am_e275 rfl rfl rfl rfl ?_
              refine w_st (i' := 36) (ls' := [.ref 99, .int p1, .int p2, .int p3]) (st' := [.int (nI 0), .int p2]) (E' := E) (I' := (u_I I 99 (upd (I 99) 3 (nI 0)))) (J' := J) (S' := S) am_e275 rfl rfl rfl rfl ?_
              refine w_st (i' := 37) (ls' := [.ref 99, .int p1, .int p2, .int p3]) (st' := [.int (nI 15), .int (nI 0), .int p2]) (E' := E) (I' := (u_I I 99 (upd (I 99) 3 (nI 0)))) (J' := J) (S' := S) am_e275 rfl rfl rfl rfl ?_
              refine w_cI am_e275 rfl rfl (as := [.int p2, .int (nI 0), .int (nI 15)]) (rest := []) rfl rfl ?_
              show am_ww 232 0 [.int p2, .int (nI 0), .int (nI 15)] [] E (u_I I 99 (upd (I 99) 3 (nI 0))) J S _
              refine w_st (i' := 1) (ls' := [.int p2, .int (nI 0), .int (nI 15)]) (st' := [.int p2]) (E' := E) (I' := (u_I I 99 (upd (I 99) 3 (nI 0)))) (J' := J) (S' := S) am_e232 rfl rfl rfl rfl ?_
              refine w_st (i' := 2) (ls' := [.int p2, .int (nI 0), .int (nI 15)]) (st' := [.int (nI 0), .int p2]) (E' := E) (I' := (u_I I 99 (upd (I 99) 3 (nI 0)))) (J' := J) (S' := S) am_e232 rfl rfl rfl rfl ?_
              refine w_if2 am_e232 rfl rfl (fun c => ?_) (fun c => ?_)
              · replace h := h.1 (of_decide_eq_true c)
                refine w_st (i' := 9) (ls' := [.int p2, .int (nI 0), .int (nI 15)]) (st' := [.int (nI 0)]) (E' := E) (I' := (u_I I 99 (upd (I 99) 3 (nI 0)))) (J' := J) (S' := S) am_e232 rfl rfl rfl rfl ?_
                refine w_end (E' := E) (I' := (u_I I 99 (upd (I 99) 3 (nI 0)))) (J' := J) (S' := S) am_e232 rfl rfl rfl (q_mkI ?_)
                show am_ww 275 38 [.ref 99, .int p1, .int p2, .int p3] [.int (nI 0)] E (u_I I 99 (upd (I 99) 3 (nI 0))) J S _
                refine w_st (i' := 53) (ls' := [.ref 99, .int p1, .int p2, .int p3]) (st' := [.int (nI 0)]) (E' := E) (I' := (u_I I 99 (upd (I 99) 3 (nI 0)))) (J' := J) (S' := S) am_e275 rfl rfl rfl rfl ?_
                refine w_end (E' := E) (I' := (u_I I 99 (upd (I 99) 3 (nI 0)))) (J' := J) (S' := S) am_e275 rfl rfl rfl (q_mkI ?_)
                show am_ww 274 18 [.ref 99, .int p1, .int p2, .int p3, .int p4] [.int (nI 0)] E (u_I I 99 (upd (I 99) 3 (nI 0))) J S _
                refine w_st (i' := 19) (ls' := [.ref 99, .int p1, .int p2, .int p3, .int p4]) (st' := []) (E' := E) (I' := (u_I I 99 (upd (I 99) 3 (nI 0)))) (J' := J) (S' := S) am_e274 rfl rfl rfl rfl ?_
                refine w_st (i' := 20) (ls' := [.ref 99, .int p1, .int p2, .int p3, .int p4]) (st' := [.ref 99]) (E' := E) (I' := (u_I I 99 (upd (I 99) 3 (nI 0)))) (J' := J) (S' := S) am_e274 rfl rfl rfl rfl ?_
                refine w_st (i' := 21) (ls' := [.ref 99, .int p1, .int p2, .int p3, .int p4]) (st' := [.int (nI 1), .ref 99]) (E' := E) (I' := (u_I I 99 (upd (I 99) 3 (nI 0)))) (J' := J) (S' := S) am_e274 rfl rfl rfl rfl ?_
                refine w_cI am_e274 rfl rfl (as := [.ref 99, .int (nI 1)]) (rest := []) rfl rfl ?_
                show am_ww 189 0 [.ref 99, .int (nI 1)] [] E (u_I I 99 (upd (I 99) 3 (nI 0))) J S _
                refine w_st (i' := 1) (ls' := [.ref 99, .int (nI 1)]) (st' := [.ref 99]) (E' := E) (I' := (u_I I 99 (upd (I 99) 3 (nI 0)))) (J' := J) (S' := S) am_e189 rfl rfl rfl rfl ?_
                refine w_st (i' := 2) (ls' := [.ref 99, .int (nI 1)]) (st' := [.int (nI 1), .ref 99]) (E' := E) (I' := (u_I I 99 (upd (I 99) 3 (nI 0)))) (J' := J) (S' := S) am_e189 rfl rfl rfl rfl ?_
                refine w_st (i' := 3) (ls' := [.ref 99, .int (nI 1)]) (st' := []) (E' := E) (I' := (u_I (u_I I 99 (upd (I 99) 3 (nI 0))) 99 (upd (upd (I 99) 3 (nI 0)) 3 (nI 1)))) (J' := J) (S' := S) am_e189 rfl rfl rfl rfl ?_
                refine w_eI (uI_0 ..) ?_
                show am_ww 189 3 [.ref 99, .int (nI 1)] [] E (u_I I 99 (upd (upd (I 99) 3 (nI 0)) 3 (nI 1))) J S _
                refine w_st (i' := 4) (ls' := [.ref 99, .int (nI 1)]) (st' := [.int (nI 0)]) (E' := E) (I' := (u_I I 99 (upd (upd (I 99) 3 (nI 0)) 3 (nI 1)))) (J' := J) (S' := S) am_e189 rfl rfl rfl rfl ?_
                refine w_end (E' := E) (I' := (u_I I 99 (upd (upd (I 99) 3 (nI 0)) 3 (nI 1)))) (J' := J) (S' := S) am_e189 rfl rfl rfl (q_mkI ?_)
                show am_ww 274 22 [.ref 99, .int p1, .int p2, .int p3, .int p4] [.int (nI 0)] E (u_I I 99 (upd (upd (I 99) 3 (nI 0)) 3 (nI 1))) J S _
                exact w_end am_e274 rfl rfl rfl h
              · replace h := h.2 (of_decide_eq_false c)
                refine w_st (i' := 4) (ls' := [.int p2, .int (nI 0), .int (nI 15)]) (st' := [.int p2]) (E' := E) (I' := (u_I I 99 (upd (I 99) 3 (nI 0)))) (J' := J) (S' := S) am_e232 rfl rfl rfl rfl ?_
                refine w_st (i' := 5) (ls' := [.int p2, .int (nI 0), .int (nI 15)]) (st' := [.int (nI 15), .int p2]) (E' := E) (I' := (u_I I 99 (upd (I 99) 3 (nI 0)))) (J' := J) (S' := S) am_e232 rfl rfl rfl rfl ?_
                refine w_if2 am_e232 rfl rfl (fun c => ?_) (fun c => ?_)
                · replace h := h.1 (of_decide_eq_true c)
                  refine w_st (i' := 9) (ls' := [.int p2, .int (nI 0), .int (nI 15)]) (st' := [.int (nI 0)]) (E' := E) (I' := (u_I I 99 (upd (I 99) 3 (nI 0)))) (J' := J) (S' := S) am_e232 rfl rfl rfl rfl ?_
                  refine w_end (E' := E) (I' := (u_I I 99 (upd (I 99) 3 (nI 0)))) (J' := J) (S' := S) am_e232 rfl rfl rfl (q_mkI ?_)
                  show am_ww 275 38 [.ref 99, .int p1, .int p2, .int p3] [.int (nI 0)] E (u_I I 99 (upd (I 99) 3 (nI 0))) J S _
                  refine w_st (i' := 53) (ls' := [.ref 99, .int p1, .int p2, .int p3]) (st' := [.int (nI 0)]) (E' := E) (I' := (u_I I 99 (upd (I 99) 3 (nI 0)))) (J' := J) (S' := S) am_e275 rfl rfl rfl rfl ?_
                  refine w_end (E' := E) (I' := (u_I I 99 (upd (I 99) 3 (nI 0)))) (J' := J) (S' := S) am_e275 rfl rfl rfl (q_mkI ?_)
                  show am_ww 274 18 [.ref 99, .int p1, .int p2, .int p3, .int p4] [.int (nI 0)] E (u_I I 99 (upd (I 99) 3 (nI 0))) J S _
                  refine w_st (i' := 19) (ls' := [.ref 99, .int p1, .int p2, .int p3, .int p4]) (st' := []) (E' := E) (I' := (u_I I 99 (upd (I 99) 3 (nI 0)))) (J' := J) (S' := S) am_e274 rfl rfl rfl rfl ?_
                  refine w_st (i' := 20) (ls' := [.ref 99, .int p1, .int p2, .int p3, .int p4]) (st' := [.ref 99]) (E' := E) (I' := (u_I I 99 (upd (I 99) 3 (nI 0)))) (J' := J) (S' := S) am_e274 rfl rfl rfl rfl ?_
                  refine w_st (i' := 21) (ls' := [.ref 99, .int p1, .int p2, .int p3, .int p4]) (st' := [.int (nI 1), .ref 99]) (E' := E) (I' := (u_I I 99 (upd (I 99) 3 (nI 0)))) (J' := J) (S' := S) am_e274 rfl rfl rfl rfl ?_
                  refine w_cI am_e274 rfl rfl (as := [.ref 99, .int (nI 1)]) (rest := []) rfl rfl ?_
                  show am_ww 189 0 [.ref 99, .int (nI 1)] [] E (u_I I 99 (upd (I 99) 3 (nI 0))) J S _
                  refine w_st (i' := 1) (ls' := [.ref 99, .int (nI 1)]) (st' := [.ref 99]) (E' := E) (I' := (u_I I 99 (upd (I 99) 3 (nI 0)))) (J' := J) (S' := S) am_e189 rfl rfl rfl rfl ?_
                  refine w_st (i' := 2) (ls' := [.ref 99, .int (nI 1)]) (st' := [.int (nI 1), .ref 99]) (E' := E) (I' := (u_I I 99 (upd (I 99) 3 (nI 0)))) (J' := J) (S' := S) am_e189 rfl rfl rfl rfl ?_
                  refine w_st (i' := 3) (ls' := [.ref 99, .int (nI 1)]) (st' := []) (E' := E) (I' := (u_I (u_I I 99 (upd (I 99) 3 (nI 0))) 99 (upd (upd (I 99) 3 (nI 0)) 3 (nI 1)))) (J' := J) (S' := S) am_e189 rfl rfl rfl rfl ?_
                  refine w_eI (uI_0 ..) ?_
                  show am_ww 189 3 [.ref 99, .int (nI 1)] [] E (u_I I 99 (upd (upd (I 99) 3 (nI 0)) 3 (nI 1))) J S _
                  refine w_st (i' := 4) (ls' := [.ref 99, .int (nI 1)]) (st' := [.int (nI 0)]) (E' := E) (I' := (u_I I 99 (upd (upd (I 99) 3 (nI 0)) 3 (nI 1)))) (J' := J) (S' := S) am_e189 rfl rfl rfl rfl ?_
                  refine w_end (E' := E) (I' := (u_I I 99 (upd (upd (I 99) 3 (nI 0)) 3 (nI 1)))) (J' := J) (S' := S) am_e189 rfl rfl rfl (q_mkI ?_)
                  show am_ww 274 22 [.ref 99, .int p1, .int p2, .int p3, .int p4] [.int (nI 0)] E (u_I I 99 (upd (upd (I 99) 3 (nI 0)) 3 (nI 1))) J S _
                  exact w_end am_e274 rfl rfl rfl h
                · replace h := h.2 (of_decide_eq_false c)
                  refine w_st (i' := 7) (ls' := [.int p2, .int (nI 0), .int (nI 15)]) (st' := [.int (nI 1)]) (E' := E) (I' := (u_I I 99 (upd (I 99) 3 (nI 0)))) (J' := J) (S' := S) am_e232 rfl rfl rfl rfl ?_
                  refine w_st (i' := 9) (ls' := [.int p2, .int (nI 0), .int (nI 15)]) (st' := [.int (nI 1)]) (E' := E) (I' := (u_I I 99 (upd (I 99) 3 (nI 0)))) (J' := J) (S' := S) am_e232 rfl rfl rfl rfl ?_
                  refine w_end (E' := E) (I' := (u_I I 99 (upd (I 99) 3 (nI 0)))) (J' := J) (S' := S) am_e232 rfl rfl rfl (q_mkI ?_)
                  show am_ww 275 38 [.ref 99, .int p1, .int p2, .int p3] [.int (nI 1)] E (u_I I 99 (upd (I 99) 3 (nI 0))) J S _
                  refine w_st (i' := 53) (ls' := [.ref 99, .int p1, .int p2, .int p3]) (st' := [.int (nI 1)]) (E' := E) (I' := (u_I I 99 (upd (I 99) 3 (nI 0)))) (J' := J) (S' := S) am_e275 rfl rfl rfl rfl ?_
                  refine w_end (E' := E) (I' := (u_I I 99 (upd (I 99) 3 (nI 0)))) (J' := J) (S' := S) am_e275 rfl rfl rfl (q_mkI ?_)
                  show am_ww 274 18 [.ref 99, .int p1, .int p2, .int p3, .int p4] [.int (nI 1)] E (u_I I 99 (upd (I 99) 3 (nI 0))) J S _
                  refine w_st (i' := 23) (ls' := [.ref 99, .int p1, .int p2, .int p3, .int p4]) (st' := []) (E' := E) (I' := (u_I I 99 (upd (I 99) 3 (nI 0)))) (J' := J) (S' := S) am_e274 rfl rfl rfl rfl ?_
                  refine w_st (i' := 24) (ls' := [.ref 99, .int p1, .int p2, .int p3, .int p4]) (st' := [.ref 99]) (E' := E) (I' := (u_I I 99 (upd (I 99) 3 (nI 0)))) (J' := J) (S' := S) am_e274 rfl rfl rfl rfl ?_
                  refine w_st (i' := 25) (ls' := [.ref 99, .int p1, .int p2, .int p3, .int p4]) (st' := [.int p1, .ref 99]) (E' := E) (I' := (u_I I 99 (upd (I 99) 3 (nI 0)))) (J' := J) (S' := S) am_e274 rfl rfl rfl rfl ?_
                  refine w_st (i' := 26) (ls' := [.ref 99, .int p1, .int p2, .int p3, .int p4]) (st' := []) (E' := E) (I' := (u_I (u_I I 99 (upd (I 99) 3 (nI 0))) 99 (upd (upd (I 99) 3 (nI 0)) 51 p1))) (J' := J) (S' := S) am_e274 rfl rfl rfl rfl ?_
                  refine w_eI (uI_0 ..) ?_
                  show am_ww 274 26 [.ref 99, .int p1, .int p2, .int p3, .int p4] [] E (u_I I 99 (upd (upd (I 99) 3 (nI 0)) 51 p1)) J S _
                  refine w_st (i' := 27) (ls' := [.ref 99, .int p1, .int p2, .int p3, .int p4]) (st' := [.ref 99]) (E' := E) (I' := (u_I I 99 (upd (upd (I 99) 3 (nI 0)) 51 p1))) (J' := J) (S' := S) am_e274 rfl rfl rfl rfl ?_
                  refine w_st (i' := 28) (ls' := [.ref 99, .int p1, .int p2, .int p3, .int p4]) (st' := [.int p2, .ref 99]) (E' := E) (I' := (u_I I 99 (upd (upd (I 99) 3 (nI 0)) 51 p1))) (J' := J) (S' := S) am_e274 rfl rfl rfl rfl ?_
                  refine w_st (i' := 29) (ls' := [.ref 99, .int p1, .int p2, .int p3, .int p4]) (st' := []) (E' := E) (I' := (u_I (u_I I 99 (upd (upd (I 99) 3 (nI 0)) 51 p1)) 99 (upd (upd (upd (I 99) 3 (nI 0)) 51 p1) 52 p2))) (J' := J) (S' := S) am_e274 rfl rfl rfl rfl ?_
                  refine w_eI (uI_0 ..) ?_
                  show am_ww 274 29 [.ref 99, .int p1, .int p2, .int p3, .int p4] [] E (u_I I 99 (upd (upd (upd (I 99) 3 (nI 0)) 51 p1) 52 p2)) J S _
                  refine w_st (i' := 30) (ls' := [.ref 99, .int p1, .int p2, .int p3, .int p4]) (st' := [.ref 99]) (E' := E) (I' := (u_I I 99 (upd (upd (upd (I 99) 3 (nI 0)) 51 p1) 52 p2))) (J' := J) (S' := S) am_e274 rfl rfl rfl rfl ?_
                  refine w_st (i' := 31) (ls' := [.ref 99, .int p1, .int p2, .int p3, .int p4]) (st' := [.int p3, .ref 99]) (E' := E) (I' := (u_I I 99 (upd (upd (upd (I 99) 3 (nI 0)) 51 p1) 52 p2))) (J' := J) (S' := S) am_e274 rfl rfl rfl rfl ?_
                  refine w_st (i' := 32) (ls' := [.ref 99, .int p1, .int p2, .int p3, .int p4]) (st' := []) (E' := E) (I' := (u_I (u_I I 99 (upd (upd (upd (I 99) 3 (nI 0)) 51 p1) 52 p2)) 99 (upd (upd (upd (upd (I 99) 3 (nI 0)) 51 p1) 52 p2) 53 p3))) (J' := J) (S' := S) am_e274 rfl rfl rfl rfl ?_
                  refine w_eI (uI_0 ..) ?_
                  show am_ww 274 32 [.ref 99, .int p1, .int p2, .int p3, .int p4] [] E (u_I I 99 (upd (upd (upd (upd (I 99) 3 (nI 0)) 51 p1) 52 p2) 53 p3)) J S _
                  refine w_st (i' := 33) (ls' := [.ref 99, .int p1, .int p2, .int p3, .int p4]) (st' := [.ref 99]) (E' := E) (I' := (u_I I 99 (upd (upd (upd (upd (I 99) 3 (nI 0)) 51 p1) 52 p2) 53 p3))) (J' := J) (S' := S) am_e274 rfl rfl rfl rfl ?_
                  refine w_cV am_e274 rfl rfl (as := [.ref 99]) (rest := []) rfl rfl (am_ww.mono h ?_)
                  rintro _ E7 I7 J7 S7 ⟨rfl, h⟩
                  refine q_mkV ?_
                  refine w_st (i' := 35) (ls' := [.ref 99, .int p1, .int p2, .int p3, .int p4]) (st' := [.int p4]) (E' := E7) (I' := I7) (J' := J7) (S' := S7) am_e274 rfl rfl rfl rfl ?_
                  refine w_mg (i := 47) (ls' := [.ref 99, .int p1, .int p2, .int p3, .int p4]) (st' := [.int (if p4 = 0 then ((I7 99) 54) else (if p4 = (nI 1) then ((I7 99) 55) else ((I7 99) 56)))]) (fun hm => ?_) ?_
                  · clear h
                    refine w_if1 am_e274 rfl rfl (fun c => ?_) (fun c => ?_)
                    · have m8 : ¬ (p4 = 0) := (of_decide_eq_true c)
                      refine w_st (i' := 40) (ls' := [.ref 99, .int p1, .int p2, .int p3, .int p4]) (st' := [.int p4]) (E' := E7) (I' := I7) (J' := J7) (S' := S7) am_e274 rfl rfl rfl rfl ?_
                      refine w_st (i' := 41) (ls' := [.ref 99, .int p1, .int p2, .int p3, .int p4]) (st' := [.int (nI 1), .int p4]) (E' := E7) (I' := I7) (J' := J7) (S' := S7) am_e274 rfl rfl rfl rfl ?_
                      refine w_if2 am_e274 rfl rfl (fun c => ?_) (fun c => ?_)
                      · have m9 : ¬ (p4 = (nI 1)) := (of_decide_eq_true c)
                        refine w_st (i' := 46) (ls' := [.ref 99, .int p1, .int p2, .int p3, .int p4]) (st' := [.ref 99]) (E' := E7) (I' := I7) (J' := J7) (S' := S7) am_e274 rfl rfl rfl rfl ?_
                        refine w_st (i' := 47) (ls' := [.ref 99, .int p1, .int p2, .int p3, .int p4]) (st' := [.int ((I7 99) 56)]) (E' := E7) (I' := I7) (J' := J7) (S' := S7) am_e274 rfl rfl rfl rfl ?_
                        first | exact hm | (simp only [if_neg m8, if_neg m9] at hm; exact hm)
                      · have m9 : p4 = (nI 1) := (Decidable.not_not.mp (of_decide_eq_false c))
                        refine w_st (i' := 43) (ls' := [.ref 99, .int p1, .int p2, .int p3, .int p4]) (st' := [.ref 99]) (E' := E7) (I' := I7) (J' := J7) (S' := S7) am_e274 rfl rfl rfl rfl ?_
                        refine w_st (i' := 44) (ls' := [.ref 99, .int p1, .int p2, .int p3, .int p4]) (st' := [.int ((I7 99) 55)]) (E' := E7) (I' := I7) (J' := J7) (S' := S7) am_e274 rfl rfl rfl rfl ?_
                        refine w_st (i' := 47) (ls' := [.ref 99, .int p1, .int p2, .int p3, .int p4]) (st' := [.int ((I7 99) 55)]) (E' := E7) (I' := I7) (J' := J7) (S' := S7) am_e274 rfl rfl rfl rfl ?_
                        first | exact hm | (simp only [if_neg m8, if_pos m9] at hm; exact hm)
                    · have m8 : p4 = 0 := (Decidable.not_not.mp (of_decide_eq_false c))
                      refine w_st (i' := 37) (ls' := [.ref 99, .int p1, .int p2, .int p3, .int p4]) (st' := [.ref 99]) (E' := E7) (I' := I7) (J' := J7) (S' := S7) am_e274 rfl rfl rfl rfl ?_
                      refine w_st (i' := 38) (ls' := [.ref 99, .int p1, .int p2, .int p3, .int p4]) (st' := [.int ((I7 99) 54)]) (E' := E7) (I' := I7) (J' := J7) (S' := S7) am_e274 rfl rfl rfl rfl ?_
                      refine w_st (i' := 47) (ls' := [.ref 99, .int p1, .int p2, .int p3, .int p4]) (st' := [.int ((I7 99) 54)]) (E' := E7) (I' := I7) (J' := J7) (S' := S7) am_e274 rfl rfl rfl rfl ?_
                      first | exact hm | (simp only [if_pos m8] at hm; exact hm)
                  refine w_var (fun w10 => am_ww 274 47 [.ref 99, .int p1, .int p2, .int p3, .int p4] [.int w10] E7 I7 J7 S7 _) (if p4 = 0 then ((I7 99) 54) else (if p4 = (nI 1) then ((I7 99) 55) else ((I7 99) 56))) (fun w10 hw10 => ?_)
                  replace h := h w10 hw10
                  exact w_ri am_e274 rfl rfl h
          · replace h := h.2 (of_decide_eq_false c)
            refine w_st (i' := 4) (ls' := [.ref 99, .int p1, .int p2, .int p3]) (st' := [.int p2]) (E' := E) (I' := (u_I I 99 (upd (I 99) 3 (nI 0)))) (J' := J) (S' := S) am_e275 rfl rfl rfl rfl ?_
            refine w_st (i' := 5) (ls' := [.ref 99, .int p1, .int p2, .int p3]) (st' := [.int (nI 0), .int p2]) (E' := E) (I' := (u_I I 99 (upd (I 99) 3 (nI 0)))) (J' := J) (S' := S) am_e275 rfl rfl rfl rfl ?_
            refine w_st (i' := 6) (ls' := [.ref 99, .int p1, .int p2, .int p3]) (st' := [.ref 99, .int (nI 0), .int p2]) (E' := E) (I' := (u_I I 99 (upd (I 99) 3 (nI 0)))) (J' := J) (S' := S) am_e275 rfl rfl rfl rfl ?_
            refine w_st (i' := 7) (ls' := [.ref 99, .int p1, .int p2, .int p3]) (st' := [.ref 99, .ref 99, .int (nI 0), .int p2]) (E' := E) (I' := (u_I I 99 (upd (I 99) 3 (nI 0)))) (J' := J) (S' := S) am_e275 rfl rfl rfl rfl ?_
            refine w_st (i' := 8) (ls' := [.ref 99, .int p1, .int p2, .int p3]) (st' := [.int ((I 99) 12), .ref 99, .int (nI 0), .int p2]) (E' := E) (I' := (u_I I 99 (upd (I 99) 3 (nI 0)))) (J' := J) (S' := S) am_e275 rfl rfl rfl rfl ?_
            refine w_st (i' := 9) (ls' := [.ref 99, .int p1, .int p2, .int p3]) (st' := [.int (nI 47), .int ((I 99) 12), .ref 99, .int (nI 0), .int p2]) (E' := E) (I' := (u_I I 99 (upd (I 99) 3 (nI 0)))) (J' := J) (S' := S) am_e275 rfl rfl rfl rfl ?_
            refine w_cI am_e275 rfl rfl (as := [.ref 99, .int ((I 99) 12), .int (nI 47)]) (rest := [.int (nI 0), .int p2]) rfl rfl ?_
            show am_ww 245 0 [.ref 99, .int ((I 99) 12), .int (nI 47)] [] E (u_I I 99 (upd (I 99) 3 (nI 0))) J S _
            refine w_st (i' := 1) (ls' := [.ref 99, .int ((I 99) 12), .int (nI 47)]) (st' := [.ref 99]) (E' := E) (I' := (u_I I 99 (upd (I 99) 3 (nI 0)))) (J' := J) (S' := S) am_e245 rfl rfl rfl rfl ?_
            refine w_st (i' := 2) (ls' := [.ref 99, .int ((I 99) 12), .int (nI 47)]) (st' := [.ref 117]) (E' := E) (I' := (u_I I 99 (upd (I 99) 3 (nI 0)))) (J' := J) (S' := S) am_e245 rfl rfl rfl rfl ?_
            refine w_st (i' := 3) (ls' := [.ref 99, .int ((I 99) 12), .int (nI 47)]) (st' := [.int (nI 51), .ref 117]) (E' := E) (I' := (u_I I 99 (upd (I 99) 3 (nI 0)))) (J' := J) (S' := S) am_e245 rfl rfl rfl rfl ?_
            refine w_st (i' := 4) (ls' := [.ref 99, .int ((I 99) 12), .int (nI 47)]) (st' := [.int ((I 99) 12), .int (nI 51), .ref 117]) (E' := E) (I' := (u_I I 99 (upd (I 99) 3 (nI 0)))) (J' := J) (S' := S) am_e245 rfl rfl rfl rfl ?_
            refine w_st (i' := 5) (ls' := [.ref 99, .int ((I 99) 12), .int (nI 47)]) (st' := [.int ((nI 51) * ((I 99) 12)), .ref 117]) (E' := E) (I' := (u_I I 99 (upd (I 99) 3 (nI 0)))) (J' := J) (S' := S) am_e245 rfl rfl rfl rfl ?_
            refine w_st (i' := 6) (ls' := [.ref 99, .int ((I 99) 12), .int (nI 47)]) (st' := [.int (nI 47), .int ((nI 51) * ((I 99) 12)), .ref 117]) (E' := E) (I' := (u_I I 99 (upd (I 99) 3 (nI 0)))) (J' := J) (S' := S) am_e245 rfl rfl rfl rfl ?_
            refine w_st (i' := 7) (ls' := [.ref 99, .int ((I 99) 12), .int (nI 47)]) (st' := [.int (((nI 51) * ((I 99) 12)) + (nI 47)), .ref 117]) (E' := E) (I' := (u_I I 99 (upd (I 99) 3 (nI 0)))) (J' := J) (S' := S) am_e245 rfl rfl rfl rfl ?_
            have hf11 := h.1
            replace h := h.2
            refine w_ia (k := 117) (n := 20451) (jn := (((nI 51) * ((I 99) 12)) + (nI 47)).toNatClampNeg) am_e245 rfl rfl (by decide) hf11 rfl ?_
            show am_ww 245 8 [.ref 99, .int ((I 99) 12), .int (nI 47)] [.int ((I 117) ((((nI 51) * ((I 99) 12)) + (nI 47)).toNatClampNeg))] E (u_I I 99 (upd (I 99) 3 (nI 0))) J S _
            refine w_ri am_e245 rfl rfl (q_mkI ?_)
            show am_ww 275 10 [.ref 99, .int p1, .int p2, .int p3] [.int ((I 117) ((((nI 51) * ((I 99) 12)) + (nI 47)).toNatClampNeg)), .int (nI 0), .int p2] E (u_I I 99 (upd (I 99) 3 (nI 0))) J S _
            refine w_var (fun w12 => am_ww 275 10 [.ref 99, .int p1, .int p2, .int p3] [.int w12, .int (nI 0), .int p2] E (u_I I 99 (upd (I 99) 3 (nI 0))) J S _) ((I 117) ((((nI 51) * ((I 99) 12)) + (nI 47)).toNatClampNeg)) (fun w12 hw12 => ?_)
            replace h := h w12 hw12
            refine w_st (i' := 11) (ls' := [.ref 99, .int p1, .int p2, .int p3]) (st' := [.int (nI 1), .int w12, .int (nI 0), .int p2]) (E' := E) (I' := (u_I I 99 (upd (I 99) 3 (nI 0)))) (J' := J) (S' := S) am_e275 rfl rfl rfl rfl ?_
            refine w_st (i' := 12) (ls' := [.ref 99, .int p1, .int p2, .int p3]) (st' := [.int (w12 - (nI 1)), .int (nI 0), .int p2]) (E' := E) (I' := (u_I I 99 (upd (I 99) 3 (nI 0)))) (J' := J) (S' := S) am_e275 rfl rfl rfl rfl ?_
            refine w_cI am_e275 rfl rfl (as := [.int p2, .int (nI 0), .int (w12 - (nI 1))]) (rest := []) rfl rfl ?_
            show am_ww 232 0 [.int p2, .int (nI 0), .int (w12 - (nI 1))] [] E (u_I I 99 (upd (I 99) 3 (nI 0))) J S _
            refine w_st (i' := 1) (ls' := [.int p2, .int (nI 0), .int (w12 - (nI 1))]) (st' := [.int p2]) (E' := E) (I' := (u_I I 99 (upd (I 99) 3 (nI 0)))) (J' := J) (S' := S) am_e232 rfl rfl rfl rfl ?_
            refine w_st (i' := 2) (ls' := [.int p2, .int (nI 0), .int (w12 - (nI 1))]) (st' := [.int (nI 0), .int p2]) (E' := E) (I' := (u_I I 99 (upd (I 99) 3 (nI 0)))) (J' := J) (S' := S) am_e232 rfl rfl rfl rfl ?_
            refine w_if2 am_e232 rfl rfl (fun c => ?_) (fun c => ?_)
            · replace h := h.1 (of_decide_eq_true c)
              refine w_st (i' := 9) (ls' := [.int p2, .int (nI 0), .int (w12 - (nI 1))]) (st' := [.int (nI 0)]) (E' := E) (I' := (u_I I 99 (upd (I 99) 3 (nI 0)))) (J' := J) (S' := S) am_e232 rfl rfl rfl rfl ?_
              refine w_end (E' := E) (I' := (u_I I 99 (upd (I 99) 3 (nI 0)))) (J' := J) (S' := S) am_e232 rfl rfl rfl (q_mkI ?_)
              show am_ww 275 13 [.ref 99, .int p1, .int p2, .int p3] [.int (nI 0)] E (u_I I 99 (upd (I 99) 3 (nI 0))) J S _
              refine w_st (i' := 29) (ls' := [.ref 99, .int p1, .int p2, .int p3]) (st' := []) (E' := E) (I' := (u_I I 99 (upd (I 99) 3 (nI 0)))) (J' := J) (S' := S) am_e275 rfl rfl rfl rfl ?_
              refine w_st (i' := 30) (ls' := [.ref 99, .int p1, .int p2, .int p3]) (st' := [.int (nI 0)]) (E' := E) (I' := (u_I I 99 (upd (I 99) 3 (nI 0)))) (J' := J) (S' := S) am_e275 rfl rfl rfl rfl ?_
              refine w_end (E' := E) (I' := (u_I I 99 (upd (I 99) 3 (nI 0)))) (J' := J) (S' := S) am_e275 rfl rfl rfl (q_mkI ?_)
              show am_ww 274 18 [.ref 99, .int p1, .int p2, .int p3, .int p4] [.int (nI 0)] E (u_I I 99 (upd (I 99) 3 (nI 0))) J S _
              refine w_st (i' := 19) (ls' := [.ref 99, .int p1, .int p2, .int p3, .int p4]) (st' := []) (E' := E) (I' := (u_I I 99 (upd (I 99) 3 (nI 0)))) (J' := J) (S' := S) am_e274 rfl rfl rfl rfl ?_
              refine w_st (i' := 20) (ls' := [.ref 99, .int p1, .int p2, .int p3, .int p4]) (st' := [.ref 99]) (E' := E) (I' := (u_I I 99 (upd (I 99) 3 (nI 0)))) (J' := J) (S' := S) am_e274 rfl rfl rfl rfl ?_
              refine w_st (i' := 21) (ls' := [.ref 99, .int p1, .int p2, .int p3, .int p4]) (st' := [.int (nI 1), .ref 99]) (E' := E) (I' := (u_I I 99 (upd (I 99) 3 (nI 0)))) (J' := J) (S' := S) am_e274 rfl rfl rfl rfl ?_
              refine w_cI am_e274 rfl rfl (as := [.ref 99, .int (nI 1)]) (rest := []) rfl rfl ?_
              show am_ww 189 0 [.ref 99, .int (nI 1)] [] E (u_I I 99 (upd (I 99) 3 (nI 0))) J S _
              refine w_st (i' := 1) (ls' := [.ref 99, .int (nI 1)]) (st' := [.ref 99]) (E' := E) (I' := (u_I I 99 (upd (I 99) 3 (nI 0)))) (J' := J) (S' := S) am_e189 rfl rfl rfl rfl ?_
              refine w_st (i' := 2) (ls' := [.ref 99, .int (nI 1)]) (st' := [.int (nI 1), .ref 99]) (E' := E) (I' := (u_I I 99 (upd (I 99) 3 (nI 0)))) (J' := J) (S' := S) am_e189 rfl rfl rfl rfl ?_
              refine w_st (i' := 3) (ls' := [.ref 99, .int (nI 1)]) (st' := []) (E' := E) (I' := (u_I (u_I I 99 (upd (I 99) 3 (nI 0))) 99 (upd (upd (I 99) 3 (nI 0)) 3 (nI 1)))) (J' := J) (S' := S) am_e189 rfl rfl rfl rfl ?_
              refine w_eI (uI_0 ..) ?_
              show am_ww 189 3 [.ref 99, .int (nI 1)] [] E (u_I I 99 (upd (upd (I 99) 3 (nI 0)) 3 (nI 1))) J S _
              refine w_st (i' := 4) (ls' := [.ref 99, .int (nI 1)]) (st' := [.int (nI 0)]) (E' := E) (I' := (u_I I 99 (upd (upd (I 99) 3 (nI 0)) 3 (nI 1)))) (J' := J) (S' := S) am_e189 rfl rfl rfl rfl ?_
              refine w_end (E' := E) (I' := (u_I I 99 (upd (upd (I 99) 3 (nI 0)) 3 (nI 1)))) (J' := J) (S' := S) am_e189 rfl rfl rfl (q_mkI ?_)
              show am_ww 274 22 [.ref 99, .int p1, .int p2, .int p3, .int p4] [.int (nI 0)] E (u_I I 99 (upd (upd (I 99) 3 (nI 0)) 3 (nI 1))) J S _
              exact w_end am_e274 rfl rfl rfl h
            · replace h := h.2 (of_decide_eq_false c)
              refine w_st (i' := 4) (ls' := [.int p2, .int (nI 0), .int (w12 - (nI 1))]) (st' := [.int p2]) (E' := E) (I' := (u_I I 99 (upd (I 99) 3 (nI 0)))) (J' := J) (S' := S) am_e232 rfl rfl rfl rfl ?_
              refine w_st (i' := 5) (ls' := [.int p2, .int (nI 0), .int (w12 - (nI 1))]) (st' := [.int (w12 - (nI 1)), .int p2]) (E' := E) (I' := (u_I I 99 (upd (I 99) 3 (nI 0)))) (J' := J) (S' := S) am_e232 rfl rfl rfl rfl ?_
              refine w_if2 am_e232 rfl rfl (fun c => ?_) (fun c => ?_)
              · replace h := h.1 (of_decide_eq_true c)
                refine w_st (i' := 9) (ls' := [.int p2, .int (nI 0), .int (w12 - (nI 1))]) (st' := [.int (nI 0)]) (E' := E) (I' := (u_I I 99 (upd (I 99) 3 (nI 0)))) (J' := J) (S' := S) am_e232 rfl rfl rfl rfl ?_
                refine w_end (E' := E) (I' := (u_I I 99 (upd (I 99) 3 (nI 0)))) (J' := J) (S' := S) am_e232 rfl rfl rfl (q_mkI ?_)
                show am_ww 275 13 [.ref 99, .int p1, .int p2, .int p3] [.int (nI 0)] E (u_I I 99 (upd (I 99) 3 (nI 0))) J S _
                refine w_st (i' := 29) (ls' := [.ref 99, .int p1, .int p2, .int p3]) (st' := []) (E' := E) (I' := (u_I I 99 (upd (I 99) 3 (nI 0)))) (J' := J) (S' := S) am_e275 rfl rfl rfl rfl ?_
                refine w_st (i' := 30) (ls' := [.ref 99, .int p1, .int p2, .int p3]) (st' := [.int (nI 0)]) (E' := E) (I' := (u_I I 99 (upd (I 99) 3 (nI 0)))) (J' := J) (S' := S) am_e275 rfl rfl rfl rfl ?_
                refine w_end (E' := E) (I' := (u_I I 99 (upd (I 99) 3 (nI 0)))) (J' := J) (S' := S) am_e275 rfl rfl rfl (q_mkI ?_)
                show am_ww 274 18 [.ref 99, .int p1, .int p2, .int p3, .int p4] [.int (nI 0)] E (u_I I 99 (upd (I 99) 3 (nI 0))) J S _
                refine w_st (i' := 19) (ls' := [.ref 99, .int p1, .int p2, .int p3, .int p4]) (st' := []) (E' := E) (I' := (u_I I 99 (upd (I 99) 3 (nI 0)))) (J' := J) (S' := S) am_e274 rfl rfl rfl rfl ?_
                refine w_st (i' := 20) (ls' := [.ref 99, .int p1, .int p2, .int p3, .int p4]) (st' := [.ref 99]) (E' := E) (I' := (u_I I 99 (upd (I 99) 3 (nI 0)))) (J' := J) (S' := S) am_e274 rfl rfl rfl rfl ?_
                refine w_st (i' := 21) (ls' := [.ref 99, .int p1, .int p2, .int p3, .int p4]) (st' := [.int (nI 1), .ref 99]) (E' := E) (I' := (u_I I 99 (upd (I 99) 3 (nI 0)))) (J' := J) (S' := S) am_e274 rfl rfl rfl rfl ?_
                refine w_cI am_e274 rfl rfl (as := [.ref 99, .int (nI 1)]) (rest := []) rfl rfl ?_
                show am_ww 189 0 [.ref 99, .int (nI 1)] [] E (u_I I 99 (upd (I 99) 3 (nI 0))) J S _
                refine w_st (i' := 1) (ls' := [.ref 99, .int (nI 1)]) (st' := [.ref 99]) (E' := E) (I' := (u_I I 99 (upd (I 99) 3 (nI 0)))) (J' := J) (S' := S) am_e189 rfl rfl rfl rfl ?_
                refine w_st (i' := 2) (ls' := [.ref 99, .int (nI 1)]) (st' := [.int (nI 1), .ref 99]) (E' := E) (I' := (u_I I 99 (upd (I 99) 3 (nI 0)))) (J' := J) (S' := S) am_e189 rfl rfl rfl rfl ?_
                refine w_st (i' := 3) (ls' := [.ref 99, .int (nI 1)]) (st' := []) (E' := E) (I' := (u_I (u_I I 99 (upd (I 99) 3 (nI 0))) 99 (upd (upd (I 99) 3 (nI 0)) 3 (nI 1)))) (J' := J) (S' := S) am_e189 rfl rfl rfl rfl ?_
                refine w_eI (uI_0 ..) ?_
                show am_ww 189 3 [.ref 99, .int (nI 1)] [] E (u_I I 99 (upd (upd (I 99) 3 (nI 0)) 3 (nI 1))) J S _
                refine w_st (i' := 4) (ls' := [.ref 99, .int (nI 1)]) (st' := [.int (nI 0)]) (E' := E) (I' := (u_I I 99 (upd (upd (I 99) 3 (nI 0)) 3 (nI 1)))) (J' := J) (S' := S) am_e189 rfl rfl rfl rfl ?_
                refine w_end (E' := E) (I' := (u_I I 99 (upd (upd (I 99) 3 (nI 0)) 3 (nI 1)))) (J' := J) (S' := S) am_e189 rfl rfl rfl (q_mkI ?_)
                show am_ww 274 22 [.ref 99, .int p1, .int p2, .int p3, .int p4] [.int (nI 0)] E (u_I I 99 (upd (upd (I 99) 3 (nI 0)) 3 (nI 1))) J S _
                exact w_end am_e274 rfl rfl rfl h
              · replace h := h.2 (of_decide_eq_false c)
                refine w_st (i' := 7) (ls' := [.int p2, .int (nI 0), .int (w12 - (nI 1))]) (st' := [.int (nI 1)]) (E' := E) (I' := (u_I I 99 (upd (I 99) 3 (nI 0)))) (J' := J) (S' := S) am_e232 rfl rfl rfl rfl ?_
                refine w_st (i' := 9) (ls' := [.int p2, .int (nI 0), .int (w12 - (nI 1))]) (st' := [.int (nI 1)]) (E' := E) (I' := (u_I I 99 (upd (I 99) 3 (nI 0)))) (J' := J) (S' := S) am_e232 rfl rfl rfl rfl ?_
                refine w_end (E' := E) (I' := (u_I I 99 (upd (I 99) 3 (nI 0)))) (J' := J) (S' := S) am_e232 rfl rfl rfl (q_mkI ?_)
                show am_ww 275 13 [.ref 99, .int p1, .int p2, .int p3] [.int (nI 1)] E (u_I I 99 (upd (I 99) 3 (nI 0))) J S _
                refine w_st (i' := 14) (ls' := [.ref 99, .int p1, .int p2, .int p3]) (st' := []) (E' := E) (I' := (u_I I 99 (upd (I 99) 3 (nI 0)))) (J' := J) (S' := S) am_e275 rfl rfl rfl rfl ?_
                refine w_st (i' := 15) (ls' := [.ref 99, .int p1, .int p2, .int p3]) (st' := [.int p1]) (E' := E) (I' := (u_I I 99 (upd (I 99) 3 (nI 0)))) (J' := J) (S' := S) am_e275 rfl rfl rfl rfl ?_
                refine w_st (i' := 16) (ls' := [.ref 99, .int p1, .int p2, .int p3]) (st' := [.int (nI 1), .int p1]) (E' := E) (I' := (u_I I 99 (upd (I 99) 3 (nI 0)))) (J' := J) (S' := S) am_e275 rfl rfl rfl rfl ?_
                refine w_if2 am_e275 rfl rfl (fun c => ?_) (fun c => ?_)
                · replace h := h.1 (of_decide_eq_true c)
                  refine w_st (i' := 28) (ls' := [.ref 99, .int p1, .int p2, .int p3]) (st' := [.int (nI 1)]) (E' := E) (I' := (u_I I 99 (upd (I 99) 3 (nI 0)))) (J' := J) (S' := S) am_e275 rfl rfl rfl rfl ?_
                  refine w_st (i' := 30) (ls' := [.ref 99, .int p1, .int p2, .int p3]) (st' := [.int (nI 1)]) (E' := E) (I' := (u_I I 99 (upd (I 99) 3 (nI 0)))) (J' := J) (S' := S) am_e275 rfl rfl rfl rfl ?_
                  refine w_end (E' := E) (I' := (u_I I 99 (upd (I 99) 3 (nI 0)))) (J' := J) (S' := S) am_e275 rfl rfl rfl (q_mkI ?_)
                  show am_ww 274 18 [.ref 99, .int p1, .int p2, .int p3, .int p4] [.int (nI 1)] E (u_I I 99 (upd (I 99) 3 (nI 0))) J S _
                  refine w_st (i' := 23) (ls' := [.ref 99, .int p1, .int p2, .int p3, .int p4]) (st' := []) (E' := E) (I' := (u_I I 99 (upd (I 99) 3 (nI 0)))) (J' := J) (S' := S) am_e274 rfl rfl rfl rfl ?_
                  refine w_st (i' := 24) (ls' := [.ref 99, .int p1, .int p2, .int p3, .int p4]) (st' := [.ref 99]) (E' := E) (I' := (u_I I 99 (upd (I 99) 3 (nI 0)))) (J' := J) (S' := S) am_e274 rfl rfl rfl rfl ?_
                  refine w_st (i' := 25) (ls' := [.ref 99, .int p1, .int p2, .int p3, .int p4]) (st' := [.int p1, .ref 99]) (E' := E) (I' := (u_I I 99 (upd (I 99) 3 (nI 0)))) (J' := J) (S' := S) am_e274 rfl rfl rfl rfl ?_
                  refine w_st (i' := 26) (ls' := [.ref 99, .int p1, .int p2, .int p3, .int p4]) (st' := []) (E' := E) (I' := (u_I (u_I I 99 (upd (I 99) 3 (nI 0))) 99 (upd (upd (I 99) 3 (nI 0)) 51 p1))) (J' := J) (S' := S) am_e274 rfl rfl rfl rfl ?_
                  refine w_eI (uI_0 ..) ?_
                  show am_ww 274 26 [.ref 99, .int p1, .int p2, .int p3, .int p4] [] E (u_I I 99 (upd (upd (I 99) 3 (nI 0)) 51 p1)) J S _
                  refine w_st (i' := 27) (ls' := [.ref 99, .int p1, .int p2, .int p3, .int p4]) (st' := [.ref 99]) (E' := E) (I' := (u_I I 99 (upd (upd (I 99) 3 (nI 0)) 51 p1))) (J' := J) (S' := S) am_e274 rfl rfl rfl rfl ?_
                  refine w_st (i' := 28) (ls' := [.ref 99, .int p1, .int p2, .int p3, .int p4]) (st' := [.int p2, .ref 99]) (E' := E) (I' := (u_I I 99 (upd (upd (I 99) 3 (nI 0)) 51 p1))) (J' := J) (S' := S) am_e274 rfl rfl rfl rfl ?_
                  refine w_st (i' := 29) (ls' := [.ref 99, .int p1, .int p2, .int p3, .int p4]) (st' := []) (E' := E) (I' := (u_I (u_I I 99 (upd (upd (I 99) 3 (nI 0)) 51 p1)) 99 (upd (upd (upd (I 99) 3 (nI 0)) 51 p1) 52 p2))) (J' := J) (S' := S) am_e274 rfl rfl rfl rfl ?_
                  refine w_eI (uI_0 ..) ?_
                  show am_ww 274 29 [.ref 99, .int p1, .int p2, .int p3, .int p4] [] E (u_I I 99 (upd (upd (upd (I 99) 3 (nI 0)) 51 p1) 52 p2)) J S _
                  refine w_st (i' := 30) (ls' := [.ref 99, .int p1, .int p2, .int p3, .int p4]) (st' := [.ref 99]) (E' := E) (I' := (u_I I 99 (upd (upd (upd (I 99) 3 (nI 0)) 51 p1) 52 p2))) (J' := J) (S' := S) am_e274 rfl rfl rfl rfl ?_
                  refine w_st (i' := 31) (ls' := [.ref 99, .int p1, .int p2, .int p3, .int p4]) (st' := [.int p3, .ref 99]) (E' := E) (I' := (u_I I 99 (upd (upd (upd (I 99) 3 (nI 0)) 51 p1) 52 p2))) (J' := J) (S' := S) am_e274 rfl rfl rfl rfl ?_
                  refine w_st (i' := 32) (ls' := [.ref 99, .int p1, .int p2, .int p3, .int p4]) (st' := []) (E' := E) (I' := (u_I (u_I I 99 (upd (upd (upd (I 99) 3 (nI 0)) 51 p1) 52 p2)) 99 (upd (upd (upd (upd (I 99) 3 (nI 0)) 51 p1) 52 p2) 53 p3))) (J' := J) (S' := S) am_e274 rfl rfl rfl rfl ?_
                  refine w_eI (uI_0 ..) ?_
                  show am_ww 274 32 [.ref 99, .int p1, .int p2, .int p3, .int p4] [] E (u_I I 99 (upd (upd (upd (upd (I 99) 3 (nI 0)) 51 p1) 52 p2) 53 p3)) J S _
                  refine w_st (i' := 33) (ls' := [.ref 99, .int p1, .int p2, .int p3, .int p4]) (st' := [.ref 99]) (E' := E) (I' := (u_I I 99 (upd (upd (upd (upd (I 99) 3 (nI 0)) 51 p1) 52 p2) 53 p3))) (J' := J) (S' := S) am_e274 rfl rfl rfl rfl ?_
                  refine w_cV am_e274 rfl rfl (as := [.ref 99]) (rest := []) rfl rfl (am_ww.mono h ?_)
                  rintro _ E13 I13 J13 S13 ⟨rfl, h⟩
                  refine q_mkV ?_
                  refine w_st (i' := 35) (ls' := [.ref 99, .int p1, .int p2, .int p3, .int p4]) (st' := [.int p4]) (E' := E13) (I' := I13) (J' := J13) (S' := S13) am_e274 rfl rfl rfl rfl ?_
                  refine w_mg (i := 47) (ls' := [.ref 99, .int p1, .int p2, .int p3, .int p4]) (st' := [.int (if p4 = 0 then ((I13 99) 54) else (if p4 = (nI 1) then ((I13 99) 55) else ((I13 99) 56)))]) (fun hm => ?_) ?_
                  · clear h
                    refine w_if1 am_e274 rfl rfl (fun c => ?_) (fun c => ?_)
                    · have m14 : ¬ (p4 = 0) := (of_decide_eq_true c)
                      refine w_st (i' := 40) (ls' := [.ref 99, .int p1, .int p2, .int p3, .int p4]) (st' := [.int p4]) (E' := E13) (I' := I13) (J' := J13) (S' := S13) am_e274 rfl rfl rfl rfl ?_
                      refine w_st (i' := 41) (ls' := [.ref 99, .int p1, .int p2, .int p3, .int p4]) (st' := [.int (nI 1), .int p4]) (E' := E13) (I' := I13) (J' := J13) (S' := S13) am_e274 rfl rfl rfl rfl ?_
                      refine w_if2 am_e274 rfl rfl (fun c => ?_) (fun c => ?_)
                      · have m15 : ¬ (p4 = (nI 1)) := (of_decide_eq_true c)
                        refine w_st (i' := 46) (ls' := [.ref 99, .int p1, .int p2, .int p3, .int p4]) (st' := [.ref 99]) (E' := E13) (I' := I13) (J' := J13) (S' := S13) am_e274 rfl rfl rfl rfl ?_
                        refine w_st (i' := 47) (ls' := [.ref 99, .int p1, .int p2, .int p3, .int p4]) (st' := [.int ((I13 99) 56)]) (E' := E13) (I' := I13) (J' := J13) (S' := S13) am_e274 rfl rfl rfl rfl ?_
                        first | exact hm | (simp only [if_neg m14, if_neg m15] at hm; exact hm)
                      · have m15 : p4 = (nI 1) := (Decidable.not_not.mp (of_decide_eq_false c))
                        refine w_st (i' := 43) (ls' := [.ref 99, .int p1, .int p2, .int p3, .int p4]) (st' := [.ref 99]) (E' := E13) (I' := I13) (J' := J13) (S' := S13) am_e274 rfl rfl rfl rfl ?_
                        refine w_st (i' := 44) (ls' := [.ref 99, .int p1, .int p2, .int p3, .int p4]) (st' := [.int ((I13 99) 55)]) (E' := E13) (I' := I13) (J' := J13) (S' := S13) am_e274 rfl rfl rfl rfl ?_
                        refine w_st (i' := 47) (ls' := [.ref 99, .int p1, .int p2, .int p3, .int p4]) (st' := [.int ((I13 99) 55)]) (E' := E13) (I' := I13) (J' := J13) (S' := S13) am_e274 rfl rfl rfl rfl ?_
                        first | exact hm | (simp only [if_neg m14, if_pos m15] at hm; exact hm)
                    · have m14 : p4 = 0 := (Decidable.not_not.mp (of_decide_eq_false c))
                      refine w_st (i' := 37) (ls' := [.ref 99, .int p1, .int p2, .int p3, .int p4]) (st' := [.ref 99]) (E' := E13) (I' := I13) (J' := J13) (S' := S13) am_e274 rfl rfl rfl rfl ?_
                      refine w_st (i' := 38) (ls' := [.ref 99, .int p1, .int p2, .int p3, .int p4]) (st' := [.int ((I13 99) 54)]) (E' := E13) (I' := I13) (J' := J13) (S' := S13) am_e274 rfl rfl rfl rfl ?_
                      refine w_st (i' := 47) (ls' := [.ref 99, .int p1, .int p2, .int p3, .int p4]) (st' := [.int ((I13 99) 54)]) (E' := E13) (I' := I13) (J' := J13) (S' := S13) am_e274 rfl rfl rfl rfl ?_
                      first | exact hm | (simp only [if_pos m14] at hm; exact hm)
                  refine w_var (fun w16 => am_ww 274 47 [.ref 99, .int p1, .int p2, .int p3, .int p4] [.int w16] E13 I13 J13 S13 _) (if p4 = 0 then ((I13 99) 54) else (if p4 = (nI 1) then ((I13 99) 55) else ((I13 99) 56))) (fun w16 hw16 => ?_)
                  replace h := h w16 hw16
                  exact w_ri am_e274 rfl rfl h
                · replace h := h.2 (of_decide_eq_false c)
                  refine w_st (i' := 18) (ls' := [.ref 99, .int p1, .int p2, .int p3]) (st' := [.int p3]) (E' := E) (I' := (u_I I 99 (upd (I 99) 3 (nI 0)))) (J' := J) (S' := S) am_e275 rfl rfl rfl rfl ?_
                  refine w_st (i' := 19) (ls' := [.ref 99, .int p1, .int p2, .int p3]) (st' := [.int (nI 0), .int p3]) (E' := E) (I' := (u_I I 99 (upd (I 99) 3 (nI 0)))) (J' := J) (S' := S) am_e275 rfl rfl rfl rfl ?_
                  refine w_st (i' := 20) (ls' := [.ref 99, .int p1, .int p2, .int p3]) (st' := [.ref 99, .int (nI 0), .int p3]) (E' := E) (I' := (u_I I 99 (upd (I 99) 3 (nI 0)))) (J' := J) (S' := S) am_e275 rfl rfl rfl rfl ?_
                  refine w_st (i' := 21) (ls' := [.ref 99, .int p1, .int p2, .int p3]) (st' := [.ref 103, .int (nI 0), .int p3]) (E' := E) (I' := (u_I I 99 (upd (I 99) 3 (nI 0)))) (J' := J) (S' := S) am_e275 rfl rfl rfl rfl ?_
                  refine w_st (i' := 22) (ls' := [.ref 99, .int p1, .int p2, .int p3]) (st' := [.int (nI 4), .ref 103, .int (nI 0), .int p3]) (E' := E) (I' := (u_I I 99 (upd (I 99) 3 (nI 0)))) (J' := J) (S' := S) am_e275 rfl rfl rfl rfl ?_
                  refine w_ia (k := 103) (n := 10) (jn := 4) am_e275 rfl rfl (by decide) (vp_in_nI (by decide) (by decide)) rfl ?_
                  show am_ww 275 23 [.ref 99, .int p1, .int p2, .int p3] [.int ((I 103) 4), .int (nI 0), .int p3] E (u_I I 99 (upd (I 99) 3 (nI 0))) J S _
                  refine w_st (i' := 24) (ls' := [.ref 99, .int p1, .int p2, .int p3]) (st' := [.int (nI 1), .int ((I 103) 4), .int (nI 0), .int p3]) (E' := E) (I' := (u_I I 99 (upd (I 99) 3 (nI 0)))) (J' := J) (S' := S) am_e275 rfl rfl rfl rfl ?_
                  refine w_st (i' := 25) (ls' := [.ref 99, .int p1, .int p2, .int p3]) (st' := [.int (((I 103) 4) - (nI 1)), .int (nI 0), .int p3]) (E' := E) (I' := (u_I I 99 (upd (I 99) 3 (nI 0)))) (J' := J) (S' := S) am_e275 rfl rfl rfl rfl ?_
                  refine w_cI am_e275 rfl rfl (as := [.int p3, .int (nI 0), .int (((I 103) 4) - (nI 1))]) (rest := []) rfl rfl ?_
                  show am_ww 232 0 [.int p3, .int (nI 0), .int (((I 103) 4) - (nI 1))] [] E (u_I I 99 (upd (I 99) 3 (nI 0))) J S _
                  refine w_st (i' := 1) (ls' := [.int p3, .int (nI 0), .int (((I 103) 4) - (nI 1))]) (st' := [.int p3]) (E' := E) (I' := (u_I I 99 (upd (I 99) 3 (nI 0)))) (J' := J) (S' := S) am_e232 rfl rfl rfl rfl ?_
                  refine w_st (i' := 2) (ls' := [.int p3, .int (nI 0), .int (((I 103) 4) - (nI 1))]) (st' := [.int (nI 0), .int p3]) (E' := E) (I' := (u_I I 99 (upd (I 99) 3 (nI 0)))) (J' := J) (S' := S) am_e232 rfl rfl rfl rfl ?_
                  refine w_if2 am_e232 rfl rfl (fun c => ?_) (fun c => ?_)
                  · replace h := h.1 (of_decide_eq_true c)
                    refine w_st (i' := 9) (ls' := [.int p3, .int (nI 0), .int (((I 103) 4) - (nI 1))]) (st' := [.int (nI 0)]) (E' := E) (I' := (u_I I 99 (upd (I 99) 3 (nI 0)))) (J' := J) (S' := S) am_e232 rfl rfl rfl rfl ?_
                    refine w_end (E' := E) (I' := (u_I I 99 (upd (I 99) 3 (nI 0)))) (J' := J) (S' := S) am_e232 rfl rfl rfl (q_mkI ?_)
                    show am_ww 275 26 [.ref 99, .int p1, .int p2, .int p3] [.int (nI 0)] E (u_I I 99 (upd (I 99) 3 (nI 0))) J S _
                    refine w_st (i' := 29) (ls' := [.ref 99, .int p1, .int p2, .int p3]) (st' := []) (E' := E) (I' := (u_I I 99 (upd (I 99) 3 (nI 0)))) (J' := J) (S' := S) am_e275 rfl rfl rfl rfl ?_
                    refine w_st (i' := 30) (ls' := [.ref 99, .int p1, .int p2, .int p3]) (st' := [.int (nI 0)]) (E' := E) (I' := (u_I I 99 (upd (I 99) 3 (nI 0)))) (J' := J) (S' := S) am_e275 rfl rfl rfl rfl ?_
                    refine w_end (E' := E) (I' := (u_I I 99 (upd (I 99) 3 (nI 0)))) (J' := J) (S' := S) am_e275 rfl rfl rfl (q_mkI ?_)
                    show am_ww 274 18 [.ref 99, .int p1, .int p2, .int p3, .int p4] [.int (nI 0)] E (u_I I 99 (upd (I 99) 3 (nI 0))) J S _
                    refine w_st (i' := 19) (ls' := [.ref 99, .int p1, .int p2, .int p3, .int p4]) (st' := []) (E' := E) (I' := (u_I I 99 (upd (I 99) 3 (nI 0)))) (J' := J) (S' := S) am_e274 rfl rfl rfl rfl ?_
                    refine w_st (i' := 20) (ls' := [.ref 99, .int p1, .int p2, .int p3, .int p4]) (st' := [.ref 99]) (E' := E) (I' := (u_I I 99 (upd (I 99) 3 (nI 0)))) (J' := J) (S' := S) am_e274 rfl rfl rfl rfl ?_
                    refine w_st (i' := 21) (ls' := [.ref 99, .int p1, .int p2, .int p3, .int p4]) (st' := [.int (nI 1), .ref 99]) (E' := E) (I' := (u_I I 99 (upd (I 99) 3 (nI 0)))) (J' := J) (S' := S) am_e274 rfl rfl rfl rfl ?_
                    refine w_cI am_e274 rfl rfl (as := [.ref 99, .int (nI 1)]) (rest := []) rfl rfl ?_
                    show am_ww 189 0 [.ref 99, .int (nI 1)] [] E (u_I I 99 (upd (I 99) 3 (nI 0))) J S _
                    refine w_st (i' := 1) (ls' := [.ref 99, .int (nI 1)]) (st' := [.ref 99]) (E' := E) (I' := (u_I I 99 (upd (I 99) 3 (nI 0)))) (J' := J) (S' := S) am_e189 rfl rfl rfl rfl ?_
                    refine w_st (i' := 2) (ls' := [.ref 99, .int (nI 1)]) (st' := [.int (nI 1), .ref 99]) (E' := E) (I' := (u_I I 99 (upd (I 99) 3 (nI 0)))) (J' := J) (S' := S) am_e189 rfl rfl rfl rfl ?_
                    refine w_st (i' := 3) (ls' := [.ref 99, .int (nI 1)]) (st' := []) (E' := E) (I' := (u_I (u_I I 99 (upd (I 99) 3 (nI 0))) 99 (upd (upd (I 99) 3 (nI 0)) 3 (nI 1)))) (J' := J) (S' := S) am_e189 rfl rfl rfl rfl ?_
                    refine w_eI (uI_0 ..) ?_
                    show am_ww 189 3 [.ref 99, .int (nI 1)] [] E (u_I I 99 (upd (upd (I 99) 3 (nI 0)) 3 (nI 1))) J S _
                    refine w_st (i' := 4) (ls' := [.ref 99, .int (nI 1)]) (st' := [.int (nI 0)]) (E' := E) (I' := (u_I I 99 (upd (upd (I 99) 3 (nI 0)) 3 (nI 1)))) (J' := J) (S' := S) am_e189 rfl rfl rfl rfl ?_
                    refine w_end (E' := E) (I' := (u_I I 99 (upd (upd (I 99) 3 (nI 0)) 3 (nI 1)))) (J' := J) (S' := S) am_e189 rfl rfl rfl (q_mkI ?_)
                    show am_ww 274 22 [.ref 99, .int p1, .int p2, .int p3, .int p4] [.int (nI 0)] E (u_I I 99 (upd (upd (I 99) 3 (nI 0)) 3 (nI 1))) J S _
                    exact w_end am_e274 rfl rfl rfl h
                  · replace h := h.2 (of_decide_eq_false c)
                    refine w_st (i' := 4) (ls' := [.int p3, .int (nI 0), .int (((I 103) 4) - (nI 1))]) (st' := [.int p3]) (E' := E) (I' := (u_I I 99 (upd (I 99) 3 (nI 0)))) (J' := J) (S' := S) am_e232 rfl rfl rfl rfl ?_
                    refine w_st (i' := 5) (ls' := [.int p3, .int (nI 0), .int (((I 103) 4) - (nI 1))]) (st' := [.int (((I 103) 4) - (nI 1)), .int p3]) (E' := E) (I' := (u_I I 99 (upd (I 99) 3 (nI 0)))) (J' := J) (S' := S) am_e232 rfl rfl rfl rfl ?_
                    refine w_if2 am_e232 rfl rfl (fun c => ?_) (fun c => ?_)
                    · replace h := h.1 (of_decide_eq_true c)
                      refine w_st (i' := 9) (ls' := [.int p3, .int (nI 0), .int (((I 103) 4) - (nI 1))]) (st' := [.int (nI 0)]) (E' := E) (I' := (u_I I 99 (upd (I 99) 3 (nI 0)))) (J' := J) (S' := S) am_e232 rfl rfl rfl rfl ?_
                      refine w_end (E' := E) (I' := (u_I I 99 (upd (I 99) 3 (nI 0)))) (J' := J) (S' := S) am_e232 rfl rfl rfl (q_mkI ?_)
                      show am_ww 275 26 [.ref 99, .int p1, .int p2, .int p3] [.int (nI 0)] E (u_I I 99 (upd (I 99) 3 (nI 0))) J S _
                      refine w_st (i' := 29) (ls' := [.ref 99, .int p1, .int p2, .int p3]) (st' := []) (E' := E) (I' := (u_I I 99 (upd (I 99) 3 (nI 0)))) (J' := J) (S' := S) am_e275 rfl rfl rfl rfl ?_
                      refine w_st (i' := 30) (ls' := [.ref 99, .int p1, .int p2, .int p3]) (st' := [.int (nI 0)]) (E' := E) (I' := (u_I I 99 (upd (I 99) 3 (nI 0)))) (J' := J) (S' := S) am_e275 rfl rfl rfl rfl ?_
                      refine w_end (E' := E) (I' := (u_I I 99 (upd (I 99) 3 (nI 0)))) (J' := J) (S' := S) am_e275 rfl rfl rfl (q_mkI ?_)
                      show am_ww 274 18 [.ref 99, .int p1, .int p2, .int p3, .int p4] [.int (nI 0)] E (u_I I 99 (upd (I 99) 3 (nI 0))) J S _
                      refine w_st (i' := 19) (ls' := [.ref 99, .int p1, .int p2, .int p3, .int p4]) (st' := []) (E' := E) (I' := (u_I I 99 (upd (I 99) 3 (nI 0)))) (J' := J) (S' := S) am_e274 rfl rfl rfl rfl ?_
                      refine w_st (i' := 20) (ls' := [.ref 99, .int p1, .int p2, .int p3, .int p4]) (st' := [.ref 99]) (E' := E) (I' := (u_I I 99 (upd (I 99) 3 (nI 0)))) (J' := J) (S' := S) am_e274 rfl rfl rfl rfl ?_
                      refine w_st (i' := 21) (ls' := [.ref 99, .int p1, .int p2, .int p3, .int p4]) (st' := [.int (nI 1), .ref 99]) (E' := E) (I' := (u_I I 99 (upd (I 99) 3 (nI 0)))) (J' := J) (S' := S) am_e274 rfl rfl rfl rfl ?_
                      refine w_cI am_e274 rfl rfl (as := [.ref 99, .int (nI 1)]) (rest := []) rfl rfl ?_
                      show am_ww 189 0 [.ref 99, .int (nI 1)] [] E (u_I I 99 (upd (I 99) 3 (nI 0))) J S _
                      refine w_st (i' := 1) (ls' := [.ref 99, .int (nI 1)]) (st' := [.ref 99]) (E' := E) (I' := (u_I I 99 (upd (I 99) 3 (nI 0)))) (J' := J) (S' := S) am_e189 rfl rfl rfl rfl ?_
                      refine w_st (i' := 2) (ls' := [.ref 99, .int (nI 1)]) (st' := [.int (nI 1), .ref 99]) (E' := E) (I' := (u_I I 99 (upd (I 99) 3 (nI 0)))) (J' := J) (S' := S) am_e189 rfl rfl rfl rfl ?_
                      refine w_st (i' := 3) (ls' := [.ref 99, .int (nI 1)]) (st' := []) (E' := E) (I' := (u_I (u_I I 99 (upd (I 99) 3 (nI 0))) 99 (upd (upd (I 99) 3 (nI 0)) 3 (nI 1)))) (J' := J) (S' := S) am_e189 rfl rfl rfl rfl ?_
                      refine w_eI (uI_0 ..) ?_
                      show am_ww 189 3 [.ref 99, .int (nI 1)] [] E (u_I I 99 (upd (upd (I 99) 3 (nI 0)) 3 (nI 1))) J S _
                      refine w_st (i' := 4) (ls' := [.ref 99, .int (nI 1)]) (st' := [.int (nI 0)]) (E' := E) (I' := (u_I I 99 (upd (upd (I 99) 3 (nI 0)) 3 (nI 1)))) (J' := J) (S' := S) am_e189 rfl rfl rfl rfl ?_
                      refine w_end (E' := E) (I' := (u_I I 99 (upd (upd (I 99) 3 (nI 0)) 3 (nI 1)))) (J' := J) (S' := S) am_e189 rfl rfl rfl (q_mkI ?_)
                      show am_ww 274 22 [.ref 99, .int p1, .int p2, .int p3, .int p4] [.int (nI 0)] E (u_I I 99 (upd (upd (I 99) 3 (nI 0)) 3 (nI 1))) J S _
                      exact w_end am_e274 rfl rfl rfl h
                    · replace h := h.2 (of_decide_eq_false c)
                      refine w_st (i' := 7) (ls' := [.int p3, .int (nI 0), .int (((I 103) 4) - (nI 1))]) (st' := [.int (nI 1)]) (E' := E) (I' := (u_I I 99 (upd (I 99) 3 (nI 0)))) (J' := J) (S' := S) am_e232 rfl rfl rfl rfl ?_
                      refine w_st (i' := 9) (ls' := [.int p3, .int (nI 0), .int (((I 103) 4) - (nI 1))]) (st' := [.int (nI 1)]) (E' := E) (I' := (u_I I 99 (upd (I 99) 3 (nI 0)))) (J' := J) (S' := S) am_e232 rfl rfl rfl rfl ?_
                      refine w_end (E' := E) (I' := (u_I I 99 (upd (I 99) 3 (nI 0)))) (J' := J) (S' := S) am_e232 rfl rfl rfl (q_mkI ?_)
                      show am_ww 275 26 [.ref 99, .int p1, .int p2, .int p3] [.int (nI 1)] E (u_I I 99 (upd (I 99) 3 (nI 0))) J S _
                      refine w_st (i' := 27) (ls' := [.ref 99, .int p1, .int p2, .int p3]) (st' := []) (E' := E) (I' := (u_I I 99 (upd (I 99) 3 (nI 0)))) (J' := J) (S' := S) am_e275 rfl rfl rfl rfl ?_
                      refine w_st (i' := 28) (ls' := [.ref 99, .int p1, .int p2, .int p3]) (st' := [.int (nI 1)]) (E' := E) (I' := (u_I I 99 (upd (I 99) 3 (nI 0)))) (J' := J) (S' := S) am_e275 rfl rfl rfl rfl ?_
                      refine w_st (i' := 30) (ls' := [.ref 99, .int p1, .int p2, .int p3]) (st' := [.int (nI 1)]) (E' := E) (I' := (u_I I 99 (upd (I 99) 3 (nI 0)))) (J' := J) (S' := S) am_e275 rfl rfl rfl rfl ?_
                      refine w_end (E' := E) (I' := (u_I I 99 (upd (I 99) 3 (nI 0)))) (J' := J) (S' := S) am_e275 rfl rfl rfl (q_mkI ?_)
                      show am_ww 274 18 [.ref 99, .int p1, .int p2, .int p3, .int p4] [.int (nI 1)] E (u_I I 99 (upd (I 99) 3 (nI 0))) J S _
                      refine w_st (i' := 23) (ls' := [.ref 99, .int p1, .int p2, .int p3, .int p4]) (st' := []) (E' := E) (I' := (u_I I 99 (upd (I 99) 3 (nI 0)))) (J' := J) (S' := S) am_e274 rfl rfl rfl rfl ?_
                      refine w_st (i' := 24) (ls' := [.ref 99, .int p1, .int p2, .int p3, .int p4]) (st' := [.ref 99]) (E' := E) (I' := (u_I I 99 (upd (I 99) 3 (nI 0)))) (J' := J) (S' := S) am_e274 rfl rfl rfl rfl ?_
                      refine w_st (i' := 25) (ls' := [.ref 99, .int p1, .int p2, .int p3, .int p4]) (st' := [.int p1, .ref 99]) (E' := E) (I' := (u_I I 99 (upd (I 99) 3 (nI 0)))) (J' := J) (S' := S) am_e274 rfl rfl rfl rfl ?_
                      refine w_st (i' := 26) (ls' := [.ref 99, .int p1, .int p2, .int p3, .int p4]) (st' := []) (E' := E) (I' := (u_I (u_I I 99 (upd (I 99) 3 (nI 0))) 99 (upd (upd (I 99) 3 (nI 0)) 51 p1))) (J' := J) (S' := S) am_e274 rfl rfl rfl rfl ?_
                      refine w_eI (uI_0 ..) ?_
                      show am_ww 274 26 [.ref 99, .int p1, .int p2, .int p3, .int p4] [] E (u_I I 99 (upd (upd (I 99) 3 (nI 0)) 51 p1)) J S _
                      refine w_st (i' := 27) (ls' := [.ref 99, .int p1, .int p2, .int p3, .int p4]) (st' := [.ref 99]) (E' := E) (I' := (u_I I 99 (upd (upd (I 99) 3 (nI 0)) 51 p1))) (J' := J) (S' := S) am_e274 rfl rfl rfl rfl ?_
                      refine w_st (i' := 28) (ls' := [.ref 99, .int p1, .int p2, .int p3, .int p4]) (st' := [.int p2, .ref 99]) (E' := E) (I' := (u_I I 99 (upd (upd (I 99) 3 (nI 0)) 51 p1))) (J' := J) (S' := S) am_e274 rfl rfl rfl rfl ?_
                      refine w_st (i' := 29) (ls' := [.ref 99, .int p1, .int p2, .int p3, .int p4]) (st' := []) (E' := E) (I' := (u_I (u_I I 99 (upd (upd (I 99) 3 (nI 0)) 51 p1)) 99 (upd (upd (upd (I 99) 3 (nI 0)) 51 p1) 52 p2))) (J' := J) (S' := S) am_e274 rfl rfl rfl rfl ?_
                      refine w_eI (uI_0 ..) ?_
                      show am_ww 274 29 [.ref 99, .int p1, .int p2, .int p3, .int p4] [] E (u_I I 99 (upd (upd (upd (I 99) 3 (nI 0)) 51 p1) 52 p2)) J S _
                      refine w_st (i' := 30) (ls' := [.ref 99, .int p1, .int p2, .int p3, .int p4]) (st' := [.ref 99]) (E' := E) (I' := (u_I I 99 (upd (upd (upd (I 99) 3 (nI 0)) 51 p1) 52 p2))) (J' := J) (S' := S) am_e274 rfl rfl rfl rfl ?_
                      refine w_st (i' := 31) (ls' := [.ref 99, .int p1, .int p2, .int p3, .int p4]) (st' := [.int p3, .ref 99]) (E' := E) (I' := (u_I I 99 (upd (upd (upd (I 99) 3 (nI 0)) 51 p1) 52 p2))) (J' := J) (S' := S) am_e274 rfl rfl rfl rfl ?_
                      refine w_st (i' := 32) (ls' := [.ref 99, .int p1, .int p2, .int p3, .int p4]) (st' := []) (E' := E) (I' := (u_I (u_I I 99 (upd (upd (upd (I 99) 3 (nI 0)) 51 p1) 52 p2)) 99 (upd (upd (upd (upd (I 99) 3 (nI 0)) 51 p1) 52 p2) 53 p3))) (J' := J) (S' := S) am_e274 rfl rfl rfl rfl ?_
                      refine w_eI (uI_0 ..) ?_
                      show am_ww 274 32 [.ref 99, .int p1, .int p2, .int p3, .int p4] [] E (u_I I 99 (upd (upd (upd (upd (I 99) 3 (nI 0)) 51 p1) 52 p2) 53 p3)) J S _
                      refine w_st (i' := 33) (ls' := [.ref 99, .int p1, .int p2, .int p3, .int p4]) (st' := [.ref 99]) (E' := E) (I' := (u_I I 99 (upd (upd (upd (upd (I 99) 3 (nI 0)) 51 p1) 52 p2) 53 p3))) (J' := J) (S' := S) am_e274 rfl rfl rfl rfl ?_
                      refine w_cV am_e274 rfl rfl (as := [.ref 99]) (rest := []) rfl rfl (am_ww.mono h ?_)
                      rintro _ E17 I17 J17 S17 ⟨rfl, h⟩
                      refine q_mkV ?_
                      refine w_st (i' := 35) (ls' := [.ref 99, .int p1, .int p2, .int p3, .int p4]) (st' := [.int p4]) (E' := E17) (I' := I17) (J' := J17) (S' := S17) am_e274 rfl rfl rfl rfl ?_
                      refine w_mg (i := 47) (ls' := [.ref 99, .int p1, .int p2, .int p3, .int p4]) (st' := [.int (if p4 = 0 then ((I17 99) 54) else (if p4 = (nI 1) then ((I17 99) 55) else ((I17 99) 56)))]) (fun hm => ?_) ?_
                      · clear h
                        refine w_if1 am_e274 rfl rfl (fun c => ?_) (fun c => ?_)
                        · have m18 : ¬ (p4 = 0) := (of_decide_eq_true c)
                          refine w_st (i' := 40) (ls' := [.ref 99, .int p1, .int p2, .int p3, .int p4]) (st' := [.int p4]) (E' := E17) (I' := I17) (J' := J17) (S' := S17) am_e274 rfl rfl rfl rfl ?_
                          refine w_st (i' := 41) (ls' := [.ref 99, .int p1, .int p2, .int p3, .int p4]) (st' := [.int (nI 1), .int p4]) (E' := E17) (I' := I17) (J' := J17) (S' := S17) am_e274 rfl rfl rfl rfl ?_
                          refine w_if2 am_e274 rfl rfl (fun c => ?_) (fun c => ?_)
                          · have m19 : ¬ (p4 = (nI 1)) := (of_decide_eq_true c)
                            refine w_st (i' := 46) (ls' := [.ref 99, .int p1, .int p2, .int p3, .int p4]) (st' := [.ref 99]) (E' := E17) (I' := I17) (J' := J17) (S' := S17) am_e274 rfl rfl rfl rfl ?_
                            refine w_st (i' := 47) (ls' := [.ref 99, .int p1, .int p2, .int p3, .int p4]) (st' := [.int ((I17 99) 56)]) (E' := E17) (I' := I17) (J' := J17) (S' := S17) am_e274 rfl rfl rfl rfl ?_
                            first | exact hm | (simp only [if_neg m18, if_neg m19] at hm; exact hm)
                          · have m19 : p4 = (nI 1) := (Decidable.not_not.mp (of_decide_eq_false c))
                            refine w_st (i' := 43) (ls' := [.ref 99, .int p1, .int p2, .int p3, .int p4]) (st' := [.ref 99]) (E' := E17) (I' := I17) (J' := J17) (S' := S17) am_e274 rfl rfl rfl rfl ?_
                            refine w_st (i' := 44) (ls' := [.ref 99, .int p1, .int p2, .int p3, .int p4]) (st' := [.int ((I17 99) 55)]) (E' := E17) (I' := I17) (J' := J17) (S' := S17) am_e274 rfl rfl rfl rfl ?_
                            refine w_st (i' := 47) (ls' := [.ref 99, .int p1, .int p2, .int p3, .int p4]) (st' := [.int ((I17 99) 55)]) (E' := E17) (I' := I17) (J' := J17) (S' := S17) am_e274 rfl rfl rfl rfl ?_
                            first | exact hm | (simp only [if_neg m18, if_pos m19] at hm; exact hm)
                        · have m18 : p4 = 0 := (Decidable.not_not.mp (of_decide_eq_false c))
                          refine w_st (i' := 37) (ls' := [.ref 99, .int p1, .int p2, .int p3, .int p4]) (st' := [.ref 99]) (E' := E17) (I' := I17) (J' := J17) (S' := S17) am_e274 rfl rfl rfl rfl ?_
                          refine w_st (i' := 38) (ls' := [.ref 99, .int p1, .int p2, .int p3, .int p4]) (st' := [.int ((I17 99) 54)]) (E' := E17) (I' := I17) (J' := J17) (S' := S17) am_e274 rfl rfl rfl rfl ?_
                          refine w_st (i' := 47) (ls' := [.ref 99, .int p1, .int p2, .int p3, .int p4]) (st' := [.int ((I17 99) 54)]) (E' := E17) (I' := I17) (J' := J17) (S' := S17) am_e274 rfl rfl rfl rfl ?_
                          first | exact hm | (simp only [if_pos m18] at hm; exact hm)
                      refine w_var (fun w20 => am_ww 274 47 [.ref 99, .int p1, .int p2, .int p3, .int p4] [.int w20] E17 I17 J17 S17 _) (if p4 = 0 then ((I17 99) 54) else (if p4 = (nI 1) then ((I17 99) 55) else ((I17 99) 56))) (fun w20 hw20 => ?_)
                      replace h := h w20 hw20
                      exact w_ri am_e274 rfl rfl h
-- 283 areCellsOther
theorem g283_0  {E : am_Ev} {I : Nat → Nat → Int32} {J : Nat → Nat → Int64} {S : Nat → Nat → Option Nat} {Q : am_Qt}  (h : am_ww 283 2 [.ref 99, .int (nI 0)] [] E I J S Q) : am_ww 283 0 [.ref 99, am_U] [] E I J S Q := by
  refine w_st (i' := 1) (ls' := [.ref 99, am_U]) (st' := [.int (nI 0)]) (E' := E) (I' := I) (J' := J) (S' := S) am_e283 rfl rfl rfl rfl ?_
  refine w_st (i' := 2) (ls' := [.ref 99, .int (nI 0)]) (st' := []) (E' := E) (I' := I) (J' := J) (S' := S) am_e283 rfl rfl rfl rfl ?_
  exact h
theorem g283_2 {x1 : Int32} {E : am_Ev} {I : Nat → Nat → Int32} {J : Nat → Nat → Int64} {S : Nat → Nat → Option Nat} {Q : am_Qt}  (h : ((nI 16) ≤ x1 → (Q (.inl (some (.int (nI 0)))) E I J S)) ∧ (¬ (nI 16) ≤ x1 → (vp_in x1 51 ∧ (vp_in (((nI 51) * ((I 99) 12)) + x1) 20451 ∧ (∀ w3 : Int32, w3 = ((I 117) ((((nI 51) * ((I 99) 12)) + x1).toNatClampNeg)) → ((((I 116) x1.toNatClampNeg) = w3 → (am_ww 283 2 [.ref 99, .int (x1 + nI 1)] [] E I J S Q)) ∧ (¬ ((I 116) x1.toNatClampNeg) = w3 → (Q (.inl (some (.int (nI 1)))) E I J S)))))))) : am_ww 283 2 [.ref 99, .int x1] [] E I J S Q := by
  refine w_st (i' := 3) (ls' := [.ref 99, .int x1]) (st' := [.int x1]) (E' := E) (I' := I) (J' := J) (S' := S) am_e283 rfl rfl rfl rfl ?_
  refine w_st (i' := 4) (ls' := [.ref 99, .int x1]) (st' := [.int (nI 16), .int x1]) (E' := E) (I' := I) (J' := J) (S' := S) am_e283 rfl rfl rfl rfl ?_
  refine w_if2 am_e283 rfl rfl (fun c => ?_) (fun c => ?_)
  · replace h := h.1 (of_decide_eq_true c)
    refine w_st (i' := 20) (ls' := [.ref 99, .int x1]) (st' := [.int (nI 0)]) (E' := E) (I' := I) (J' := J) (S' := S) am_e283 rfl rfl rfl rfl ?_
    exact w_end am_e283 rfl rfl rfl h
  · replace h := h.2 (of_decide_eq_false c)
    refine w_st (i' := 6) (ls' := [.ref 99, .int x1]) (st' := [.ref 99]) (E' := E) (I' := I) (J' := J) (S' := S) am_e283 rfl rfl rfl rfl ?_
    refine w_st (i' := 7) (ls' := [.ref 99, .int x1]) (st' := [.ref 116]) (E' := E) (I' := I) (J' := J) (S' := S) am_e283 rfl rfl rfl rfl ?_
    refine w_st (i' := 8) (ls' := [.ref 99, .int x1]) (st' := [.int x1, .ref 116]) (E' := E) (I' := I) (J' := J) (S' := S) am_e283 rfl rfl rfl rfl ?_
    have hf1 := h.1
    replace h := h.2
    refine w_ia (k := 116) (n := 51) (jn := x1.toNatClampNeg) am_e283 rfl rfl (by decide) hf1 rfl ?_
    refine w_st (i' := 10) (ls' := [.ref 99, .int x1]) (st' := [.ref 99, .int ((I 116) x1.toNatClampNeg)]) (E' := E) (I' := I) (J' := J) (S' := S) am_e283 rfl rfl rfl rfl ?_
    refine w_st (i' := 11) (ls' := [.ref 99, .int x1]) (st' := [.ref 99, .ref 99, .int ((I 116) x1.toNatClampNeg)]) (E' := E) (I' := I) (J' := J) (S' := S) am_e283 rfl rfl rfl rfl ?_
    refine w_st (i' := 12) (ls' := [.ref 99, .int x1]) (st' := [.int ((I 99) 12), .ref 99, .int ((I 116) x1.toNatClampNeg)]) (E' := E) (I' := I) (J' := J) (S' := S) am_e283 rfl rfl rfl rfl ?_
    refine w_st (i' := 13) (ls' := [.ref 99, .int x1]) (st' := [.int x1, .int ((I 99) 12), .ref 99, .int ((I 116) x1.toNatClampNeg)]) (E' := E) (I' := I) (J' := J) (S' := S) am_e283 rfl rfl rfl rfl ?_
    refine w_cI am_e283 rfl rfl (as := [.ref 99, .int ((I 99) 12), .int x1]) (rest := [.int ((I 116) x1.toNatClampNeg)]) rfl rfl ?_
    show am_ww 245 0 [.ref 99, .int ((I 99) 12), .int x1] [] E I J S _
    refine w_st (i' := 1) (ls' := [.ref 99, .int ((I 99) 12), .int x1]) (st' := [.ref 99]) (E' := E) (I' := I) (J' := J) (S' := S) am_e245 rfl rfl rfl rfl ?_
    refine w_st (i' := 2) (ls' := [.ref 99, .int ((I 99) 12), .int x1]) (st' := [.ref 117]) (E' := E) (I' := I) (J' := J) (S' := S) am_e245 rfl rfl rfl rfl ?_
    refine w_st (i' := 3) (ls' := [.ref 99, .int ((I 99) 12), .int x1]) (st' := [.int (nI 51), .ref 117]) (E' := E) (I' := I) (J' := J) (S' := S) am_e245 rfl rfl rfl rfl ?_
    refine w_st (i' := 4) (ls' := [.ref 99, .int ((I 99) 12), .int x1]) (st' := [.int ((I 99) 12), .int (nI 51), .ref 117]) (E' := E) (I' := I) (J' := J) (S' := S) am_e245 rfl rfl rfl rfl ?_
    refine w_st (i' := 5) (ls' := [.ref 99, .int ((I 99) 12), .int x1]) (st' := [.int ((nI 51) * ((I 99) 12)), .ref 117]) (E' := E) (I' := I) (J' := J) (S' := S) am_e245 rfl rfl rfl rfl ?_
    refine w_st (i' := 6) (ls' := [.ref 99, .int ((I 99) 12), .int x1]) (st' := [.int x1, .int ((nI 51) * ((I 99) 12)), .ref 117]) (E' := E) (I' := I) (J' := J) (S' := S) am_e245 rfl rfl rfl rfl ?_
    refine w_st (i' := 7) (ls' := [.ref 99, .int ((I 99) 12), .int x1]) (st' := [.int (((nI 51) * ((I 99) 12)) + x1), .ref 117]) (E' := E) (I' := I) (J' := J) (S' := S) am_e245 rfl rfl rfl rfl ?_
    have hf2 := h.1
    replace h := h.2
    refine w_ia (k := 117) (n := 20451) (jn := (((nI 51) * ((I 99) 12)) + x1).toNatClampNeg) am_e245 rfl rfl (by decide) hf2 rfl ?_
    refine w_ri am_e245 rfl rfl (q_mkI ?_)
    show am_ww 283 14 [.ref 99, .int x1] [.int ((I 117) ((((nI 51) * ((I 99) 12)) + x1).toNatClampNeg)), .int ((I 116) x1.toNatClampNeg)] E I J S _
    refine w_var (fun w3 => am_ww 283 14 [.ref 99, .int x1] [.int w3, .int ((I 116) x1.toNatClampNeg)] E I J S _) ((I 117) ((((nI 51) * ((I 99) 12)) + x1).toNatClampNeg)) (fun w3 hw3 => ?_)
    replace h := h w3 hw3
    refine w_if2 am_e283 rfl rfl (fun c => ?_) (fun c => ?_)
    · replace h := h.1 (of_decide_eq_true c)
      refine w_st (i' := 18) (ls' := [.ref 99, .int (x1 + nI 1)]) (st' := []) (E' := E) (I' := I) (J' := J) (S' := S) am_e283 rfl rfl rfl rfl ?_
      refine w_st (i' := 2) (ls' := [.ref 99, .int (x1 + nI 1)]) (st' := []) (E' := E) (I' := I) (J' := J) (S' := S) am_e283 rfl rfl rfl rfl ?_
      exact h
    · replace h := h.2 (of_decide_eq_false c)
      refine w_st (i' := 16) (ls' := [.ref 99, .int x1]) (st' := [.int (nI 1)]) (E' := E) (I' := I) (J' := J) (S' := S) am_e283 rfl rfl rfl rfl ?_
      exact w_end am_e283 rfl rfl rfl h
-- 282 matters
theorem g282_0 {p1 : Int32} {E : am_Ev} {I : Nat → Nat → Int32} {J : Nat → Nat → Int64} {S : Nat → Nat → Option Nat} {Q : am_Qt}  (h : (p1 < (nI 0) → (Q (.inl (some (.int (nI 0)))) E (u_I I 99 (upd (upd (I 99) 3 (nI 0)) 3 (nI 1))) J S)) ∧ (¬ p1 < (nI 0) → (((nI 2) < p1 → (Q (.inl (some (.int (nI 0)))) E (u_I I 99 (upd (upd (I 99) 3 (nI 0)) 3 (nI 1))) J S)) ∧ (¬ (nI 2) < p1 → (am_ww 282 16 [.ref 99, .int p1, .int (nI 0), .int (nI 0)] [] E (u_I I 99 (upd (I 99) 3 (nI 0))) J S Q))))) : am_ww 282 0 [.ref 99, .int p1, am_U, am_U] [] E I J S Q := by
  refine w_st (i' := 1) (ls' := [.ref 99, .int p1, am_U, am_U]) (st' := [.ref 99]) (E' := E) (I' := I) (J' := J) (S' := S) am_e282 rfl rfl rfl rfl ?_
  refine w_st (i' := 2) (ls' := [.ref 99, .int p1, am_U, am_U]) (st' := [.int (nI 0), .ref 99]) (E' := E) (I' := I) (J' := J) (S' := S) am_e282 rfl rfl rfl rfl ?_
  refine w_st (i' := 3) (ls' := [.ref 99, .int p1, am_U, am_U]) (st' := []) (E' := E) (I' := (u_I I 99 (upd (I 99) 3 (nI 0)))) (J' := J) (S' := S) am_e282 rfl rfl rfl rfl ?_
  refine w_st (i' := 4) (ls' := [.ref 99, .int p1, am_U, am_U]) (st' := [.int p1]) (E' := E) (I' := (u_I I 99 (upd (I 99) 3 (nI 0)))) (J' := J) (S' := S) am_e282 rfl rfl rfl rfl ?_
  refine w_st (i' := 5) (ls' := [.ref 99, .int p1, am_U, am_U]) (st' := [.int (nI 0), .int p1]) (E' := E) (I' := (u_I I 99 (upd (I 99) 3 (nI 0)))) (J' := J) (S' := S) am_e282 rfl rfl rfl rfl ?_
  refine w_st (i' := 6) (ls' := [.ref 99, .int p1, am_U, am_U]) (st' := [.int (nI 2), .int (nI 0), .int p1]) (E' := E) (I' := (u_I I 99 (upd (I 99) 3 (nI 0)))) (J' := J) (S' := S) am_e282 rfl rfl rfl rfl ?_
  refine w_cI am_e282 rfl rfl (as := [.int p1, .int (nI 0), .int (nI 2)]) (rest := []) rfl rfl ?_
  show am_ww 232 0 [.int p1, .int (nI 0), .int (nI 2)] [] E (u_I I 99 (upd (I 99) 3 (nI 0))) J S _
  refine w_st (i' := 1) (ls' := [.int p1, .int (nI 0), .int (nI 2)]) (st' := [.int p1]) (E' := E) (I' := (u_I I 99 (upd (I 99) 3 (nI 0)))) (J' := J) (S' := S) am_e232 rfl rfl rfl rfl ?_
  refine w_st (i' := 2) (ls' := [.int p1, .int (nI 0), .int (nI 2)]) (st' := [.int (nI 0), .int p1]) (E' := E) (I' := (u_I I 99 (upd (I 99) 3 (nI 0)))) (J' := J) (S' := S) am_e232 rfl rfl rfl rfl ?_
  refine w_if2 am_e232 rfl rfl (fun c => ?_) (fun c => ?_)
  · replace h := h.1 (of_decide_eq_true c)
    refine w_st (i' := 9) (ls' := [.int p1, .int (nI 0), .int (nI 2)]) (st' := [.int (nI 0)]) (E' := E) (I' := (u_I I 99 (upd (I 99) 3 (nI 0)))) (J' := J) (S' := S) am_e232 rfl rfl rfl rfl ?_
    refine w_end (E' := E) (I' := (u_I I 99 (upd (I 99) 3 (nI 0)))) (J' := J) (S' := S) am_e232 rfl rfl rfl (q_mkI ?_)
    show am_ww 282 7 [.ref 99, .int p1, am_U, am_U] [.int (nI 0)] E (u_I I 99 (upd (I 99) 3 (nI 0))) J S _
    refine w_st (i' := 8) (ls' := [.ref 99, .int p1, am_U, am_U]) (st' := []) (E' := E) (I' := (u_I I 99 (upd (I 99) 3 (nI 0)))) (J' := J) (S' := S) am_e282 rfl rfl rfl rfl ?_
    refine w_st (i' := 9) (ls' := [.ref 99, .int p1, am_U, am_U]) (st' := [.ref 99]) (E' := E) (I' := (u_I I 99 (upd (I 99) 3 (nI 0)))) (J' := J) (S' := S) am_e282 rfl rfl rfl rfl ?_
    refine w_st (i' := 10) (ls' := [.ref 99, .int p1, am_U, am_U]) (st' := [.int (nI 1), .ref 99]) (E' := E) (I' := (u_I I 99 (upd (I 99) 3 (nI 0)))) (J' := J) (S' := S) am_e282 rfl rfl rfl rfl ?_
    refine w_cI am_e282 rfl rfl (as := [.ref 99, .int (nI 1)]) (rest := []) rfl rfl ?_
    show am_ww 189 0 [.ref 99, .int (nI 1)] [] E (u_I I 99 (upd (I 99) 3 (nI 0))) J S _
    refine w_st (i' := 1) (ls' := [.ref 99, .int (nI 1)]) (st' := [.ref 99]) (E' := E) (I' := (u_I I 99 (upd (I 99) 3 (nI 0)))) (J' := J) (S' := S) am_e189 rfl rfl rfl rfl ?_
    refine w_st (i' := 2) (ls' := [.ref 99, .int (nI 1)]) (st' := [.int (nI 1), .ref 99]) (E' := E) (I' := (u_I I 99 (upd (I 99) 3 (nI 0)))) (J' := J) (S' := S) am_e189 rfl rfl rfl rfl ?_
    refine w_st (i' := 3) (ls' := [.ref 99, .int (nI 1)]) (st' := []) (E' := E) (I' := (u_I (u_I I 99 (upd (I 99) 3 (nI 0))) 99 (upd (upd (I 99) 3 (nI 0)) 3 (nI 1)))) (J' := J) (S' := S) am_e189 rfl rfl rfl rfl ?_
    refine w_eI (uI_0 ..) ?_
    show am_ww 189 3 [.ref 99, .int (nI 1)] [] E (u_I I 99 (upd (upd (I 99) 3 (nI 0)) 3 (nI 1))) J S _
    refine w_st (i' := 4) (ls' := [.ref 99, .int (nI 1)]) (st' := [.int (nI 0)]) (E' := E) (I' := (u_I I 99 (upd (upd (I 99) 3 (nI 0)) 3 (nI 1)))) (J' := J) (S' := S) am_e189 rfl rfl rfl rfl ?_
    refine w_end (E' := E) (I' := (u_I I 99 (upd (upd (I 99) 3 (nI 0)) 3 (nI 1)))) (J' := J) (S' := S) am_e189 rfl rfl rfl (q_mkI ?_)
    show am_ww 282 11 [.ref 99, .int p1, am_U, am_U] [.int (nI 0)] E (u_I I 99 (upd (upd (I 99) 3 (nI 0)) 3 (nI 1))) J S _
    exact w_end am_e282 rfl rfl rfl h
  · replace h := h.2 (of_decide_eq_false c)
    refine w_st (i' := 4) (ls' := [.int p1, .int (nI 0), .int (nI 2)]) (st' := [.int p1]) (E' := E) (I' := (u_I I 99 (upd (I 99) 3 (nI 0)))) (J' := J) (S' := S) am_e232 rfl rfl rfl rfl ?_
    refine w_st (i' := 5) (ls' := [.int p1, .int (nI 0), .int (nI 2)]) (st' := [.int (nI 2), .int p1]) (E' := E) (I' := (u_I I 99 (upd (I 99) 3 (nI 0)))) (J' := J) (S' := S) am_e232 rfl rfl rfl rfl ?_
    refine w_if2 am_e232 rfl rfl (fun c => ?_) (fun c => ?_)
    · replace h := h.1 (of_decide_eq_true c)
      refine w_st (i' := 9) (ls' := [.int p1, .int (nI 0), .int (nI 2)]) (st' := [.int (nI 0)]) (E' := E) (I' := (u_I I 99 (upd (I 99) 3 (nI 0)))) (J' := J) (S' := S) am_e232 rfl rfl rfl rfl ?_
      refine w_end (E' := E) (I' := (u_I I 99 (upd (I 99) 3 (nI 0)))) (J' := J) (S' := S) am_e232 rfl rfl rfl (q_mkI ?_)
      show am_ww 282 7 [.ref 99, .int p1, am_U, am_U] [.int (nI 0)] E (u_I I 99 (upd (I 99) 3 (nI 0))) J S _
      refine w_st (i' := 8) (ls' := [.ref 99, .int p1, am_U, am_U]) (st' := []) (E' := E) (I' := (u_I I 99 (upd (I 99) 3 (nI 0)))) (J' := J) (S' := S) am_e282 rfl rfl rfl rfl ?_
      refine w_st (i' := 9) (ls' := [.ref 99, .int p1, am_U, am_U]) (st' := [.ref 99]) (E' := E) (I' := (u_I I 99 (upd (I 99) 3 (nI 0)))) (J' := J) (S' := S) am_e282 rfl rfl rfl rfl ?_
      refine w_st (i' := 10) (ls' := [.ref 99, .int p1, am_U, am_U]) (st' := [.int (nI 1), .ref 99]) (E' := E) (I' := (u_I I 99 (upd (I 99) 3 (nI 0)))) (J' := J) (S' := S) am_e282 rfl rfl rfl rfl ?_
      refine w_cI am_e282 rfl rfl (as := [.ref 99, .int (nI 1)]) (rest := []) rfl rfl ?_
      show am_ww 189 0 [.ref 99, .int (nI 1)] [] E (u_I I 99 (upd (I 99) 3 (nI 0))) J S _
      refine w_st (i' := 1) (ls' := [.ref 99, .int (nI 1)]) (st' := [.ref 99]) (E' := E) (I' := (u_I I 99 (upd (I 99) 3 (nI 0)))) (J' := J) (S' := S) am_e189 rfl rfl rfl rfl ?_
      refine w_st (i' := 2) (ls' := [.ref 99, .int (nI 1)]) (st' := [.int (nI 1), .ref 99]) (E' := E) (I' := (u_I I 99 (upd (I 99) 3 (nI 0)))) (J' := J) (S' := S) am_e189 rfl rfl rfl rfl ?_
      refine w_st (i' := 3) (ls' := [.ref 99, .int (nI 1)]) (st' := []) (E' := E) (I' := (u_I (u_I I 99 (upd (I 99) 3 (nI 0))) 99 (upd (upd (I 99) 3 (nI 0)) 3 (nI 1)))) (J' := J) (S' := S) am_e189 rfl rfl rfl rfl ?_
      refine w_eI (uI_0 ..) ?_
      show am_ww 189 3 [.ref 99, .int (nI 1)] [] E (u_I I 99 (upd (upd (I 99) 3 (nI 0)) 3 (nI 1))) J S _
      refine w_st (i' := 4) (ls' := [.ref 99, .int (nI 1)]) (st' := [.int (nI 0)]) (E' := E) (I' := (u_I I 99 (upd (upd (I 99) 3 (nI 0)) 3 (nI 1)))) (J' := J) (S' := S) am_e189 rfl rfl rfl rfl ?_
      refine w_end (E' := E) (I' := (u_I I 99 (upd (upd (I 99) 3 (nI 0)) 3 (nI 1)))) (J' := J) (S' := S) am_e189 rfl rfl rfl (q_mkI ?_)
      show am_ww 282 11 [.ref 99, .int p1, am_U, am_U] [.int (nI 0)] E (u_I I 99 (upd (upd (I 99) 3 (nI 0)) 3 (nI 1))) J S _
      exact w_end am_e282 rfl rfl rfl h
    · replace h := h.2 (of_decide_eq_false c)
      refine w_st (i' := 7) (ls' := [.int p1, .int (nI 0), .int (nI 2)]) (st' := [.int (nI 1)]) (E' := E) (I' := (u_I I 99 (upd (I 99) 3 (nI 0)))) (J' := J) (S' := S) am_e232 rfl rfl rfl rfl ?_
      refine w_st (i' := 9) (ls' := [.int p1, .int (nI 0), .int (nI 2)]) (st' := [.int (nI 1)]) (E' := E) (I' := (u_I I 99 (upd (I 99) 3 (nI 0)))) (J' := J) (S' := S) am_e232 rfl rfl rfl rfl ?_
      refine w_end (E' := E) (I' := (u_I I 99 (upd (I 99) 3 (nI 0)))) (J' := J) (S' := S) am_e232 rfl rfl rfl (q_mkI ?_)
      show am_ww 282 7 [.ref 99, .int p1, am_U, am_U] [.int (nI 1)] E (u_I I 99 (upd (I 99) 3 (nI 0))) J S _
      refine w_st (i' := 12) (ls' := [.ref 99, .int p1, am_U, am_U]) (st' := []) (E' := E) (I' := (u_I I 99 (upd (I 99) 3 (nI 0)))) (J' := J) (S' := S) am_e282 rfl rfl rfl rfl ?_
      refine w_st (i' := 13) (ls' := [.ref 99, .int p1, am_U, am_U]) (st' := [.int (nI 0)]) (E' := E) (I' := (u_I I 99 (upd (I 99) 3 (nI 0)))) (J' := J) (S' := S) am_e282 rfl rfl rfl rfl ?_
      refine w_st (i' := 14) (ls' := [.ref 99, .int p1, .int (nI 0), am_U]) (st' := []) (E' := E) (I' := (u_I I 99 (upd (I 99) 3 (nI 0)))) (J' := J) (S' := S) am_e282 rfl rfl rfl rfl ?_
      refine w_st (i' := 15) (ls' := [.ref 99, .int p1, .int (nI 0), am_U]) (st' := [.int (nI 0)]) (E' := E) (I' := (u_I I 99 (upd (I 99) 3 (nI 0)))) (J' := J) (S' := S) am_e282 rfl rfl rfl rfl ?_
      refine w_st (i' := 16) (ls' := [.ref 99, .int p1, .int (nI 0), .int (nI 0)]) (st' := []) (E' := E) (I' := (u_I I 99 (upd (I 99) 3 (nI 0)))) (J' := J) (S' := S) am_e282 rfl rfl rfl rfl ?_
      exact h
theorem g282_16 {x1 : Int32} {x2 : Int32} {x3 : Int32} {E : am_Ev} {I : Nat → Nat → Int32} {J : Nat → Nat → Int64} {S : Nat → Nat → Option Nat} {Q : am_Qt}  (h : vp_in (((nI 51) * ((I 99) 12)) + ((nI 48) + x1)) 20451 ∧ (∀ w2 : Int32, w2 = ((I 117) ((((nI 51) * ((I 99) 12)) + ((nI 48) + x1)).toNatClampNeg)) → ((w2 ≤ x3 → (Q (.inl (some (.int x2))) E I J S)) ∧ (¬ w2 ≤ x3 → (vp_in (((nI 30) * x1) + x3) 90 ∧ (am_cl 276 [.ref 99] E (u_I I 99 (upd (upd (upd (I 99) 51 ((nI 2) + x1)) 52 x3) 53 (((I 123) ((((nI 30) * x1) + x3).toNatClampNeg)) + (nI 1)))) J S (q_V fun E4 I4 J4 S4 => (((I4 99) 56) = (-1) → (am_cl 283 [.ref 99] E4 I4 J4 S4 (q_I fun v5 E5 I5 J5 S5 => ∀ w7 : Int32, w7 = (if v5 = 0 then nI 0 else nI 1) → (am_ww 282 16 [.ref 99, .int x1, .int (x2 + w7), .int (x3 + nI 1)] [] E5 I5 J5 S5 Q)))) ∧ (¬ ((I4 99) 56) = (-1) → (am_ww 282 16 [.ref 99, .int x1, .int (x2 + (nI 1)), .int (x3 + nI 1)] [] E4 I4 J4 S4 Q))))))))) : am_ww 282 16 [.ref 99, .int x1, .int x2, .int x3] [] E I J S Q := by
  refine w_st (i' := 17) (ls' := [.ref 99, .int x1, .int x2, .int x3]) (st' := [.int x3]) (E' := E) (I' := I) (J' := J) (S' := S) am_e282 rfl rfl rfl rfl ?_
  refine w_st (i' := 18) (ls' := [.ref 99, .int x1, .int x2, .int x3]) (st' := [.ref 99, .int x3]) (E' := E) (I' := I) (J' := J) (S' := S) am_e282 rfl rfl rfl rfl ?_
  refine w_st (i' := 19) (ls' := [.ref 99, .int x1, .int x2, .int x3]) (st' := [.ref 99, .ref 99, .int x3]) (E' := E) (I' := I) (J' := J) (S' := S) am_e282 rfl rfl rfl rfl ?_
  refine w_st (i' := 20) (ls' := [.ref 99, .int x1, .int x2, .int x3]) (st' := [.int ((I 99) 12), .ref 99, .int x3]) (E' := E) (I' := I) (J' := J) (S' := S) am_e282 rfl rfl rfl rfl ?_
  refine w_st (i' := 21) (ls' := [.ref 99, .int x1, .int x2, .int x3]) (st' := [.int (nI 48), .int ((I 99) 12), .ref 99, .int x3]) (E' := E) (I' := I) (J' := J) (S' := S) am_e282 rfl rfl rfl rfl ?_
  refine w_st (i' := 22) (ls' := [.ref 99, .int x1, .int x2, .int x3]) (st' := [.int x1, .int (nI 48), .int ((I 99) 12), .ref 99, .int x3]) (E' := E) (I' := I) (J' := J) (S' := S) am_e282 rfl rfl rfl rfl ?_
  refine w_st (i' := 23) (ls' := [.ref 99, .int x1, .int x2, .int x3]) (st' := [.int ((nI 48) + x1), .int ((I 99) 12), .ref 99, .int x3]) (E' := E) (I' := I) (J' := J) (S' := S) am_e282 rfl rfl rfl rfl ?_
  refine w_cI am_e282 rfl rfl (as := [.ref 99, .int ((I 99) 12), .int ((nI 48) + x1)]) (rest := [.int x3]) rfl rfl ?_
  show am_ww 245 0 [.ref 99, .int ((I 99) 12), .int ((nI 48) + x1)] [] E I J S _
  refine w_st (i' := 1) (ls' := [.ref 99, .int ((I 99) 12), .int ((nI 48) + x1)]) (st' := [.ref 99]) (E' := E) (I' := I) (J' := J) (S' := S) am_e245 rfl rfl rfl rfl ?_
  refine w_st (i' := 2) (ls' := [.ref 99, .int ((I 99) 12), .int ((nI 48) + x1)]) (st' := [.ref 117]) (E' := E) (I' := I) (J' := J) (S' := S) am_e245 rfl rfl rfl rfl ?_
  refine w_st (i' := 3) (ls' := [.ref 99, .int ((I 99) 12), .int ((nI 48) + x1)]) (st' := [.int (nI 51), .ref 117]) (E' := E) (I' := I) (J' := J) (S' := S) am_e245 rfl rfl rfl rfl ?_
  refine w_st (i' := 4) (ls' := [.ref 99, .int ((I 99) 12), .int ((nI 48) + x1)]) (st' := [.int ((I 99) 12), .int (nI 51), .ref 117]) (E' := E) (I' := I) (J' := J) (S' := S) am_e245 rfl rfl rfl rfl ?_
  refine w_st (i' := 5) (ls' := [.ref 99, .int ((I 99) 12), .int ((nI 48) + x1)]) (st' := [.int ((nI 51) * ((I 99) 12)), .ref 117]) (E' := E) (I' := I) (J' := J) (S' := S) am_e245 rfl rfl rfl rfl ?_
  refine w_st (i' := 6) (ls' := [.ref 99, .int ((I 99) 12), .int ((nI 48) + x1)]) (st' := [.int ((nI 48) + x1), .int ((nI 51) * ((I 99) 12)), .ref 117]) (E' := E) (I' := I) (J' := J) (S' := S) am_e245 rfl rfl rfl rfl ?_
  refine w_st (i' := 7) (ls' := [.ref 99, .int ((I 99) 12), .int ((nI 48) + x1)]) (st' := [.int (((nI 51) * ((I 99) 12)) + ((nI 48) + x1)), .ref 117]) (E' := E) (I' := I) (J' := J) (S' := S) am_e245 rfl rfl rfl rfl ?_
  have hf1 := h.1
  replace h := h.2
  refine w_ia (k := 117) (n := 20451) (jn := (((nI 51) * ((I 99) 12)) + ((nI 48) + x1)).toNatClampNeg) am_e245 rfl rfl (by decide) hf1 rfl ?_
  refine w_ri am_e245 rfl rfl (q_mkI ?_)
  show am_ww 282 24 [.ref 99, .int x1, .int x2, .int x3] [.int ((I 117) ((((nI 51) * ((I 99) 12)) + ((nI 48) + x1)).toNatClampNeg)), .int x3] E I J S _
  refine w_var (fun w2 => am_ww 282 24 [.ref 99, .int x1, .int x2, .int x3] [.int w2, .int x3] E I J S _) ((I 117) ((((nI 51) * ((I 99) 12)) + ((nI 48) + x1)).toNatClampNeg)) (fun w2 hw2 => ?_)
  replace h := h w2 hw2
  refine w_if2 am_e282 rfl rfl (fun c => ?_) (fun c => ?_)
  · replace h := h.1 (of_decide_eq_true c)
    refine w_st (i' := 63) (ls' := [.ref 99, .int x1, .int x2, .int x3]) (st' := [.int x2]) (E' := E) (I' := I) (J' := J) (S' := S) am_e282 rfl rfl rfl rfl ?_
    exact w_ri am_e282 rfl rfl h
  · replace h := h.2 (of_decide_eq_false c)
    refine w_st (i' := 26) (ls' := [.ref 99, .int x1, .int x2, .int x3]) (st' := [.ref 99]) (E' := E) (I' := I) (J' := J) (S' := S) am_e282 rfl rfl rfl rfl ?_
    refine w_st (i' := 27) (ls' := [.ref 99, .int x1, .int x2, .int x3]) (st' := [.int (nI 2), .ref 99]) (E' := E) (I' := I) (J' := J) (S' := S) am_e282 rfl rfl rfl rfl ?_
    refine w_st (i' := 28) (ls' := [.ref 99, .int x1, .int x2, .int x3]) (st' := [.int x1, .int (nI 2), .ref 99]) (E' := E) (I' := I) (J' := J) (S' := S) am_e282 rfl rfl rfl rfl ?_
    refine w_st (i' := 29) (ls' := [.ref 99, .int x1, .int x2, .int x3]) (st' := [.int ((nI 2) + x1), .ref 99]) (E' := E) (I' := I) (J' := J) (S' := S) am_e282 rfl rfl rfl rfl ?_
    refine w_st (i' := 30) (ls' := [.ref 99, .int x1, .int x2, .int x3]) (st' := []) (E' := E) (I' := (u_I I 99 (upd (I 99) 51 ((nI 2) + x1)))) (J' := J) (S' := S) am_e282 rfl rfl rfl rfl ?_
    refine w_st (i' := 31) (ls' := [.ref 99, .int x1, .int x2, .int x3]) (st' := [.ref 99]) (E' := E) (I' := (u_I I 99 (upd (I 99) 51 ((nI 2) + x1)))) (J' := J) (S' := S) am_e282 rfl rfl rfl rfl ?_
    refine w_st (i' := 32) (ls' := [.ref 99, .int x1, .int x2, .int x3]) (st' := [.int x3, .ref 99]) (E' := E) (I' := (u_I I 99 (upd (I 99) 51 ((nI 2) + x1)))) (J' := J) (S' := S) am_e282 rfl rfl rfl rfl ?_
    refine w_st (i' := 33) (ls' := [.ref 99, .int x1, .int x2, .int x3]) (st' := []) (E' := E) (I' := (u_I (u_I I 99 (upd (I 99) 51 ((nI 2) + x1))) 99 (upd (upd (I 99) 51 ((nI 2) + x1)) 52 x3))) (J' := J) (S' := S) am_e282 rfl rfl rfl rfl ?_
    refine w_eI (uI_0 ..) ?_
    show am_ww 282 33 [.ref 99, .int x1, .int x2, .int x3] [] E (u_I I 99 (upd (upd (I 99) 51 ((nI 2) + x1)) 52 x3)) J S _
    refine w_st (i' := 34) (ls' := [.ref 99, .int x1, .int x2, .int x3]) (st' := [.ref 99]) (E' := E) (I' := (u_I I 99 (upd (upd (I 99) 51 ((nI 2) + x1)) 52 x3))) (J' := J) (S' := S) am_e282 rfl rfl rfl rfl ?_
    refine w_st (i' := 35) (ls' := [.ref 99, .int x1, .int x2, .int x3]) (st' := [.ref 99, .ref 99]) (E' := E) (I' := (u_I I 99 (upd (upd (I 99) 51 ((nI 2) + x1)) 52 x3))) (J' := J) (S' := S) am_e282 rfl rfl rfl rfl ?_
    refine w_st (i' := 36) (ls' := [.ref 99, .int x1, .int x2, .int x3]) (st' := [.ref 123, .ref 99]) (E' := E) (I' := (u_I I 99 (upd (upd (I 99) 51 ((nI 2) + x1)) 52 x3))) (J' := J) (S' := S) am_e282 rfl rfl rfl rfl ?_
    refine w_st (i' := 37) (ls' := [.ref 99, .int x1, .int x2, .int x3]) (st' := [.int (nI 30), .ref 123, .ref 99]) (E' := E) (I' := (u_I I 99 (upd (upd (I 99) 51 ((nI 2) + x1)) 52 x3))) (J' := J) (S' := S) am_e282 rfl rfl rfl rfl ?_
    refine w_st (i' := 38) (ls' := [.ref 99, .int x1, .int x2, .int x3]) (st' := [.int x1, .int (nI 30), .ref 123, .ref 99]) (E' := E) (I' := (u_I I 99 (upd (upd (I 99) 51 ((nI 2) + x1)) 52 x3))) (J' := J) (S' := S) am_e282 rfl rfl rfl rfl ?_
    refine w_st (i' := 39) (ls' := [.ref 99, .int x1, .int x2, .int x3]) (st' := [.int ((nI 30) * x1), .ref 123, .ref 99]) (E' := E) (I' := (u_I I 99 (upd (upd (I 99) 51 ((nI 2) + x1)) 52 x3))) (J' := J) (S' := S) am_e282 rfl rfl rfl rfl ?_
    refine w_st (i' := 40) (ls' := [.ref 99, .int x1, .int x2, .int x3]) (st' := [.int x3, .int ((nI 30) * x1), .ref 123, .ref 99]) (E' := E) (I' := (u_I I 99 (upd (upd (I 99) 51 ((nI 2) + x1)) 52 x3))) (J' := J) (S' := S) am_e282 rfl rfl rfl rfl ?_
    refine w_st (i' := 41) (ls' := [.ref 99, .int x1, .int x2, .int x3]) (st' := [.int (((nI 30) * x1) + x3), .ref 123, .ref 99]) (E' := E) (I' := (u_I I 99 (upd (upd (I 99) 51 ((nI 2) + x1)) 52 x3))) (J' := J) (S' := S) am_e282 rfl rfl rfl rfl ?_
    have hf3 := h.1
    replace h := h.2
    refine w_ia (k := 123) (n := 90) (jn := (((nI 30) * x1) + x3).toNatClampNeg) am_e282 rfl rfl (by decide) hf3 rfl ?_
    show am_ww 282 42 [.ref 99, .int x1, .int x2, .int x3] [.int ((I 123) ((((nI 30) * x1) + x3).toNatClampNeg)), .ref 99] E (u_I I 99 (upd (upd (I 99) 51 ((nI 2) + x1)) 52 x3)) J S _
    refine w_st (i' := 43) (ls' := [.ref 99, .int x1, .int x2, .int x3]) (st' := [.int (nI 1), .int ((I 123) ((((nI 30) * x1) + x3).toNatClampNeg)), .ref 99]) (E' := E) (I' := (u_I I 99 (upd (upd (I 99) 51 ((nI 2) + x1)) 52 x3))) (J' := J) (S' := S) am_e282 rfl rfl rfl rfl ?_
    refine w_st (i' := 44) (ls' := [.ref 99, .int x1, .int x2, .int x3]) (st' := [.int (((I 123) ((((nI 30) * x1) + x3).toNatClampNeg)) + (nI 1)), .ref 99]) (E' := E) (I' := (u_I I 99 (upd (upd (I 99) 51 ((nI 2) + x1)) 52 x3))) (J' := J) (S' := S) am_e282 rfl rfl rfl rfl ?_
    refine w_st (i' := 45) (ls' := [.ref 99, .int x1, .int x2, .int x3]) (st' := []) (E' := E) (I' := (u_I (u_I I 99 (upd (upd (I 99) 51 ((nI 2) + x1)) 52 x3)) 99 (upd (upd (upd (I 99) 51 ((nI 2) + x1)) 52 x3) 53 (((I 123) ((((nI 30) * x1) + x3).toNatClampNeg)) + (nI 1))))) (J' := J) (S' := S) am_e282 rfl rfl rfl rfl ?_
    refine w_eI (uI_0 ..) ?_
    show am_ww 282 45 [.ref 99, .int x1, .int x2, .int x3] [] E (u_I I 99 (upd (upd (upd (I 99) 51 ((nI 2) + x1)) 52 x3) 53 (((I 123) ((((nI 30) * x1) + x3).toNatClampNeg)) + (nI 1)))) J S _
    refine w_st (i' := 46) (ls' := [.ref 99, .int x1, .int x2, .int x3]) (st' := [.ref 99]) (E' := E) (I' := (u_I I 99 (upd (upd (upd (I 99) 51 ((nI 2) + x1)) 52 x3) 53 (((I 123) ((((nI 30) * x1) + x3).toNatClampNeg)) + (nI 1))))) (J' := J) (S' := S) am_e282 rfl rfl rfl rfl ?_
    refine w_cV am_e282 rfl rfl (as := [.ref 99]) (rest := []) rfl rfl (am_ww.mono h ?_)
    rintro _ E4 I4 J4 S4 ⟨rfl, h⟩
    refine q_mkV ?_
    refine w_st (i' := 48) (ls' := [.ref 99, .int x1, .int x2, .int x3]) (st' := [.int x2]) (E' := E4) (I' := I4) (J' := J4) (S' := S4) am_e282 rfl rfl rfl rfl ?_
    refine w_st (i' := 49) (ls' := [.ref 99, .int x1, .int x2, .int x3]) (st' := [.ref 99, .int x2]) (E' := E4) (I' := I4) (J' := J4) (S' := S4) am_e282 rfl rfl rfl rfl ?_
    refine w_st (i' := 50) (ls' := [.ref 99, .int x1, .int x2, .int x3]) (st' := [.int ((I4 99) 56), .int x2]) (E' := E4) (I' := I4) (J' := J4) (S' := S4) am_e282 rfl rfl rfl rfl ?_
    refine w_st (i' := 51) (ls' := [.ref 99, .int x1, .int x2, .int x3]) (st' := [.int (-1), .int ((I4 99) 56), .int x2]) (E' := E4) (I' := I4) (J' := J4) (S' := S4) am_e282 rfl rfl rfl rfl ?_
    refine w_if2 am_e282 rfl rfl (fun c => ?_) (fun c => ?_)
    · replace h := h.2 (of_decide_eq_true c)
      refine w_st (i' := 56) (ls' := [.ref 99, .int x1, .int x2, .int x3]) (st' := [.int (nI 1), .int x2]) (E' := E4) (I' := I4) (J' := J4) (S' := S4) am_e282 rfl rfl rfl rfl ?_
      refine w_st (i' := 58) (ls' := [.ref 99, .int x1, .int x2, .int x3]) (st' := [.int (nI 1), .int x2]) (E' := E4) (I' := I4) (J' := J4) (S' := S4) am_e282 rfl rfl rfl rfl ?_
      refine w_st (i' := 59) (ls' := [.ref 99, .int x1, .int x2, .int x3]) (st' := [.int (x2 + (nI 1))]) (E' := E4) (I' := I4) (J' := J4) (S' := S4) am_e282 rfl rfl rfl rfl ?_
      refine w_st (i' := 60) (ls' := [.ref 99, .int x1, .int (x2 + (nI 1)), .int x3]) (st' := []) (E' := E4) (I' := I4) (J' := J4) (S' := S4) am_e282 rfl rfl rfl rfl ?_
      refine w_st (i' := 61) (ls' := [.ref 99, .int x1, .int (x2 + (nI 1)), .int (x3 + nI 1)]) (st' := []) (E' := E4) (I' := I4) (J' := J4) (S' := S4) am_e282 rfl rfl rfl rfl ?_
      refine w_st (i' := 16) (ls' := [.ref 99, .int x1, .int (x2 + (nI 1)), .int (x3 + nI 1)]) (st' := []) (E' := E4) (I' := I4) (J' := J4) (S' := S4) am_e282 rfl rfl rfl rfl ?_
      exact h
    · replace h := h.1 (Decidable.not_not.mp (of_decide_eq_false c))
      refine w_st (i' := 53) (ls' := [.ref 99, .int x1, .int x2, .int x3]) (st' := [.ref 99, .int x2]) (E' := E4) (I' := I4) (J' := J4) (S' := S4) am_e282 rfl rfl rfl rfl ?_
      refine w_cI am_e282 rfl rfl (as := [.ref 99]) (rest := [.int x2]) rfl rfl (am_ww.mono h ?_)
      rintro _ E5 I5 J5 S5 ⟨v5, rfl, h⟩
      refine q_mkI ?_
      refine w_mg (i := 58) (ls' := [.ref 99, .int x1, .int x2, .int x3]) (st' := [.int (if v5 = 0 then nI 0 else nI 1), .int x2]) (fun hm => ?_) ?_
      · clear h
        refine w_if1 am_e282 rfl rfl (fun c => ?_) (fun c => ?_)
        · have m6 : v5 = 0 := (of_decide_eq_true c)
          refine w_st (i' := 58) (ls' := [.ref 99, .int x1, .int x2, .int x3]) (st' := [.int (nI 0), .int x2]) (E' := E5) (I' := I5) (J' := J5) (S' := S5) am_e282 rfl rfl rfl rfl ?_
          first | exact hm | (simp only [if_pos m6] at hm; exact hm)
        · have m6 : ¬ (v5 = 0) := (of_decide_eq_false c)
          refine w_st (i' := 56) (ls' := [.ref 99, .int x1, .int x2, .int x3]) (st' := [.int (nI 1), .int x2]) (E' := E5) (I' := I5) (J' := J5) (S' := S5) am_e282 rfl rfl rfl rfl ?_
          refine w_st (i' := 58) (ls' := [.ref 99, .int x1, .int x2, .int x3]) (st' := [.int (nI 1), .int x2]) (E' := E5) (I' := I5) (J' := J5) (S' := S5) am_e282 rfl rfl rfl rfl ?_
          first | exact hm | (simp only [if_neg m6] at hm; exact hm)
      refine w_var (fun w7 => am_ww 282 58 [.ref 99, .int x1, .int x2, .int x3] [.int w7, .int x2] E5 I5 J5 S5 _) (if v5 = 0 then nI 0 else nI 1) (fun w7 hw7 => ?_)
      replace h := h w7 hw7
      refine w_st (i' := 59) (ls' := [.ref 99, .int x1, .int x2, .int x3]) (st' := [.int (x2 + w7)]) (E' := E5) (I' := I5) (J' := J5) (S' := S5) am_e282 rfl rfl rfl rfl ?_
      refine w_st (i' := 60) (ls' := [.ref 99, .int x1, .int (x2 + w7), .int x3]) (st' := []) (E' := E5) (I' := I5) (J' := J5) (S' := S5) am_e282 rfl rfl rfl rfl ?_
      refine w_st (i' := 61) (ls' := [.ref 99, .int x1, .int (x2 + w7), .int (x3 + nI 1)]) (st' := []) (E' := E5) (I' := I5) (J' := J5) (S' := S5) am_e282 rfl rfl rfl rfl ?_
      refine w_st (i' := 16) (ls' := [.ref 99, .int x1, .int (x2 + w7), .int (x3 + nI 1)]) (st' := []) (E' := E5) (I' := I5) (J' := J5) (S' := S5) am_e282 rfl rfl rfl rfl ?_
      exact h
-- 285 goFrom
theorem g285_0 {p1 : Int32} {p2 : Int32} {p3 : Int32} {E : am_Ev} {I : Nat → Nat → Int32} {J : Nat → Nat → Int64} {S : Nat → Nat → Option Nat} {Q : am_Qt}  (h : am_cl 184 [.ref 99, .int p1] E I J S (q_V fun E1 I1 J1 S1 => am_ww 285 7 [.ref 99, .int p1, .int p2, .int p3, .int (nI 1), .int (nI 0)] [] E1 I1 J1 S1 Q)) : am_ww 285 0 [.ref 99, .int p1, .int p2, .int p3, am_U, am_U] [] E I J S Q := by
  refine w_st (i' := 1) (ls' := [.ref 99, .int p1, .int p2, .int p3, am_U, am_U]) (st' := [.ref 99]) (E' := E) (I' := I) (J' := J) (S' := S) am_e285 rfl rfl rfl rfl ?_
  refine w_st (i' := 2) (ls' := [.ref 99, .int p1, .int p2, .int p3, am_U, am_U]) (st' := [.int p1, .ref 99]) (E' := E) (I' := I) (J' := J) (S' := S) am_e285 rfl rfl rfl rfl ?_
  refine w_cV am_e285 rfl rfl (as := [.ref 99, .int p1]) (rest := []) rfl rfl (am_ww.mono h ?_)
  rintro _ E1 I1 J1 S1 ⟨rfl, h⟩
  refine q_mkV ?_
  refine w_st (i' := 4) (ls' := [.ref 99, .int p1, .int p2, .int p3, am_U, am_U]) (st' := [.int (nI 1)]) (E' := E1) (I' := I1) (J' := J1) (S' := S1) am_e285 rfl rfl rfl rfl ?_
  refine w_st (i' := 5) (ls' := [.ref 99, .int p1, .int p2, .int p3, .int (nI 1), am_U]) (st' := []) (E' := E1) (I' := I1) (J' := J1) (S' := S1) am_e285 rfl rfl rfl rfl ?_
  refine w_st (i' := 6) (ls' := [.ref 99, .int p1, .int p2, .int p3, .int (nI 1), am_U]) (st' := [.int (nI 0)]) (E' := E1) (I' := I1) (J' := J1) (S' := S1) am_e285 rfl rfl rfl rfl ?_
  refine w_st (i' := 7) (ls' := [.ref 99, .int p1, .int p2, .int p3, .int (nI 1), .int (nI 0)]) (st' := []) (E' := E1) (I' := I1) (J' := J1) (S' := S1) am_e285 rfl rfl rfl rfl ?_
  exact h
theorem g285_7 {d1 : Value} {x2 : Int32} {x3 : Int32} {x4 : Int32} {x5 : Int32} {E : am_Ev} {I : Nat → Nat → Int32} {J : Nat → Nat → Int64} {S : Nat → Nat → Option Nat} {Q : am_Qt} (hd1 : am_isL d1 = false) (h : (x3 ≤ x5 → (Q (.inl none) E I J S)) ∧ (¬ x3 ≤ x5 → ((x4 = 0 → (Q (.inl none) E I J S)) ∧ (¬ x4 = 0 → (am_cl 236 [.ref 99, .int x2, .int (nI 0)] E I J S (q_I fun v1 E1 I1 J1 S1 => am_ww 285 7 [.ref 99, d1, .int x2, .int x3, .int v1, .int (x5 + nI 1)] [] E1 I1 J1 S1 Q)))))) : am_ww 285 7 [.ref 99, d1, .int x2, .int x3, .int x4, .int x5] [] E I J S Q := by
  refine w_st (i' := 8) (ls' := [.ref 99, d1, .int x2, .int x3, .int x4, .int x5]) (st' := [.int x5]) (E' := E) (I' := I) (J' := J) (S' := S) am_e285 rfl rfl rfl rfl ?_
  refine w_st (i' := 9) (ls' := [.ref 99, d1, .int x2, .int x3, .int x4, .int x5]) (st' := [.int x3, .int x5]) (E' := E) (I' := I) (J' := J) (S' := S) am_e285 rfl rfl rfl rfl ?_
  refine w_if2 am_e285 rfl rfl (fun c => ?_) (fun c => ?_)
  · replace h := h.1 (of_decide_eq_true c)
    exact w_end am_e285 rfl rfl rfl h
  · replace h := h.2 (of_decide_eq_false c)
    refine w_st (i' := 11) (ls' := [.ref 99, d1, .int x2, .int x3, .int x4, .int x5]) (st' := [.int x4]) (E' := E) (I' := I) (J' := J) (S' := S) am_e285 rfl rfl rfl rfl ?_
    refine w_if1 am_e285 rfl rfl (fun c => ?_) (fun c => ?_)
    · replace h := h.1 (of_decide_eq_true c)
      exact w_end am_e285 rfl rfl rfl h
    · replace h := h.2 (of_decide_eq_false c)
      refine w_st (i' := 13) (ls' := [.ref 99, d1, .int x2, .int x3, .int x4, .int x5]) (st' := [.ref 99]) (E' := E) (I' := I) (J' := J) (S' := S) am_e285 rfl rfl rfl rfl ?_
      refine w_st (i' := 14) (ls' := [.ref 99, d1, .int x2, .int x3, .int x4, .int x5]) (st' := [.int x2, .ref 99]) (E' := E) (I' := I) (J' := J) (S' := S) am_e285 rfl rfl rfl rfl ?_
      refine w_st (i' := 15) (ls' := [.ref 99, d1, .int x2, .int x3, .int x4, .int x5]) (st' := [.int (nI 0), .int x2, .ref 99]) (E' := E) (I' := I) (J' := J) (S' := S) am_e285 rfl rfl rfl rfl ?_
      refine w_cI am_e285 rfl rfl (as := [.ref 99, .int x2, .int (nI 0)]) (rest := []) rfl rfl (am_ww.mono h ?_)
      rintro _ E1 I1 J1 S1 ⟨v1, rfl, h⟩
      refine q_mkI ?_
      refine w_st (i' := 17) (ls' := [.ref 99, d1, .int x2, .int x3, .int v1, .int x5]) (st' := []) (E' := E1) (I' := I1) (J' := J1) (S' := S1) am_e285 rfl rfl rfl rfl ?_
      refine w_st (i' := 18) (ls' := [.ref 99, d1, .int x2, .int x3, .int v1, .int (x5 + nI 1)]) (st' := []) (E' := E1) (I' := I1) (J' := J1) (S' := S1) am_e285 rfl rfl rfl rfl ?_
      refine w_st (i' := 7) (ls' := [.ref 99, d1, .int x2, .int x3, .int v1, .int (x5 + nI 1)]) (st' := []) (E' := E1) (I' := I1) (J' := J1) (S' := S1) am_e285 rfl rfl rfl rfl ?_
      exact h
-- 286 areLike
theorem g286_0 {p1 : Int32} {p2 : Int32} {E : am_Ev} {I : Nat → Nat → Int32} {J : Nat → Nat → Int64} {S : Nat → Nat → Option Nat} {Q : am_Qt}  (h : am_ww 286 2 [.ref 99, .int p1, .int p2, .int (nI 0)] [] E I J S Q) : am_ww 286 0 [.ref 99, .int p1, .int p2, am_U] [] E I J S Q := by
  refine w_st (i' := 1) (ls' := [.ref 99, .int p1, .int p2, am_U]) (st' := [.int (nI 0)]) (E' := E) (I' := I) (J' := J) (S' := S) am_e286 rfl rfl rfl rfl ?_
  refine w_st (i' := 2) (ls' := [.ref 99, .int p1, .int p2, .int (nI 0)]) (st' := []) (E' := E) (I' := I) (J' := J) (S' := S) am_e286 rfl rfl rfl rfl ?_
  exact h
theorem g286_2 {x1 : Int32} {x2 : Int32} {x3 : Int32} {E : am_Ev} {I : Nat → Nat → Int32} {J : Nat → Nat → Int64} {S : Nat → Nat → Option Nat} {Q : am_Qt}  (h : ((nI 16) ≤ x3 → (Q (.inl (some (.int (nI 1)))) E I J S)) ∧ (¬ (nI 16) ≤ x3 → (vp_in (((nI 16) * x1) + x3) 112 ∧ (vp_in (((nI 16) * x2) + x3) 112 ∧ ((((I 133) ((((nI 16) * x1) + x3).toNatClampNeg)) = ((I 133) ((((nI 16) * x2) + x3).toNatClampNeg)) → (am_ww 286 2 [.ref 99, .int x1, .int x2, .int (x3 + nI 1)] [] E I J S Q)) ∧ (¬ ((I 133) ((((nI 16) * x1) + x3).toNatClampNeg)) = ((I 133) ((((nI 16) * x2) + x3).toNatClampNeg)) → (Q (.inl (some (.int (nI 0)))) E I J S))))))) : am_ww 286 2 [.ref 99, .int x1, .int x2, .int x3] [] E I J S Q := by
  refine w_st (i' := 3) (ls' := [.ref 99, .int x1, .int x2, .int x3]) (st' := [.int x3]) (E' := E) (I' := I) (J' := J) (S' := S) am_e286 rfl rfl rfl rfl ?_
  refine w_st (i' := 4) (ls' := [.ref 99, .int x1, .int x2, .int x3]) (st' := [.int (nI 16), .int x3]) (E' := E) (I' := I) (J' := J) (S' := S) am_e286 rfl rfl rfl rfl ?_
  refine w_if2 am_e286 rfl rfl (fun c => ?_) (fun c => ?_)
  · replace h := h.1 (of_decide_eq_true c)
    refine w_st (i' := 27) (ls' := [.ref 99, .int x1, .int x2, .int x3]) (st' := [.int (nI 1)]) (E' := E) (I' := I) (J' := J) (S' := S) am_e286 rfl rfl rfl rfl ?_
    exact w_end am_e286 rfl rfl rfl h
  · replace h := h.2 (of_decide_eq_false c)
    refine w_st (i' := 6) (ls' := [.ref 99, .int x1, .int x2, .int x3]) (st' := [.ref 99]) (E' := E) (I' := I) (J' := J) (S' := S) am_e286 rfl rfl rfl rfl ?_
    refine w_st (i' := 7) (ls' := [.ref 99, .int x1, .int x2, .int x3]) (st' := [.ref 133]) (E' := E) (I' := I) (J' := J) (S' := S) am_e286 rfl rfl rfl rfl ?_
    refine w_st (i' := 8) (ls' := [.ref 99, .int x1, .int x2, .int x3]) (st' := [.int (nI 16), .ref 133]) (E' := E) (I' := I) (J' := J) (S' := S) am_e286 rfl rfl rfl rfl ?_
    refine w_st (i' := 9) (ls' := [.ref 99, .int x1, .int x2, .int x3]) (st' := [.int x1, .int (nI 16), .ref 133]) (E' := E) (I' := I) (J' := J) (S' := S) am_e286 rfl rfl rfl rfl ?_
    refine w_st (i' := 10) (ls' := [.ref 99, .int x1, .int x2, .int x3]) (st' := [.int ((nI 16) * x1), .ref 133]) (E' := E) (I' := I) (J' := J) (S' := S) am_e286 rfl rfl rfl rfl ?_
    refine w_st (i' := 11) (ls' := [.ref 99, .int x1, .int x2, .int x3]) (st' := [.int x3, .int ((nI 16) * x1), .ref 133]) (E' := E) (I' := I) (J' := J) (S' := S) am_e286 rfl rfl rfl rfl ?_
    refine w_st (i' := 12) (ls' := [.ref 99, .int x1, .int x2, .int x3]) (st' := [.int (((nI 16) * x1) + x3), .ref 133]) (E' := E) (I' := I) (J' := J) (S' := S) am_e286 rfl rfl rfl rfl ?_
    have hf1 := h.1
    replace h := h.2
    refine w_ia (k := 133) (n := 112) (jn := (((nI 16) * x1) + x3).toNatClampNeg) am_e286 rfl rfl (by decide) hf1 rfl ?_
    refine w_st (i' := 14) (ls' := [.ref 99, .int x1, .int x2, .int x3]) (st' := [.ref 99, .int ((I 133) ((((nI 16) * x1) + x3).toNatClampNeg))]) (E' := E) (I' := I) (J' := J) (S' := S) am_e286 rfl rfl rfl rfl ?_
    refine w_st (i' := 15) (ls' := [.ref 99, .int x1, .int x2, .int x3]) (st' := [.ref 133, .int ((I 133) ((((nI 16) * x1) + x3).toNatClampNeg))]) (E' := E) (I' := I) (J' := J) (S' := S) am_e286 rfl rfl rfl rfl ?_
    refine w_st (i' := 16) (ls' := [.ref 99, .int x1, .int x2, .int x3]) (st' := [.int (nI 16), .ref 133, .int ((I 133) ((((nI 16) * x1) + x3).toNatClampNeg))]) (E' := E) (I' := I) (J' := J) (S' := S) am_e286 rfl rfl rfl rfl ?_
    refine w_st (i' := 17) (ls' := [.ref 99, .int x1, .int x2, .int x3]) (st' := [.int x2, .int (nI 16), .ref 133, .int ((I 133) ((((nI 16) * x1) + x3).toNatClampNeg))]) (E' := E) (I' := I) (J' := J) (S' := S) am_e286 rfl rfl rfl rfl ?_
    refine w_st (i' := 18) (ls' := [.ref 99, .int x1, .int x2, .int x3]) (st' := [.int ((nI 16) * x2), .ref 133, .int ((I 133) ((((nI 16) * x1) + x3).toNatClampNeg))]) (E' := E) (I' := I) (J' := J) (S' := S) am_e286 rfl rfl rfl rfl ?_
    refine w_st (i' := 19) (ls' := [.ref 99, .int x1, .int x2, .int x3]) (st' := [.int x3, .int ((nI 16) * x2), .ref 133, .int ((I 133) ((((nI 16) * x1) + x3).toNatClampNeg))]) (E' := E) (I' := I) (J' := J) (S' := S) am_e286 rfl rfl rfl rfl ?_
    refine w_st (i' := 20) (ls' := [.ref 99, .int x1, .int x2, .int x3]) (st' := [.int (((nI 16) * x2) + x3), .ref 133, .int ((I 133) ((((nI 16) * x1) + x3).toNatClampNeg))]) (E' := E) (I' := I) (J' := J) (S' := S) am_e286 rfl rfl rfl rfl ?_
    have hf2 := h.1
    replace h := h.2
    refine w_ia (k := 133) (n := 112) (jn := (((nI 16) * x2) + x3).toNatClampNeg) am_e286 rfl rfl (by decide) hf2 rfl ?_
    refine w_if2 am_e286 rfl rfl (fun c => ?_) (fun c => ?_)
    · replace h := h.1 (of_decide_eq_true c)
      refine w_st (i' := 25) (ls' := [.ref 99, .int x1, .int x2, .int (x3 + nI 1)]) (st' := []) (E' := E) (I' := I) (J' := J) (S' := S) am_e286 rfl rfl rfl rfl ?_
      refine w_st (i' := 2) (ls' := [.ref 99, .int x1, .int x2, .int (x3 + nI 1)]) (st' := []) (E' := E) (I' := I) (J' := J) (S' := S) am_e286 rfl rfl rfl rfl ?_
      exact h
    · replace h := h.2 (of_decide_eq_false c)
      refine w_st (i' := 23) (ls' := [.ref 99, .int x1, .int x2, .int x3]) (st' := [.int (nI 0)]) (E' := E) (I' := I) (J' := J) (S' := S) am_e286 rfl rfl rfl rfl ?_
      exact w_end am_e286 rfl rfl rfl h
-- 284 outcomes
theorem g284_0 {p1 : Int32} {p2 : Int32} {E : am_Ev} {I : Nat → Nat → Int32} {J : Nat → Nat → Int64} {S : Nat → Nat → Option Nat} {Q : am_Qt}  (h : (p2 < (nI 0) → (Q (.inl (some (.int (nI 0)))) E (u_I I 99 (upd (upd (I 99) 3 (nI 0)) 3 (nI 1))) J S)) ∧ (¬ p2 < (nI 0) → (((nI 1) < p2 → (Q (.inl (some (.int (nI 0)))) E (u_I I 99 (upd (upd (I 99) 3 (nI 0)) 3 (nI 1))) J S)) ∧ (¬ (nI 1) < p2 → ((p1 < (nI 0) → (Q (.inl (some (.int (nI 0)))) E (u_I I 99 (upd (upd (I 99) 3 (nI 0)) 3 (nI 2))) J S)) ∧ (¬ p1 < (nI 0) → (((nI 400) < p1 → (Q (.inl (some (.int (nI 0)))) E (u_I I 99 (upd (upd (I 99) 3 (nI 0)) 3 (nI 2))) J S)) ∧ (¬ (nI 400) < p1 → (am_ww 284 27 [.ref 99, .int p1, .int p2, .int (nI 0), .int (-1), .int (nI 0), am_U, am_U] [] E (u_I I 99 (upd (I 99) 3 (nI 0))) J S Q))))))))) : am_ww 284 0 [.ref 99, .int p1, .int p2, am_U, am_U, am_U, am_U, am_U] [] E I J S Q := by
  refine w_st (i' := 1) (ls' := [.ref 99, .int p1, .int p2, am_U, am_U, am_U, am_U, am_U]) (st' := [.ref 99]) (E' := E) (I' := I) (J' := J) (S' := S) am_e284 rfl rfl rfl rfl ?_
  refine w_st (i' := 2) (ls' := [.ref 99, .int p1, .int p2, am_U, am_U, am_U, am_U, am_U]) (st' := [.int (nI 0), .ref 99]) (E' := E) (I' := I) (J' := J) (S' := S) am_e284 rfl rfl rfl rfl ?_
  refine w_st (i' := 3) (ls' := [.ref 99, .int p1, .int p2, am_U, am_U, am_U, am_U, am_U]) (st' := []) (E' := E) (I' := (u_I I 99 (upd (I 99) 3 (nI 0)))) (J' := J) (S' := S) am_e284 rfl rfl rfl rfl ?_
  refine w_st (i' := 4) (ls' := [.ref 99, .int p1, .int p2, am_U, am_U, am_U, am_U, am_U]) (st' := [.int p2]) (E' := E) (I' := (u_I I 99 (upd (I 99) 3 (nI 0)))) (J' := J) (S' := S) am_e284 rfl rfl rfl rfl ?_
  refine w_st (i' := 5) (ls' := [.ref 99, .int p1, .int p2, am_U, am_U, am_U, am_U, am_U]) (st' := [.int (nI 0), .int p2]) (E' := E) (I' := (u_I I 99 (upd (I 99) 3 (nI 0)))) (J' := J) (S' := S) am_e284 rfl rfl rfl rfl ?_
  refine w_st (i' := 6) (ls' := [.ref 99, .int p1, .int p2, am_U, am_U, am_U, am_U, am_U]) (st' := [.int (nI 1), .int (nI 0), .int p2]) (E' := E) (I' := (u_I I 99 (upd (I 99) 3 (nI 0)))) (J' := J) (S' := S) am_e284 rfl rfl rfl rfl ?_
  refine w_cI am_e284 rfl rfl (as := [.int p2, .int (nI 0), .int (nI 1)]) (rest := []) rfl rfl ?_
  show am_ww 232 0 [.int p2, .int (nI 0), .int (nI 1)] [] E (u_I I 99 (upd (I 99) 3 (nI 0))) J S _
  refine w_st (i' := 1) (ls' := [.int p2, .int (nI 0), .int (nI 1)]) (st' := [.int p2]) (E' := E) (I' := (u_I I 99 (upd (I 99) 3 (nI 0)))) (J' := J) (S' := S) am_e232 rfl rfl rfl rfl ?_
  refine w_st (i' := 2) (ls' := [.int p2, .int (nI 0), .int (nI 1)]) (st' := [.int (nI 0), .int p2]) (E' := E) (I' := (u_I I 99 (upd (I 99) 3 (nI 0)))) (J' := J) (S' := S) am_e232 rfl rfl rfl rfl ?_
  refine w_if2 am_e232 rfl rfl (fun c => ?_) (fun c => ?_)
  · replace h := h.1 (of_decide_eq_true c)
    refine w_st (i' := 9) (ls' := [.int p2, .int (nI 0), .int (nI 1)]) (st' := [.int (nI 0)]) (E' := E) (I' := (u_I I 99 (upd (I 99) 3 (nI 0)))) (J' := J) (S' := S) am_e232 rfl rfl rfl rfl ?_
    refine w_end (E' := E) (I' := (u_I I 99 (upd (I 99) 3 (nI 0)))) (J' := J) (S' := S) am_e232 rfl rfl rfl (q_mkI ?_)
    show am_ww 284 7 [.ref 99, .int p1, .int p2, am_U, am_U, am_U, am_U, am_U] [.int (nI 0)] E (u_I I 99 (upd (I 99) 3 (nI 0))) J S _
    refine w_st (i' := 8) (ls' := [.ref 99, .int p1, .int p2, am_U, am_U, am_U, am_U, am_U]) (st' := []) (E' := E) (I' := (u_I I 99 (upd (I 99) 3 (nI 0)))) (J' := J) (S' := S) am_e284 rfl rfl rfl rfl ?_
    refine w_st (i' := 9) (ls' := [.ref 99, .int p1, .int p2, am_U, am_U, am_U, am_U, am_U]) (st' := [.ref 99]) (E' := E) (I' := (u_I I 99 (upd (I 99) 3 (nI 0)))) (J' := J) (S' := S) am_e284 rfl rfl rfl rfl ?_
    refine w_st (i' := 10) (ls' := [.ref 99, .int p1, .int p2, am_U, am_U, am_U, am_U, am_U]) (st' := [.int (nI 1), .ref 99]) (E' := E) (I' := (u_I I 99 (upd (I 99) 3 (nI 0)))) (J' := J) (S' := S) am_e284 rfl rfl rfl rfl ?_
    refine w_cI am_e284 rfl rfl (as := [.ref 99, .int (nI 1)]) (rest := []) rfl rfl ?_
    show am_ww 189 0 [.ref 99, .int (nI 1)] [] E (u_I I 99 (upd (I 99) 3 (nI 0))) J S _
    refine w_st (i' := 1) (ls' := [.ref 99, .int (nI 1)]) (st' := [.ref 99]) (E' := E) (I' := (u_I I 99 (upd (I 99) 3 (nI 0)))) (J' := J) (S' := S) am_e189 rfl rfl rfl rfl ?_
    refine w_st (i' := 2) (ls' := [.ref 99, .int (nI 1)]) (st' := [.int (nI 1), .ref 99]) (E' := E) (I' := (u_I I 99 (upd (I 99) 3 (nI 0)))) (J' := J) (S' := S) am_e189 rfl rfl rfl rfl ?_
    refine w_st (i' := 3) (ls' := [.ref 99, .int (nI 1)]) (st' := []) (E' := E) (I' := (u_I (u_I I 99 (upd (I 99) 3 (nI 0))) 99 (upd (upd (I 99) 3 (nI 0)) 3 (nI 1)))) (J' := J) (S' := S) am_e189 rfl rfl rfl rfl ?_
    refine w_eI (uI_0 ..) ?_
    show am_ww 189 3 [.ref 99, .int (nI 1)] [] E (u_I I 99 (upd (upd (I 99) 3 (nI 0)) 3 (nI 1))) J S _
    refine w_st (i' := 4) (ls' := [.ref 99, .int (nI 1)]) (st' := [.int (nI 0)]) (E' := E) (I' := (u_I I 99 (upd (upd (I 99) 3 (nI 0)) 3 (nI 1)))) (J' := J) (S' := S) am_e189 rfl rfl rfl rfl ?_
    refine w_end (E' := E) (I' := (u_I I 99 (upd (upd (I 99) 3 (nI 0)) 3 (nI 1)))) (J' := J) (S' := S) am_e189 rfl rfl rfl (q_mkI ?_)
    show am_ww 284 11 [.ref 99, .int p1, .int p2, am_U, am_U, am_U, am_U, am_U] [.int (nI 0)] E (u_I I 99 (upd (upd (I 99) 3 (nI 0)) 3 (nI 1))) J S _
    exact w_end am_e284 rfl rfl rfl h
  · replace h := h.2 (of_decide_eq_false c)
    refine w_st (i' := 4) (ls' := [.int p2, .int (nI 0), .int (nI 1)]) (st' := [.int p2]) (E' := E) (I' := (u_I I 99 (upd (I 99) 3 (nI 0)))) (J' := J) (S' := S) am_e232 rfl rfl rfl rfl ?_
    refine w_st (i' := 5) (ls' := [.int p2, .int (nI 0), .int (nI 1)]) (st' := [.int (nI 1), .int p2]) (E' := E) (I' := (u_I I 99 (upd (I 99) 3 (nI 0)))) (J' := J) (S' := S) am_e232 rfl rfl rfl rfl ?_
    refine w_if2 am_e232 rfl rfl (fun c => ?_) (fun c => ?_)
    · replace h := h.1 (of_decide_eq_true c)
      refine w_st (i' := 9) (ls' := [.int p2, .int (nI 0), .int (nI 1)]) (st' := [.int (nI 0)]) (E' := E) (I' := (u_I I 99 (upd (I 99) 3 (nI 0)))) (J' := J) (S' := S) am_e232 rfl rfl rfl rfl ?_
      refine w_end (E' := E) (I' := (u_I I 99 (upd (I 99) 3 (nI 0)))) (J' := J) (S' := S) am_e232 rfl rfl rfl (q_mkI ?_)
      show am_ww 284 7 [.ref 99, .int p1, .int p2, am_U, am_U, am_U, am_U, am_U] [.int (nI 0)] E (u_I I 99 (upd (I 99) 3 (nI 0))) J S _
      refine w_st (i' := 8) (ls' := [.ref 99, .int p1, .int p2, am_U, am_U, am_U, am_U, am_U]) (st' := []) (E' := E) (I' := (u_I I 99 (upd (I 99) 3 (nI 0)))) (J' := J) (S' := S) am_e284 rfl rfl rfl rfl ?_
      refine w_st (i' := 9) (ls' := [.ref 99, .int p1, .int p2, am_U, am_U, am_U, am_U, am_U]) (st' := [.ref 99]) (E' := E) (I' := (u_I I 99 (upd (I 99) 3 (nI 0)))) (J' := J) (S' := S) am_e284 rfl rfl rfl rfl ?_
      refine w_st (i' := 10) (ls' := [.ref 99, .int p1, .int p2, am_U, am_U, am_U, am_U, am_U]) (st' := [.int (nI 1), .ref 99]) (E' := E) (I' := (u_I I 99 (upd (I 99) 3 (nI 0)))) (J' := J) (S' := S) am_e284 rfl rfl rfl rfl ?_
      refine w_cI am_e284 rfl rfl (as := [.ref 99, .int (nI 1)]) (rest := []) rfl rfl ?_
      show am_ww 189 0 [.ref 99, .int (nI 1)] [] E (u_I I 99 (upd (I 99) 3 (nI 0))) J S _
      refine w_st (i' := 1) (ls' := [.ref 99, .int (nI 1)]) (st' := [.ref 99]) (E' := E) (I' := (u_I I 99 (upd (I 99) 3 (nI 0)))) (J' := J) (S' := S) am_e189 rfl rfl rfl rfl ?_
      refine w_st (i' := 2) (ls' := [.ref 99, .int (nI 1)]) (st' := [.int (nI 1), .ref 99]) (E' := E) (I' := (u_I I 99 (upd (I 99) 3 (nI 0)))) (J' := J) (S' := S) am_e189 rfl rfl rfl rfl ?_
      refine w_st (i' := 3) (ls' := [.ref 99, .int (nI 1)]) (st' := []) (E' := E) (I' := (u_I (u_I I 99 (upd (I 99) 3 (nI 0))) 99 (upd (upd (I 99) 3 (nI 0)) 3 (nI 1)))) (J' := J) (S' := S) am_e189 rfl rfl rfl rfl ?_
      refine w_eI (uI_0 ..) ?_
      show am_ww 189 3 [.ref 99, .int (nI 1)] [] E (u_I I 99 (upd (upd (I 99) 3 (nI 0)) 3 (nI 1))) J S _
      refine w_st (i' := 4) (ls' := [.ref 99, .int (nI 1)]) (st' := [.int (nI 0)]) (E' := E) (I' := (u_I I 99 (upd (upd (I 99) 3 (nI 0)) 3 (nI 1)))) (J' := J) (S' := S) am_e189 rfl rfl rfl rfl ?_
      refine w_end (E' := E) (I' := (u_I I 99 (upd (upd (I 99) 3 (nI 0)) 3 (nI 1)))) (J' := J) (S' := S) am_e189 rfl rfl rfl (q_mkI ?_)
      show am_ww 284 11 [.ref 99, .int p1, .int p2, am_U, am_U, am_U, am_U, am_U] [.int (nI 0)] E (u_I I 99 (upd (upd (I 99) 3 (nI 0)) 3 (nI 1))) J S _
      exact w_end am_e284 rfl rfl rfl h
    · replace h := h.2 (of_decide_eq_false c)
      refine w_st (i' := 7) (ls' := [.int p2, .int (nI 0), .int (nI 1)]) (st' := [.int (nI 1)]) (E' := E) (I' := (u_I I 99 (upd (I 99) 3 (nI 0)))) (J' := J) (S' := S) am_e232 rfl rfl rfl rfl ?_
      refine w_st (i' := 9) (ls' := [.int p2, .int (nI 0), .int (nI 1)]) (st' := [.int (nI 1)]) (E' := E) (I' := (u_I I 99 (upd (I 99) 3 (nI 0)))) (J' := J) (S' := S) am_e232 rfl rfl rfl rfl ?_
      refine w_end (E' := E) (I' := (u_I I 99 (upd (I 99) 3 (nI 0)))) (J' := J) (S' := S) am_e232 rfl rfl rfl (q_mkI ?_)
      show am_ww 284 7 [.ref 99, .int p1, .int p2, am_U, am_U, am_U, am_U, am_U] [.int (nI 1)] E (u_I I 99 (upd (I 99) 3 (nI 0))) J S _
      refine w_st (i' := 12) (ls' := [.ref 99, .int p1, .int p2, am_U, am_U, am_U, am_U, am_U]) (st' := []) (E' := E) (I' := (u_I I 99 (upd (I 99) 3 (nI 0)))) (J' := J) (S' := S) am_e284 rfl rfl rfl rfl ?_
      refine w_st (i' := 13) (ls' := [.ref 99, .int p1, .int p2, am_U, am_U, am_U, am_U, am_U]) (st' := [.int p1]) (E' := E) (I' := (u_I I 99 (upd (I 99) 3 (nI 0)))) (J' := J) (S' := S) am_e284 rfl rfl rfl rfl ?_
      refine w_st (i' := 14) (ls' := [.ref 99, .int p1, .int p2, am_U, am_U, am_U, am_U, am_U]) (st' := [.int (nI 0), .int p1]) (E' := E) (I' := (u_I I 99 (upd (I 99) 3 (nI 0)))) (J' := J) (S' := S) am_e284 rfl rfl rfl rfl ?_
      refine w_st (i' := 15) (ls' := [.ref 99, .int p1, .int p2, am_U, am_U, am_U, am_U, am_U]) (st' := [.int (nI 400), .int (nI 0), .int p1]) (E' := E) (I' := (u_I I 99 (upd (I 99) 3 (nI 0)))) (J' := J) (S' := S) am_e284 rfl rfl rfl rfl ?_
      refine w_cI am_e284 rfl rfl (as := [.int p1, .int (nI 0), .int (nI 400)]) (rest := []) rfl rfl ?_
      show am_ww 232 0 [.int p1, .int (nI 0), .int (nI 400)] [] E (u_I I 99 (upd (I 99) 3 (nI 0))) J S _
      refine w_st (i' := 1) (ls' := [.int p1, .int (nI 0), .int (nI 400)]) (st' := [.int p1]) (E' := E) (I' := (u_I I 99 (upd (I 99) 3 (nI 0)))) (J' := J) (S' := S) am_e232 rfl rfl rfl rfl ?_
      refine w_st (i' := 2) (ls' := [.int p1, .int (nI 0), .int (nI 400)]) (st' := [.int (nI 0), .int p1]) (E' := E) (I' := (u_I I 99 (upd (I 99) 3 (nI 0)))) (J' := J) (S' := S) am_e232 rfl rfl rfl rfl ?_
      refine w_if2 am_e232 rfl rfl (fun c => ?_) (fun c => ?_)
      · replace h := h.1 (of_decide_eq_true c)
        refine w_st (i' := 9) (ls' := [.int p1, .int (nI 0), .int (nI 400)]) (st' := [.int (nI 0)]) (E' := E) (I' := (u_I I 99 (upd (I 99) 3 (nI 0)))) (J' := J) (S' := S) am_e232 rfl rfl rfl rfl ?_
        refine w_end (E' := E) (I' := (u_I I 99 (upd (I 99) 3 (nI 0)))) (J' := J) (S' := S) am_e232 rfl rfl rfl (q_mkI ?_)
        show am_ww 284 16 [.ref 99, .int p1, .int p2, am_U, am_U, am_U, am_U, am_U] [.int (nI 0)] E (u_I I 99 (upd (I 99) 3 (nI 0))) J S _
        refine w_st (i' := 17) (ls' := [.ref 99, .int p1, .int p2, am_U, am_U, am_U, am_U, am_U]) (st' := []) (E' := E) (I' := (u_I I 99 (upd (I 99) 3 (nI 0)))) (J' := J) (S' := S) am_e284 rfl rfl rfl rfl ?_
        refine w_st (i' := 18) (ls' := [.ref 99, .int p1, .int p2, am_U, am_U, am_U, am_U, am_U]) (st' := [.ref 99]) (E' := E) (I' := (u_I I 99 (upd (I 99) 3 (nI 0)))) (J' := J) (S' := S) am_e284 rfl rfl rfl rfl ?_
        refine w_st (i' := 19) (ls' := [.ref 99, .int p1, .int p2, am_U, am_U, am_U, am_U, am_U]) (st' := [.int (nI 2), .ref 99]) (E' := E) (I' := (u_I I 99 (upd (I 99) 3 (nI 0)))) (J' := J) (S' := S) am_e284 rfl rfl rfl rfl ?_
        refine w_cI am_e284 rfl rfl (as := [.ref 99, .int (nI 2)]) (rest := []) rfl rfl ?_
        show am_ww 189 0 [.ref 99, .int (nI 2)] [] E (u_I I 99 (upd (I 99) 3 (nI 0))) J S _
        refine w_st (i' := 1) (ls' := [.ref 99, .int (nI 2)]) (st' := [.ref 99]) (E' := E) (I' := (u_I I 99 (upd (I 99) 3 (nI 0)))) (J' := J) (S' := S) am_e189 rfl rfl rfl rfl ?_
        refine w_st (i' := 2) (ls' := [.ref 99, .int (nI 2)]) (st' := [.int (nI 2), .ref 99]) (E' := E) (I' := (u_I I 99 (upd (I 99) 3 (nI 0)))) (J' := J) (S' := S) am_e189 rfl rfl rfl rfl ?_
        refine w_st (i' := 3) (ls' := [.ref 99, .int (nI 2)]) (st' := []) (E' := E) (I' := (u_I (u_I I 99 (upd (I 99) 3 (nI 0))) 99 (upd (upd (I 99) 3 (nI 0)) 3 (nI 2)))) (J' := J) (S' := S) am_e189 rfl rfl rfl rfl ?_
        refine w_eI (uI_0 ..) ?_
        show am_ww 189 3 [.ref 99, .int (nI 2)] [] E (u_I I 99 (upd (upd (I 99) 3 (nI 0)) 3 (nI 2))) J S _
        refine w_st (i' := 4) (ls' := [.ref 99, .int (nI 2)]) (st' := [.int (nI 0)]) (E' := E) (I' := (u_I I 99 (upd (upd (I 99) 3 (nI 0)) 3 (nI 2)))) (J' := J) (S' := S) am_e189 rfl rfl rfl rfl ?_
        refine w_end (E' := E) (I' := (u_I I 99 (upd (upd (I 99) 3 (nI 0)) 3 (nI 2)))) (J' := J) (S' := S) am_e189 rfl rfl rfl (q_mkI ?_)
        show am_ww 284 20 [.ref 99, .int p1, .int p2, am_U, am_U, am_U, am_U, am_U] [.int (nI 0)] E (u_I I 99 (upd (upd (I 99) 3 (nI 0)) 3 (nI 2))) J S _
        exact w_end am_e284 rfl rfl rfl h
      · replace h := h.2 (of_decide_eq_false c)
        refine w_st (i' := 4) (ls' := [.int p1, .int (nI 0), .int (nI 400)]) (st' := [.int p1]) (E' := E) (I' := (u_I I 99 (upd (I 99) 3 (nI 0)))) (J' := J) (S' := S) am_e232 rfl rfl rfl rfl ?_
        refine w_st (i' := 5) (ls' := [.int p1, .int (nI 0), .int (nI 400)]) (st' := [.int (nI 400), .int p1]) (E' := E) (I' := (u_I I 99 (upd (I 99) 3 (nI 0)))) (J' := J) (S' := S) am_e232 rfl rfl rfl rfl ?_
        refine w_if2 am_e232 rfl rfl (fun c => ?_) (fun c => ?_)
        · replace h := h.1 (of_decide_eq_true c)
          refine w_st (i' := 9) (ls' := [.int p1, .int (nI 0), .int (nI 400)]) (st' := [.int (nI 0)]) (E' := E) (I' := (u_I I 99 (upd (I 99) 3 (nI 0)))) (J' := J) (S' := S) am_e232 rfl rfl rfl rfl ?_
          refine w_end (E' := E) (I' := (u_I I 99 (upd (I 99) 3 (nI 0)))) (J' := J) (S' := S) am_e232 rfl rfl rfl (q_mkI ?_)
          show am_ww 284 16 [.ref 99, .int p1, .int p2, am_U, am_U, am_U, am_U, am_U] [.int (nI 0)] E (u_I I 99 (upd (I 99) 3 (nI 0))) J S _
          refine w_st (i' := 17) (ls' := [.ref 99, .int p1, .int p2, am_U, am_U, am_U, am_U, am_U]) (st' := []) (E' := E) (I' := (u_I I 99 (upd (I 99) 3 (nI 0)))) (J' := J) (S' := S) am_e284 rfl rfl rfl rfl ?_
          refine w_st (i' := 18) (ls' := [.ref 99, .int p1, .int p2, am_U, am_U, am_U, am_U, am_U]) (st' := [.ref 99]) (E' := E) (I' := (u_I I 99 (upd (I 99) 3 (nI 0)))) (J' := J) (S' := S) am_e284 rfl rfl rfl rfl ?_
          refine w_st (i' := 19) (ls' := [.ref 99, .int p1, .int p2, am_U, am_U, am_U, am_U, am_U]) (st' := [.int (nI 2), .ref 99]) (E' := E) (I' := (u_I I 99 (upd (I 99) 3 (nI 0)))) (J' := J) (S' := S) am_e284 rfl rfl rfl rfl ?_
          refine w_cI am_e284 rfl rfl (as := [.ref 99, .int (nI 2)]) (rest := []) rfl rfl ?_
          show am_ww 189 0 [.ref 99, .int (nI 2)] [] E (u_I I 99 (upd (I 99) 3 (nI 0))) J S _
          refine w_st (i' := 1) (ls' := [.ref 99, .int (nI 2)]) (st' := [.ref 99]) (E' := E) (I' := (u_I I 99 (upd (I 99) 3 (nI 0)))) (J' := J) (S' := S) am_e189 rfl rfl rfl rfl ?_
          refine w_st (i' := 2) (ls' := [.ref 99, .int (nI 2)]) (st' := [.int (nI 2), .ref 99]) (E' := E) (I' := (u_I I 99 (upd (I 99) 3 (nI 0)))) (J' := J) (S' := S) am_e189 rfl rfl rfl rfl ?_
          refine w_st (i' := 3) (ls' := [.ref 99, .int (nI 2)]) (st' := []) (E' := E) (I' := (u_I (u_I I 99 (upd (I 99) 3 (nI 0))) 99 (upd (upd (I 99) 3 (nI 0)) 3 (nI 2)))) (J' := J) (S' := S) am_e189 rfl rfl rfl rfl ?_
          refine w_eI (uI_0 ..) ?_
          show am_ww 189 3 [.ref 99, .int (nI 2)] [] E (u_I I 99 (upd (upd (I 99) 3 (nI 0)) 3 (nI 2))) J S _
          refine w_st (i' := 4) (ls' := [.ref 99, .int (nI 2)]) (st' := [.int (nI 0)]) (E' := E) (I' := (u_I I 99 (upd (upd (I 99) 3 (nI 0)) 3 (nI 2)))) (J' := J) (S' := S) am_e189 rfl rfl rfl rfl ?_
          refine w_end (E' := E) (I' := (u_I I 99 (upd (upd (I 99) 3 (nI 0)) 3 (nI 2)))) (J' := J) (S' := S) am_e189 rfl rfl rfl (q_mkI ?_)
          show am_ww 284 20 [.ref 99, .int p1, .int p2, am_U, am_U, am_U, am_U, am_U] [.int (nI 0)] E (u_I I 99 (upd (upd (I 99) 3 (nI 0)) 3 (nI 2))) J S _
          exact w_end am_e284 rfl rfl rfl h
        · replace h := h.2 (of_decide_eq_false c)
          refine w_st (i' := 7) (ls' := [.int p1, .int (nI 0), .int (nI 400)]) (st' := [.int (nI 1)]) (E' := E) (I' := (u_I I 99 (upd (I 99) 3 (nI 0)))) (J' := J) (S' := S) am_e232 rfl rfl rfl rfl ?_
          refine w_st (i' := 9) (ls' := [.int p1, .int (nI 0), .int (nI 400)]) (st' := [.int (nI 1)]) (E' := E) (I' := (u_I I 99 (upd (I 99) 3 (nI 0)))) (J' := J) (S' := S) am_e232 rfl rfl rfl rfl ?_
          refine w_end (E' := E) (I' := (u_I I 99 (upd (I 99) 3 (nI 0)))) (J' := J) (S' := S) am_e232 rfl rfl rfl (q_mkI ?_)
          show am_ww 284 16 [.ref 99, .int p1, .int p2, am_U, am_U, am_U, am_U, am_U] [.int (nI 1)] E (u_I I 99 (upd (I 99) 3 (nI 0))) J S _
          refine w_st (i' := 21) (ls' := [.ref 99, .int p1, .int p2, am_U, am_U, am_U, am_U, am_U]) (st' := []) (E' := E) (I' := (u_I I 99 (upd (I 99) 3 (nI 0)))) (J' := J) (S' := S) am_e284 rfl rfl rfl rfl ?_
          refine w_st (i' := 22) (ls' := [.ref 99, .int p1, .int p2, am_U, am_U, am_U, am_U, am_U]) (st' := [.int (nI 0)]) (E' := E) (I' := (u_I I 99 (upd (I 99) 3 (nI 0)))) (J' := J) (S' := S) am_e284 rfl rfl rfl rfl ?_
          refine w_st (i' := 23) (ls' := [.ref 99, .int p1, .int p2, .int (nI 0), am_U, am_U, am_U, am_U]) (st' := []) (E' := E) (I' := (u_I I 99 (upd (I 99) 3 (nI 0)))) (J' := J) (S' := S) am_e284 rfl rfl rfl rfl ?_
          refine w_st (i' := 24) (ls' := [.ref 99, .int p1, .int p2, .int (nI 0), am_U, am_U, am_U, am_U]) (st' := [.int (-1)]) (E' := E) (I' := (u_I I 99 (upd (I 99) 3 (nI 0)))) (J' := J) (S' := S) am_e284 rfl rfl rfl rfl ?_
          refine w_st (i' := 25) (ls' := [.ref 99, .int p1, .int p2, .int (nI 0), .int (-1), am_U, am_U, am_U]) (st' := []) (E' := E) (I' := (u_I I 99 (upd (I 99) 3 (nI 0)))) (J' := J) (S' := S) am_e284 rfl rfl rfl rfl ?_
          refine w_st (i' := 26) (ls' := [.ref 99, .int p1, .int p2, .int (nI 0), .int (-1), am_U, am_U, am_U]) (st' := [.int (nI 0)]) (E' := E) (I' := (u_I I 99 (upd (I 99) 3 (nI 0)))) (J' := J) (S' := S) am_e284 rfl rfl rfl rfl ?_
          refine w_st (i' := 27) (ls' := [.ref 99, .int p1, .int p2, .int (nI 0), .int (-1), .int (nI 0), am_U, am_U]) (st' := []) (E' := E) (I' := (u_I I 99 (upd (I 99) 3 (nI 0)))) (J' := J) (S' := S) am_e284 rfl rfl rfl rfl ?_
          exact h
theorem g284_27 {x1 : Int32} {x2 : Int32} {x3 : Int32} {x4 : Int32} {x5 : Int32} {d6 : Value} {d7 : Value} {E : am_Ev} {I : Nat → Nat → Int32} {J : Nat → Nat → Int64} {S : Nat → Nat → Option Nat} {Q : am_Qt} (hd6 : am_isL d6 = false) (hd7 : am_isL d7 = false) (h : ((nI 7) ≤ x5 → (Q (.inl (some (.int (if x2 = 0 then x3 else x4)))) E I J S)) ∧ (¬ (nI 7) ≤ x5 → (am_cl 285 [.ref 99, .int x5, .int ((I 103) 0), .int x1] E I J S (q_V fun E2 I2 J2 S2 => am_ww 284 40 [.ref 99, .int x1, .int x2, .int x3, .int x4, .int x5, .int (nI 0), d7] [] E2 I2 J2 S2 Q)))) : am_ww 284 27 [.ref 99, .int x1, .int x2, .int x3, .int x4, .int x5, d6, d7] [] E I J S Q := by
  refine w_st (i' := 28) (ls' := [.ref 99, .int x1, .int x2, .int x3, .int x4, .int x5, d6, d7]) (st' := [.int x5]) (E' := E) (I' := I) (J' := J) (S' := S) am_e284 rfl rfl rfl rfl ?_
  refine w_st (i' := 29) (ls' := [.ref 99, .int x1, .int x2, .int x3, .int x4, .int x5, d6, d7]) (st' := [.int (nI 7), .int x5]) (E' := E) (I' := I) (J' := J) (S' := S) am_e284 rfl rfl rfl rfl ?_
  refine w_if2 am_e284 rfl rfl (fun c => ?_) (fun c => ?_)
  · replace h := h.1 (of_decide_eq_true c)
    refine w_st (i' := 98) (ls' := [.ref 99, .int x1, .int x2, .int x3, .int x4, .int x5, d6, d7]) (st' := [.int x2]) (E' := E) (I' := I) (J' := J) (S' := S) am_e284 rfl rfl rfl rfl ?_
    refine w_mg (i := 102) (ls' := [.ref 99, .int x1, .int x2, .int x3, .int x4, .int x5, d6, d7]) (st' := [.int (if x2 = 0 then x3 else x4)]) (fun hm => ?_) ?_
    · clear h
      refine w_if1 am_e284 rfl rfl (fun c => ?_) (fun c => ?_)
      · have m1 : ¬ (x2 = 0) := (of_decide_eq_true c)
        refine w_st (i' := 102) (ls' := [.ref 99, .int x1, .int x2, .int x3, .int x4, .int x5, d6, d7]) (st' := [.int x4]) (E' := E) (I' := I) (J' := J) (S' := S) am_e284 rfl rfl rfl rfl ?_
        first | exact hm | (simp only [if_neg m1] at hm; exact hm)
      · have m1 : x2 = 0 := (Decidable.not_not.mp (of_decide_eq_false c))
        refine w_st (i' := 100) (ls' := [.ref 99, .int x1, .int x2, .int x3, .int x4, .int x5, d6, d7]) (st' := [.int x3]) (E' := E) (I' := I) (J' := J) (S' := S) am_e284 rfl rfl rfl rfl ?_
        refine w_st (i' := 102) (ls' := [.ref 99, .int x1, .int x2, .int x3, .int x4, .int x5, d6, d7]) (st' := [.int x3]) (E' := E) (I' := I) (J' := J) (S' := S) am_e284 rfl rfl rfl rfl ?_
        first | exact hm | (simp only [if_pos m1] at hm; exact hm)
    exact w_ri am_e284 rfl rfl h
  · replace h := h.2 (of_decide_eq_false c)
    refine w_st (i' := 31) (ls' := [.ref 99, .int x1, .int x2, .int x3, .int x4, .int x5, d6, d7]) (st' := [.ref 99]) (E' := E) (I' := I) (J' := J) (S' := S) am_e284 rfl rfl rfl rfl ?_
    refine w_st (i' := 32) (ls' := [.ref 99, .int x1, .int x2, .int x3, .int x4, .int x5, d6, d7]) (st' := [.int x5, .ref 99]) (E' := E) (I' := I) (J' := J) (S' := S) am_e284 rfl rfl rfl rfl ?_
    refine w_st (i' := 33) (ls' := [.ref 99, .int x1, .int x2, .int x3, .int x4, .int x5, d6, d7]) (st' := [.ref 99, .int x5, .ref 99]) (E' := E) (I' := I) (J' := J) (S' := S) am_e284 rfl rfl rfl rfl ?_
    refine w_st (i' := 34) (ls' := [.ref 99, .int x1, .int x2, .int x3, .int x4, .int x5, d6, d7]) (st' := [.ref 103, .int x5, .ref 99]) (E' := E) (I' := I) (J' := J) (S' := S) am_e284 rfl rfl rfl rfl ?_
    refine w_st (i' := 35) (ls' := [.ref 99, .int x1, .int x2, .int x3, .int x4, .int x5, d6, d7]) (st' := [.int (nI 0), .ref 103, .int x5, .ref 99]) (E' := E) (I' := I) (J' := J) (S' := S) am_e284 rfl rfl rfl rfl ?_
    refine w_ia (k := 103) (n := 10) (jn := 0) am_e284 rfl rfl (by decide) (vp_in_nI (by decide) (by decide)) rfl ?_
    show am_ww 284 36 [.ref 99, .int x1, .int x2, .int x3, .int x4, .int x5, d6, d7] [.int ((I 103) 0), .int x5, .ref 99] E I J S _
    refine w_st (i' := 37) (ls' := [.ref 99, .int x1, .int x2, .int x3, .int x4, .int x5, d6, d7]) (st' := [.int x1, .int ((I 103) 0), .int x5, .ref 99]) (E' := E) (I' := I) (J' := J) (S' := S) am_e284 rfl rfl rfl rfl ?_
    refine w_cV am_e284 rfl rfl (as := [.ref 99, .int x5, .int ((I 103) 0), .int x1]) (rest := []) rfl rfl (am_ww.mono h ?_)
    rintro _ E2 I2 J2 S2 ⟨rfl, h⟩
    refine q_mkV ?_
    refine w_st (i' := 39) (ls' := [.ref 99, .int x1, .int x2, .int x3, .int x4, .int x5, d6, d7]) (st' := [.int (nI 0)]) (E' := E2) (I' := I2) (J' := J2) (S' := S2) am_e284 rfl rfl rfl rfl ?_
    refine w_st (i' := 40) (ls' := [.ref 99, .int x1, .int x2, .int x3, .int x4, .int x5, .int (nI 0), d7]) (st' := []) (E' := E2) (I' := I2) (J' := J2) (S' := S2) am_e284 rfl rfl rfl rfl ?_
    exact h
theorem g284_40 {x1 : Int32} {x2 : Int32} {x3 : Int32} {x4 : Int32} {x5 : Int32} {x6 : Int32} {d7 : Value} {E : am_Ev} {I : Nat → Nat → Int32} {J : Nat → Nat → Int64} {S : Nat → Nat → Option Nat} {Q : am_Qt} (hd7 : am_isL d7 = false) (h : ((nI 16) ≤ x6 → (am_ww 284 61 [.ref 99, .int x1, .int x2, .int x3, .int x4, .int x5, .int (nI 1), .int (nI 0)] [] E I J S Q)) ∧ (¬ (nI 16) ≤ x6 → (vp_in x6 51 ∧ (vp_in (((nI 16) * x5) + x6) 112 ∧ (am_ww 284 40 [.ref 99, .int x1, .int x2, .int x3, .int x4, .int x5, .int (x6 + nI 1), d7] [] E (u_I I 133 (upd (I 133) ((((nI 16) * x5) + x6).toNatClampNeg) ((I 116) x6.toNatClampNeg))) J S Q))))) : am_ww 284 40 [.ref 99, .int x1, .int x2, .int x3, .int x4, .int x5, .int x6, d7] [] E I J S Q := by
  refine w_st (i' := 41) (ls' := [.ref 99, .int x1, .int x2, .int x3, .int x4, .int x5, .int x6, d7]) (st' := [.int x6]) (E' := E) (I' := I) (J' := J) (S' := S) am_e284 rfl rfl rfl rfl ?_
  refine w_st (i' := 42) (ls' := [.ref 99, .int x1, .int x2, .int x3, .int x4, .int x5, .int x6, d7]) (st' := [.int (nI 16), .int x6]) (E' := E) (I' := I) (J' := J) (S' := S) am_e284 rfl rfl rfl rfl ?_
  refine w_if2 am_e284 rfl rfl (fun c => ?_) (fun c => ?_)
  · replace h := h.1 (of_decide_eq_true c)
    refine w_st (i' := 58) (ls' := [.ref 99, .int x1, .int x2, .int x3, .int x4, .int x5, .int x6, d7]) (st' := [.int (nI 1)]) (E' := E) (I' := I) (J' := J) (S' := S) am_e284 rfl rfl rfl rfl ?_
    refine w_st (i' := 59) (ls' := [.ref 99, .int x1, .int x2, .int x3, .int x4, .int x5, .int (nI 1), d7]) (st' := []) (E' := E) (I' := I) (J' := J) (S' := S) am_e284 rfl rfl rfl rfl ?_
    refine w_st (i' := 60) (ls' := [.ref 99, .int x1, .int x2, .int x3, .int x4, .int x5, .int (nI 1), d7]) (st' := [.int (nI 0)]) (E' := E) (I' := I) (J' := J) (S' := S) am_e284 rfl rfl rfl rfl ?_
    refine w_st (i' := 61) (ls' := [.ref 99, .int x1, .int x2, .int x3, .int x4, .int x5, .int (nI 1), .int (nI 0)]) (st' := []) (E' := E) (I' := I) (J' := J) (S' := S) am_e284 rfl rfl rfl rfl ?_
    exact h
  · replace h := h.2 (of_decide_eq_false c)
    refine w_st (i' := 44) (ls' := [.ref 99, .int x1, .int x2, .int x3, .int x4, .int x5, .int x6, d7]) (st' := [.ref 99]) (E' := E) (I' := I) (J' := J) (S' := S) am_e284 rfl rfl rfl rfl ?_
    refine w_st (i' := 45) (ls' := [.ref 99, .int x1, .int x2, .int x3, .int x4, .int x5, .int x6, d7]) (st' := [.ref 133]) (E' := E) (I' := I) (J' := J) (S' := S) am_e284 rfl rfl rfl rfl ?_
    refine w_st (i' := 46) (ls' := [.ref 99, .int x1, .int x2, .int x3, .int x4, .int x5, .int x6, d7]) (st' := [.int (nI 16), .ref 133]) (E' := E) (I' := I) (J' := J) (S' := S) am_e284 rfl rfl rfl rfl ?_
    refine w_st (i' := 47) (ls' := [.ref 99, .int x1, .int x2, .int x3, .int x4, .int x5, .int x6, d7]) (st' := [.int x5, .int (nI 16), .ref 133]) (E' := E) (I' := I) (J' := J) (S' := S) am_e284 rfl rfl rfl rfl ?_
    refine w_st (i' := 48) (ls' := [.ref 99, .int x1, .int x2, .int x3, .int x4, .int x5, .int x6, d7]) (st' := [.int ((nI 16) * x5), .ref 133]) (E' := E) (I' := I) (J' := J) (S' := S) am_e284 rfl rfl rfl rfl ?_
    refine w_st (i' := 49) (ls' := [.ref 99, .int x1, .int x2, .int x3, .int x4, .int x5, .int x6, d7]) (st' := [.int x6, .int ((nI 16) * x5), .ref 133]) (E' := E) (I' := I) (J' := J) (S' := S) am_e284 rfl rfl rfl rfl ?_
    refine w_st (i' := 50) (ls' := [.ref 99, .int x1, .int x2, .int x3, .int x4, .int x5, .int x6, d7]) (st' := [.int (((nI 16) * x5) + x6), .ref 133]) (E' := E) (I' := I) (J' := J) (S' := S) am_e284 rfl rfl rfl rfl ?_
    refine w_st (i' := 51) (ls' := [.ref 99, .int x1, .int x2, .int x3, .int x4, .int x5, .int x6, d7]) (st' := [.ref 99, .int (((nI 16) * x5) + x6), .ref 133]) (E' := E) (I' := I) (J' := J) (S' := S) am_e284 rfl rfl rfl rfl ?_
    refine w_st (i' := 52) (ls' := [.ref 99, .int x1, .int x2, .int x3, .int x4, .int x5, .int x6, d7]) (st' := [.ref 116, .int (((nI 16) * x5) + x6), .ref 133]) (E' := E) (I' := I) (J' := J) (S' := S) am_e284 rfl rfl rfl rfl ?_
    refine w_st (i' := 53) (ls' := [.ref 99, .int x1, .int x2, .int x3, .int x4, .int x5, .int x6, d7]) (st' := [.int x6, .ref 116, .int (((nI 16) * x5) + x6), .ref 133]) (E' := E) (I' := I) (J' := J) (S' := S) am_e284 rfl rfl rfl rfl ?_
    have hf1 := h.1
    replace h := h.2
    refine w_ia (k := 116) (n := 51) (jn := x6.toNatClampNeg) am_e284 rfl rfl (by decide) hf1 rfl ?_
    have hf2 := h.1
    replace h := h.2
    refine w_is (k := 133) (n := 112) (jn := (((nI 16) * x5) + x6).toNatClampNeg) am_e284 rfl rfl (by decide) hf2 rfl ?_
    show am_ww 284 55 [.ref 99, .int x1, .int x2, .int x3, .int x4, .int x5, .int x6, d7] [] E (u_I I 133 (upd (I 133) ((((nI 16) * x5) + x6).toNatClampNeg) ((I 116) x6.toNatClampNeg))) J S _
    refine w_st (i' := 56) (ls' := [.ref 99, .int x1, .int x2, .int x3, .int x4, .int x5, .int (x6 + nI 1), d7]) (st' := []) (E' := E) (I' := (u_I I 133 (upd (I 133) ((((nI 16) * x5) + x6).toNatClampNeg) ((I 116) x6.toNatClampNeg)))) (J' := J) (S' := S) am_e284 rfl rfl rfl rfl ?_
    refine w_st (i' := 40) (ls' := [.ref 99, .int x1, .int x2, .int x3, .int x4, .int x5, .int (x6 + nI 1), d7]) (st' := []) (E' := E) (I' := (u_I I 133 (upd (I 133) ((((nI 16) * x5) + x6).toNatClampNeg) ((I 116) x6.toNatClampNeg)))) (J' := J) (S' := S) am_e284 rfl rfl rfl rfl ?_
    exact h
theorem g284_61 {x1 : Int32} {x2 : Int32} {x3 : Int32} {x4 : Int32} {x5 : Int32} {x6 : Int32} {x7 : Int32} {E : am_Ev} {I : Nat → Nat → Int32} {J : Nat → Nat → Int64} {S : Nat → Nat → Option Nat} {Q : am_Qt}  (h : (x5 ≤ x7 → (∀ w2 : Int32, w2 = (if x6 = 0 then nI 0 else nI 1) → ((x4 = (-1) → (am_cl 286 [.ref 99, .int (nI 0), .int x5] E I J S (q_I fun v3 E3 I3 J3 S3 => am_ww 284 27 [.ref 99, .int x1, .int x2, .int (x3 + w2), .int (if v3 = 0 then x5 else x4), .int (x5 + nI 1), .int x6, .int x7] [] E3 I3 J3 S3 Q))) ∧ (¬ x4 = (-1) → (am_ww 284 27 [.ref 99, .int x1, .int x2, .int (x3 + w2), .int x4, .int (x5 + nI 1), .int x6, .int x7] [] E I J S Q))))) ∧ (¬ x5 ≤ x7 → ((x6 = 0 → (am_ww 284 61 [.ref 99, .int x1, .int x2, .int x3, .int x4, .int x5, .int (nI 0), .int (x7 + nI 1)] [] E I J S Q)) ∧ (¬ x6 = 0 → (am_cl 286 [.ref 99, .int x7, .int x5] E I J S (q_I fun v5 E5 I5 J5 S5 => ∀ w7 : Int32, w7 = (if v5 = 0 then nI 1 else nI 0) → (am_ww 284 61 [.ref 99, .int x1, .int x2, .int x3, .int x4, .int x5, .int w7, .int (x7 + nI 1)] [] E5 I5 J5 S5 Q))))))) : am_ww 284 61 [.ref 99, .int x1, .int x2, .int x3, .int x4, .int x5, .int x6, .int x7] [] E I J S Q := by
  refine w_st (i' := 62) (ls' := [.ref 99, .int x1, .int x2, .int x3, .int x4, .int x5, .int x6, .int x7]) (st' := [.int x7]) (E' := E) (I' := I) (J' := J) (S' := S) am_e284 rfl rfl rfl rfl ?_
  refine w_st (i' := 63) (ls' := [.ref 99, .int x1, .int x2, .int x3, .int x4, .int x5, .int x6, .int x7]) (st' := [.int x5, .int x7]) (E' := E) (I' := I) (J' := J) (S' := S) am_e284 rfl rfl rfl rfl ?_
  refine w_if2 am_e284 rfl rfl (fun c => ?_) (fun c => ?_)
  · replace h := h.1 (of_decide_eq_true c)
    refine w_st (i' := 78) (ls' := [.ref 99, .int x1, .int x2, .int x3, .int x4, .int x5, .int x6, .int x7]) (st' := [.int x3]) (E' := E) (I' := I) (J' := J) (S' := S) am_e284 rfl rfl rfl rfl ?_
    refine w_st (i' := 79) (ls' := [.ref 99, .int x1, .int x2, .int x3, .int x4, .int x5, .int x6, .int x7]) (st' := [.int x6, .int x3]) (E' := E) (I' := I) (J' := J) (S' := S) am_e284 rfl rfl rfl rfl ?_
    refine w_mg (i := 83) (ls' := [.ref 99, .int x1, .int x2, .int x3, .int x4, .int x5, .int x6, .int x7]) (st' := [.int (if x6 = 0 then nI 0 else nI 1), .int x3]) (fun hm => ?_) ?_
    · clear h
      refine w_if1 am_e284 rfl rfl (fun c => ?_) (fun c => ?_)
      · have m1 : x6 = 0 := (of_decide_eq_true c)
        refine w_st (i' := 83) (ls' := [.ref 99, .int x1, .int x2, .int x3, .int x4, .int x5, .int x6, .int x7]) (st' := [.int (nI 0), .int x3]) (E' := E) (I' := I) (J' := J) (S' := S) am_e284 rfl rfl rfl rfl ?_
        first | exact hm | (simp only [if_pos m1] at hm; exact hm)
      · have m1 : ¬ (x6 = 0) := (of_decide_eq_false c)
        refine w_st (i' := 81) (ls' := [.ref 99, .int x1, .int x2, .int x3, .int x4, .int x5, .int x6, .int x7]) (st' := [.int (nI 1), .int x3]) (E' := E) (I' := I) (J' := J) (S' := S) am_e284 rfl rfl rfl rfl ?_
        refine w_st (i' := 83) (ls' := [.ref 99, .int x1, .int x2, .int x3, .int x4, .int x5, .int x6, .int x7]) (st' := [.int (nI 1), .int x3]) (E' := E) (I' := I) (J' := J) (S' := S) am_e284 rfl rfl rfl rfl ?_
        first | exact hm | (simp only [if_neg m1] at hm; exact hm)
    refine w_var (fun w2 => am_ww 284 83 [.ref 99, .int x1, .int x2, .int x3, .int x4, .int x5, .int x6, .int x7] [.int w2, .int x3] E I J S _) (if x6 = 0 then nI 0 else nI 1) (fun w2 hw2 => ?_)
    replace h := h w2 hw2
    refine w_st (i' := 84) (ls' := [.ref 99, .int x1, .int x2, .int x3, .int x4, .int x5, .int x6, .int x7]) (st' := [.int (x3 + w2)]) (E' := E) (I' := I) (J' := J) (S' := S) am_e284 rfl rfl rfl rfl ?_
    refine w_st (i' := 85) (ls' := [.ref 99, .int x1, .int x2, .int (x3 + w2), .int x4, .int x5, .int x6, .int x7]) (st' := []) (E' := E) (I' := I) (J' := J) (S' := S) am_e284 rfl rfl rfl rfl ?_
    refine w_st (i' := 86) (ls' := [.ref 99, .int x1, .int x2, .int (x3 + w2), .int x4, .int x5, .int x6, .int x7]) (st' := [.int x4]) (E' := E) (I' := I) (J' := J) (S' := S) am_e284 rfl rfl rfl rfl ?_
    refine w_st (i' := 87) (ls' := [.ref 99, .int x1, .int x2, .int (x3 + w2), .int x4, .int x5, .int x6, .int x7]) (st' := [.int (-1), .int x4]) (E' := E) (I' := I) (J' := J) (S' := S) am_e284 rfl rfl rfl rfl ?_
    refine w_if2 am_e284 rfl rfl (fun c => ?_) (fun c => ?_)
    · replace h := h.2 (of_decide_eq_true c)
      refine w_st (i' := 96) (ls' := [.ref 99, .int x1, .int x2, .int (x3 + w2), .int x4, .int (x5 + nI 1), .int x6, .int x7]) (st' := []) (E' := E) (I' := I) (J' := J) (S' := S) am_e284 rfl rfl rfl rfl ?_
      refine w_st (i' := 27) (ls' := [.ref 99, .int x1, .int x2, .int (x3 + w2), .int x4, .int (x5 + nI 1), .int x6, .int x7]) (st' := []) (E' := E) (I' := I) (J' := J) (S' := S) am_e284 rfl rfl rfl rfl ?_
      exact h
    · replace h := h.1 (Decidable.not_not.mp (of_decide_eq_false c))
      refine w_st (i' := 89) (ls' := [.ref 99, .int x1, .int x2, .int (x3 + w2), .int x4, .int x5, .int x6, .int x7]) (st' := [.ref 99]) (E' := E) (I' := I) (J' := J) (S' := S) am_e284 rfl rfl rfl rfl ?_
      refine w_st (i' := 90) (ls' := [.ref 99, .int x1, .int x2, .int (x3 + w2), .int x4, .int x5, .int x6, .int x7]) (st' := [.int (nI 0), .ref 99]) (E' := E) (I' := I) (J' := J) (S' := S) am_e284 rfl rfl rfl rfl ?_
      refine w_st (i' := 91) (ls' := [.ref 99, .int x1, .int x2, .int (x3 + w2), .int x4, .int x5, .int x6, .int x7]) (st' := [.int x5, .int (nI 0), .ref 99]) (E' := E) (I' := I) (J' := J) (S' := S) am_e284 rfl rfl rfl rfl ?_
      refine w_cI am_e284 rfl rfl (as := [.ref 99, .int (nI 0), .int x5]) (rest := []) rfl rfl (am_ww.mono h ?_)
      rintro _ E3 I3 J3 S3 ⟨v3, rfl, h⟩
      refine q_mkI ?_
      refine w_mg (i := 95) (ls' := [.ref 99, .int x1, .int x2, .int (x3 + w2), .int (if v3 = 0 then x5 else x4), .int x5, .int x6, .int x7]) (st' := []) (fun hm => ?_) ?_
      · clear h
        refine w_if1 am_e284 rfl rfl (fun c => ?_) (fun c => ?_)
        · have m4 : ¬ (v3 = 0) := (of_decide_eq_true c)
          first | exact hm | (simp only [if_neg m4] at hm; exact hm)
        · have m4 : v3 = 0 := (Decidable.not_not.mp (of_decide_eq_false c))
          refine w_st (i' := 94) (ls' := [.ref 99, .int x1, .int x2, .int (x3 + w2), .int x4, .int x5, .int x6, .int x7]) (st' := [.int x5]) (E' := E3) (I' := I3) (J' := J3) (S' := S3) am_e284 rfl rfl rfl rfl ?_
          refine w_st (i' := 95) (ls' := [.ref 99, .int x1, .int x2, .int (x3 + w2), .int x5, .int x5, .int x6, .int x7]) (st' := []) (E' := E3) (I' := I3) (J' := J3) (S' := S3) am_e284 rfl rfl rfl rfl ?_
          first | exact hm | (simp only [if_pos m4] at hm; exact hm)
      refine w_st (i' := 96) (ls' := [.ref 99, .int x1, .int x2, .int (x3 + w2), .int (if v3 = 0 then x5 else x4), .int (x5 + nI 1), .int x6, .int x7]) (st' := []) (E' := E3) (I' := I3) (J' := J3) (S' := S3) am_e284 rfl rfl rfl rfl ?_
      refine w_st (i' := 27) (ls' := [.ref 99, .int x1, .int x2, .int (x3 + w2), .int (if v3 = 0 then x5 else x4), .int (x5 + nI 1), .int x6, .int x7]) (st' := []) (E' := E3) (I' := I3) (J' := J3) (S' := S3) am_e284 rfl rfl rfl rfl ?_
      exact h
  · replace h := h.2 (of_decide_eq_false c)
    refine w_st (i' := 65) (ls' := [.ref 99, .int x1, .int x2, .int x3, .int x4, .int x5, .int x6, .int x7]) (st' := [.int x6]) (E' := E) (I' := I) (J' := J) (S' := S) am_e284 rfl rfl rfl rfl ?_
    refine w_if1 am_e284 rfl rfl (fun c => ?_) (fun c => ?_)
    · replace h := h.1 (of_decide_eq_true c)
      refine w_st (i' := 74) (ls' := [.ref 99, .int x1, .int x2, .int x3, .int x4, .int x5, .int x6, .int x7]) (st' := [.int (nI 0)]) (E' := E) (I' := I) (J' := J) (S' := S) am_e284 rfl rfl rfl rfl ?_
      refine w_st (i' := 75) (ls' := [.ref 99, .int x1, .int x2, .int x3, .int x4, .int x5, .int (nI 0), .int x7]) (st' := []) (E' := E) (I' := I) (J' := J) (S' := S) am_e284 rfl rfl rfl rfl ?_
      refine w_st (i' := 76) (ls' := [.ref 99, .int x1, .int x2, .int x3, .int x4, .int x5, .int (nI 0), .int (x7 + nI 1)]) (st' := []) (E' := E) (I' := I) (J' := J) (S' := S) am_e284 rfl rfl rfl rfl ?_
      refine w_st (i' := 61) (ls' := [.ref 99, .int x1, .int x2, .int x3, .int x4, .int x5, .int (nI 0), .int (x7 + nI 1)]) (st' := []) (E' := E) (I' := I) (J' := J) (S' := S) am_e284 rfl rfl rfl rfl ?_
      exact h
    · replace h := h.2 (of_decide_eq_false c)
      refine w_st (i' := 67) (ls' := [.ref 99, .int x1, .int x2, .int x3, .int x4, .int x5, .int x6, .int x7]) (st' := [.ref 99]) (E' := E) (I' := I) (J' := J) (S' := S) am_e284 rfl rfl rfl rfl ?_
      refine w_st (i' := 68) (ls' := [.ref 99, .int x1, .int x2, .int x3, .int x4, .int x5, .int x6, .int x7]) (st' := [.int x7, .ref 99]) (E' := E) (I' := I) (J' := J) (S' := S) am_e284 rfl rfl rfl rfl ?_
      refine w_st (i' := 69) (ls' := [.ref 99, .int x1, .int x2, .int x3, .int x4, .int x5, .int x6, .int x7]) (st' := [.int x5, .int x7, .ref 99]) (E' := E) (I' := I) (J' := J) (S' := S) am_e284 rfl rfl rfl rfl ?_
      refine w_cI am_e284 rfl rfl (as := [.ref 99, .int x7, .int x5]) (rest := []) rfl rfl (am_ww.mono h ?_)
      rintro _ E5 I5 J5 S5 ⟨v5, rfl, h⟩
      refine q_mkI ?_
      refine w_mg (i := 74) (ls' := [.ref 99, .int x1, .int x2, .int x3, .int x4, .int x5, .int x6, .int x7]) (st' := [.int (if v5 = 0 then nI 1 else nI 0)]) (fun hm => ?_) ?_
      · clear h
        refine w_if1 am_e284 rfl rfl (fun c => ?_) (fun c => ?_)
        · have m6 : ¬ (v5 = 0) := (of_decide_eq_true c)
          refine w_st (i' := 74) (ls' := [.ref 99, .int x1, .int x2, .int x3, .int x4, .int x5, .int x6, .int x7]) (st' := [.int (nI 0)]) (E' := E5) (I' := I5) (J' := J5) (S' := S5) am_e284 rfl rfl rfl rfl ?_
          first | exact hm | (simp only [if_neg m6] at hm; exact hm)
        · have m6 : v5 = 0 := (Decidable.not_not.mp (of_decide_eq_false c))
          refine w_st (i' := 72) (ls' := [.ref 99, .int x1, .int x2, .int x3, .int x4, .int x5, .int x6, .int x7]) (st' := [.int (nI 1)]) (E' := E5) (I' := I5) (J' := J5) (S' := S5) am_e284 rfl rfl rfl rfl ?_
          refine w_st (i' := 74) (ls' := [.ref 99, .int x1, .int x2, .int x3, .int x4, .int x5, .int x6, .int x7]) (st' := [.int (nI 1)]) (E' := E5) (I' := I5) (J' := J5) (S' := S5) am_e284 rfl rfl rfl rfl ?_
          first | exact hm | (simp only [if_pos m6] at hm; exact hm)
      refine w_var (fun w7 => am_ww 284 74 [.ref 99, .int x1, .int x2, .int x3, .int x4, .int x5, .int x6, .int x7] [.int w7] E5 I5 J5 S5 _) (if v5 = 0 then nI 1 else nI 0) (fun w7 hw7 => ?_)
      replace h := h w7 hw7
      refine w_st (i' := 75) (ls' := [.ref 99, .int x1, .int x2, .int x3, .int x4, .int x5, .int w7, .int x7]) (st' := []) (E' := E5) (I' := I5) (J' := J5) (S' := S5) am_e284 rfl rfl rfl rfl ?_
      refine w_st (i' := 76) (ls' := [.ref 99, .int x1, .int x2, .int x3, .int x4, .int x5, .int w7, .int (x7 + nI 1)]) (st' := []) (E' := E5) (I' := I5) (J' := J5) (S' := S5) am_e284 rfl rfl rfl rfl ?_
      refine w_st (i' := 61) (ls' := [.ref 99, .int x1, .int x2, .int x3, .int x4, .int x5, .int w7, .int (x7 + nI 1)]) (st' := []) (E' := E5) (I' := I5) (J' := J5) (S' := S5) am_e284 rfl rfl rfl rfl ?_
      exact h
-- 287 toSpare
theorem g287_0 {p1 : Int32} {p2 : Int32} {E : am_Ev} {I : Nat → Nat → Int32} {J : Nat → Nat → Int64} {S : Nat → Nat → Option Nat} {Q : am_Qt}  (h : (p2 < (nI 0) → (Q (.inl (some (.int (nI 0)))) E (u_I I 99 (upd (upd (I 99) 3 (nI 0)) 3 (nI 1))) J S)) ∧ (¬ p2 < (nI 0) → (((nI 1) < p2 → (Q (.inl (some (.int (nI 0)))) E (u_I I 99 (upd (upd (I 99) 3 (nI 0)) 3 (nI 1))) J S)) ∧ (¬ (nI 1) < p2 → ((p1 < (nI 0) → (Q (.inl (some (.int (nI 0)))) E (u_I I 99 (upd (upd (I 99) 3 (nI 0)) 3 (nI 2))) J S)) ∧ (¬ p1 < (nI 0) → (((nI 400) < p1 → (Q (.inl (some (.int (nI 0)))) E (u_I I 99 (upd (upd (I 99) 3 (nI 0)) 3 (nI 2))) J S)) ∧ (¬ (nI 400) < p1 → (am_ww 287 27 [.ref 99, .int p1, .int p2, .int (-1), .int (nI 0), .int (nI 1)] [] E (u_I I 99 (upd (I 99) 3 (nI 0))) J S Q))))))))) : am_ww 287 0 [.ref 99, .int p1, .int p2, am_U, am_U, am_U] [] E I J S Q := by
  refine w_st (i' := 1) (ls' := [.ref 99, .int p1, .int p2, am_U, am_U, am_U]) (st' := [.ref 99]) (E' := E) (I' := I) (J' := J) (S' := S) am_e287 rfl rfl rfl rfl ?_
  refine w_st (i' := 2) (ls' := [.ref 99, .int p1, .int p2, am_U, am_U, am_U]) (st' := [.int (nI 0), .ref 99]) (E' := E) (I' := I) (J' := J) (S' := S) am_e287 rfl rfl rfl rfl ?_
  refine w_st (i' := 3) (ls' := [.ref 99, .int p1, .int p2, am_U, am_U, am_U]) (st' := []) (E' := E) (I' := (u_I I 99 (upd (I 99) 3 (nI 0)))) (J' := J) (S' := S) am_e287 rfl rfl rfl rfl ?_
  refine w_st (i' := 4) (ls' := [.ref 99, .int p1, .int p2, am_U, am_U, am_U]) (st' := [.int p2]) (E' := E) (I' := (u_I I 99 (upd (I 99) 3 (nI 0)))) (J' := J) (S' := S) am_e287 rfl rfl rfl rfl ?_
  refine w_st (i' := 5) (ls' := [.ref 99, .int p1, .int p2, am_U, am_U, am_U]) (st' := [.int (nI 0), .int p2]) (E' := E) (I' := (u_I I 99 (upd (I 99) 3 (nI 0)))) (J' := J) (S' := S) am_e287 rfl rfl rfl rfl ?_
  refine w_st (i' := 6) (ls' := [.ref 99, .int p1, .int p2, am_U, am_U, am_U]) (st' := [.int (nI 1), .int (nI 0), .int p2]) (E' := E) (I' := (u_I I 99 (upd (I 99) 3 (nI 0)))) (J' := J) (S' := S) am_e287 rfl rfl rfl rfl ?_
  refine w_cI am_e287 rfl rfl (as := [.int p2, .int (nI 0), .int (nI 1)]) (rest := []) rfl rfl ?_
  show am_ww 232 0 [.int p2, .int (nI 0), .int (nI 1)] [] E (u_I I 99 (upd (I 99) 3 (nI 0))) J S _
  refine w_st (i' := 1) (ls' := [.int p2, .int (nI 0), .int (nI 1)]) (st' := [.int p2]) (E' := E) (I' := (u_I I 99 (upd (I 99) 3 (nI 0)))) (J' := J) (S' := S) am_e232 rfl rfl rfl rfl ?_
  refine w_st (i' := 2) (ls' := [.int p2, .int (nI 0), .int (nI 1)]) (st' := [.int (nI 0), .int p2]) (E' := E) (I' := (u_I I 99 (upd (I 99) 3 (nI 0)))) (J' := J) (S' := S) am_e232 rfl rfl rfl rfl ?_
  refine w_if2 am_e232 rfl rfl (fun c => ?_) (fun c => ?_)
  · replace h := h.1 (of_decide_eq_true c)
    refine w_st (i' := 9) (ls' := [.int p2, .int (nI 0), .int (nI 1)]) (st' := [.int (nI 0)]) (E' := E) (I' := (u_I I 99 (upd (I 99) 3 (nI 0)))) (J' := J) (S' := S) am_e232 rfl rfl rfl rfl ?_
    refine w_end (E' := E) (I' := (u_I I 99 (upd (I 99) 3 (nI 0)))) (J' := J) (S' := S) am_e232 rfl rfl rfl (q_mkI ?_)
    show am_ww 287 7 [.ref 99, .int p1, .int p2, am_U, am_U, am_U] [.int (nI 0)] E (u_I I 99 (upd (I 99) 3 (nI 0))) J S _
    refine w_st (i' := 8) (ls' := [.ref 99, .int p1, .int p2, am_U, am_U, am_U]) (st' := []) (E' := E) (I' := (u_I I 99 (upd (I 99) 3 (nI 0)))) (J' := J) (S' := S) am_e287 rfl rfl rfl rfl ?_
    refine w_st (i' := 9) (ls' := [.ref 99, .int p1, .int p2, am_U, am_U, am_U]) (st' := [.ref 99]) (E' := E) (I' := (u_I I 99 (upd (I 99) 3 (nI 0)))) (J' := J) (S' := S) am_e287 rfl rfl rfl rfl ?_
    refine w_st (i' := 10) (ls' := [.ref 99, .int p1, .int p2, am_U, am_U, am_U]) (st' := [.int (nI 1), .ref 99]) (E' := E) (I' := (u_I I 99 (upd (I 99) 3 (nI 0)))) (J' := J) (S' := S) am_e287 rfl rfl rfl rfl ?_
    refine w_cI am_e287 rfl rfl (as := [.ref 99, .int (nI 1)]) (rest := []) rfl rfl ?_
    show am_ww 189 0 [.ref 99, .int (nI 1)] [] E (u_I I 99 (upd (I 99) 3 (nI 0))) J S _
    refine w_st (i' := 1) (ls' := [.ref 99, .int (nI 1)]) (st' := [.ref 99]) (E' := E) (I' := (u_I I 99 (upd (I 99) 3 (nI 0)))) (J' := J) (S' := S) am_e189 rfl rfl rfl rfl ?_
    refine w_st (i' := 2) (ls' := [.ref 99, .int (nI 1)]) (st' := [.int (nI 1), .ref 99]) (E' := E) (I' := (u_I I 99 (upd (I 99) 3 (nI 0)))) (J' := J) (S' := S) am_e189 rfl rfl rfl rfl ?_
    refine w_st (i' := 3) (ls' := [.ref 99, .int (nI 1)]) (st' := []) (E' := E) (I' := (u_I (u_I I 99 (upd (I 99) 3 (nI 0))) 99 (upd (upd (I 99) 3 (nI 0)) 3 (nI 1)))) (J' := J) (S' := S) am_e189 rfl rfl rfl rfl ?_
    refine w_eI (uI_0 ..) ?_
    show am_ww 189 3 [.ref 99, .int (nI 1)] [] E (u_I I 99 (upd (upd (I 99) 3 (nI 0)) 3 (nI 1))) J S _
    refine w_st (i' := 4) (ls' := [.ref 99, .int (nI 1)]) (st' := [.int (nI 0)]) (E' := E) (I' := (u_I I 99 (upd (upd (I 99) 3 (nI 0)) 3 (nI 1)))) (J' := J) (S' := S) am_e189 rfl rfl rfl rfl ?_
    refine w_end (E' := E) (I' := (u_I I 99 (upd (upd (I 99) 3 (nI 0)) 3 (nI 1)))) (J' := J) (S' := S) am_e189 rfl rfl rfl (q_mkI ?_)
    show am_ww 287 11 [.ref 99, .int p1, .int p2, am_U, am_U, am_U] [.int (nI 0)] E (u_I I 99 (upd (upd (I 99) 3 (nI 0)) 3 (nI 1))) J S _
    exact w_end am_e287 rfl rfl rfl h
  · replace h := h.2 (of_decide_eq_false c)
    refine w_st (i' := 4) (ls' := [.int p2, .int (nI 0), .int (nI 1)]) (st' := [.int p2]) (E' := E) (I' := (u_I I 99 (upd (I 99) 3 (nI 0)))) (J' := J) (S' := S) am_e232 rfl rfl rfl rfl ?_
    refine w_st (i' := 5) (ls' := [.int p2, .int (nI 0), .int (nI 1)]) (st' := [.int (nI 1), .int p2]) (E' := E) (I' := (u_I I 99 (upd (I 99) 3 (nI 0)))) (J' := J) (S' := S) am_e232 rfl rfl rfl rfl ?_
    refine w_if2 am_e232 rfl rfl (fun c => ?_) (fun c => ?_)
    · replace h := h.1 (of_decide_eq_true c)
      refine w_st (i' := 9) (ls' := [.int p2, .int (nI 0), .int (nI 1)]) (st' := [.int (nI 0)]) (E' := E) (I' := (u_I I 99 (upd (I 99) 3 (nI 0)))) (J' := J) (S' := S) am_e232 rfl rfl rfl rfl ?_
      refine w_end (E' := E) (I' := (u_I I 99 (upd (I 99) 3 (nI 0)))) (J' := J) (S' := S) am_e232 rfl rfl rfl (q_mkI ?_)
      show am_ww 287 7 [.ref 99, .int p1, .int p2, am_U, am_U, am_U] [.int (nI 0)] E (u_I I 99 (upd (I 99) 3 (nI 0))) J S _
      refine w_st (i' := 8) (ls' := [.ref 99, .int p1, .int p2, am_U, am_U, am_U]) (st' := []) (E' := E) (I' := (u_I I 99 (upd (I 99) 3 (nI 0)))) (J' := J) (S' := S) am_e287 rfl rfl rfl rfl ?_
      refine w_st (i' := 9) (ls' := [.ref 99, .int p1, .int p2, am_U, am_U, am_U]) (st' := [.ref 99]) (E' := E) (I' := (u_I I 99 (upd (I 99) 3 (nI 0)))) (J' := J) (S' := S) am_e287 rfl rfl rfl rfl ?_
      refine w_st (i' := 10) (ls' := [.ref 99, .int p1, .int p2, am_U, am_U, am_U]) (st' := [.int (nI 1), .ref 99]) (E' := E) (I' := (u_I I 99 (upd (I 99) 3 (nI 0)))) (J' := J) (S' := S) am_e287 rfl rfl rfl rfl ?_
      refine w_cI am_e287 rfl rfl (as := [.ref 99, .int (nI 1)]) (rest := []) rfl rfl ?_
      show am_ww 189 0 [.ref 99, .int (nI 1)] [] E (u_I I 99 (upd (I 99) 3 (nI 0))) J S _
      refine w_st (i' := 1) (ls' := [.ref 99, .int (nI 1)]) (st' := [.ref 99]) (E' := E) (I' := (u_I I 99 (upd (I 99) 3 (nI 0)))) (J' := J) (S' := S) am_e189 rfl rfl rfl rfl ?_
      refine w_st (i' := 2) (ls' := [.ref 99, .int (nI 1)]) (st' := [.int (nI 1), .ref 99]) (E' := E) (I' := (u_I I 99 (upd (I 99) 3 (nI 0)))) (J' := J) (S' := S) am_e189 rfl rfl rfl rfl ?_
      refine w_st (i' := 3) (ls' := [.ref 99, .int (nI 1)]) (st' := []) (E' := E) (I' := (u_I (u_I I 99 (upd (I 99) 3 (nI 0))) 99 (upd (upd (I 99) 3 (nI 0)) 3 (nI 1)))) (J' := J) (S' := S) am_e189 rfl rfl rfl rfl ?_
      refine w_eI (uI_0 ..) ?_
      show am_ww 189 3 [.ref 99, .int (nI 1)] [] E (u_I I 99 (upd (upd (I 99) 3 (nI 0)) 3 (nI 1))) J S _
      refine w_st (i' := 4) (ls' := [.ref 99, .int (nI 1)]) (st' := [.int (nI 0)]) (E' := E) (I' := (u_I I 99 (upd (upd (I 99) 3 (nI 0)) 3 (nI 1)))) (J' := J) (S' := S) am_e189 rfl rfl rfl rfl ?_
      refine w_end (E' := E) (I' := (u_I I 99 (upd (upd (I 99) 3 (nI 0)) 3 (nI 1)))) (J' := J) (S' := S) am_e189 rfl rfl rfl (q_mkI ?_)
      show am_ww 287 11 [.ref 99, .int p1, .int p2, am_U, am_U, am_U] [.int (nI 0)] E (u_I I 99 (upd (upd (I 99) 3 (nI 0)) 3 (nI 1))) J S _
      exact w_end am_e287 rfl rfl rfl h
    · replace h := h.2 (of_decide_eq_false c)
      refine w_st (i' := 7) (ls' := [.int p2, .int (nI 0), .int (nI 1)]) (st' := [.int (nI 1)]) (E' := E) (I' := (u_I I 99 (upd (I 99) 3 (nI 0)))) (J' := J) (S' := S) am_e232 rfl rfl rfl rfl ?_
      refine w_st (i' := 9) (ls' := [.int p2, .int (nI 0), .int (nI 1)]) (st' := [.int (nI 1)]) (E' := E) (I' := (u_I I 99 (upd (I 99) 3 (nI 0)))) (J' := J) (S' := S) am_e232 rfl rfl rfl rfl ?_
      refine w_end (E' := E) (I' := (u_I I 99 (upd (I 99) 3 (nI 0)))) (J' := J) (S' := S) am_e232 rfl rfl rfl (q_mkI ?_)
      show am_ww 287 7 [.ref 99, .int p1, .int p2, am_U, am_U, am_U] [.int (nI 1)] E (u_I I 99 (upd (I 99) 3 (nI 0))) J S _
      refine w_st (i' := 12) (ls' := [.ref 99, .int p1, .int p2, am_U, am_U, am_U]) (st' := []) (E' := E) (I' := (u_I I 99 (upd (I 99) 3 (nI 0)))) (J' := J) (S' := S) am_e287 rfl rfl rfl rfl ?_
      refine w_st (i' := 13) (ls' := [.ref 99, .int p1, .int p2, am_U, am_U, am_U]) (st' := [.int p1]) (E' := E) (I' := (u_I I 99 (upd (I 99) 3 (nI 0)))) (J' := J) (S' := S) am_e287 rfl rfl rfl rfl ?_
      refine w_st (i' := 14) (ls' := [.ref 99, .int p1, .int p2, am_U, am_U, am_U]) (st' := [.int (nI 0), .int p1]) (E' := E) (I' := (u_I I 99 (upd (I 99) 3 (nI 0)))) (J' := J) (S' := S) am_e287 rfl rfl rfl rfl ?_
      refine w_st (i' := 15) (ls' := [.ref 99, .int p1, .int p2, am_U, am_U, am_U]) (st' := [.int (nI 400), .int (nI 0), .int p1]) (E' := E) (I' := (u_I I 99 (upd (I 99) 3 (nI 0)))) (J' := J) (S' := S) am_e287 rfl rfl rfl rfl ?_
      refine w_cI am_e287 rfl rfl (as := [.int p1, .int (nI 0), .int (nI 400)]) (rest := []) rfl rfl ?_
      show am_ww 232 0 [.int p1, .int (nI 0), .int (nI 400)] [] E (u_I I 99 (upd (I 99) 3 (nI 0))) J S _
      refine w_st (i' := 1) (ls' := [.int p1, .int (nI 0), .int (nI 400)]) (st' := [.int p1]) (E' := E) (I' := (u_I I 99 (upd (I 99) 3 (nI 0)))) (J' := J) (S' := S) am_e232 rfl rfl rfl rfl ?_
      refine w_st (i' := 2) (ls' := [.int p1, .int (nI 0), .int (nI 400)]) (st' := [.int (nI 0), .int p1]) (E' := E) (I' := (u_I I 99 (upd (I 99) 3 (nI 0)))) (J' := J) (S' := S) am_e232 rfl rfl rfl rfl ?_
      refine w_if2 am_e232 rfl rfl (fun c => ?_) (fun c => ?_)
      · replace h := h.1 (of_decide_eq_true c)
        refine w_st (i' := 9) (ls' := [.int p1, .int (nI 0), .int (nI 400)]) (st' := [.int (nI 0)]) (E' := E) (I' := (u_I I 99 (upd (I 99) 3 (nI 0)))) (J' := J) (S' := S) am_e232 rfl rfl rfl rfl ?_
        refine w_end (E' := E) (I' := (u_I I 99 (upd (I 99) 3 (nI 0)))) (J' := J) (S' := S) am_e232 rfl rfl rfl (q_mkI ?_)
        show am_ww 287 16 [.ref 99, .int p1, .int p2, am_U, am_U, am_U] [.int (nI 0)] E (u_I I 99 (upd (I 99) 3 (nI 0))) J S _
        refine w_st (i' := 17) (ls' := [.ref 99, .int p1, .int p2, am_U, am_U, am_U]) (st' := []) (E' := E) (I' := (u_I I 99 (upd (I 99) 3 (nI 0)))) (J' := J) (S' := S) am_e287 rfl rfl rfl rfl ?_
        refine w_st (i' := 18) (ls' := [.ref 99, .int p1, .int p2, am_U, am_U, am_U]) (st' := [.ref 99]) (E' := E) (I' := (u_I I 99 (upd (I 99) 3 (nI 0)))) (J' := J) (S' := S) am_e287 rfl rfl rfl rfl ?_
        refine w_st (i' := 19) (ls' := [.ref 99, .int p1, .int p2, am_U, am_U, am_U]) (st' := [.int (nI 2), .ref 99]) (E' := E) (I' := (u_I I 99 (upd (I 99) 3 (nI 0)))) (J' := J) (S' := S) am_e287 rfl rfl rfl rfl ?_
        refine w_cI am_e287 rfl rfl (as := [.ref 99, .int (nI 2)]) (rest := []) rfl rfl ?_
        show am_ww 189 0 [.ref 99, .int (nI 2)] [] E (u_I I 99 (upd (I 99) 3 (nI 0))) J S _
        refine w_st (i' := 1) (ls' := [.ref 99, .int (nI 2)]) (st' := [.ref 99]) (E' := E) (I' := (u_I I 99 (upd (I 99) 3 (nI 0)))) (J' := J) (S' := S) am_e189 rfl rfl rfl rfl ?_
        refine w_st (i' := 2) (ls' := [.ref 99, .int (nI 2)]) (st' := [.int (nI 2), .ref 99]) (E' := E) (I' := (u_I I 99 (upd (I 99) 3 (nI 0)))) (J' := J) (S' := S) am_e189 rfl rfl rfl rfl ?_
        refine w_st (i' := 3) (ls' := [.ref 99, .int (nI 2)]) (st' := []) (E' := E) (I' := (u_I (u_I I 99 (upd (I 99) 3 (nI 0))) 99 (upd (upd (I 99) 3 (nI 0)) 3 (nI 2)))) (J' := J) (S' := S) am_e189 rfl rfl rfl rfl ?_
        refine w_eI (uI_0 ..) ?_
        show am_ww 189 3 [.ref 99, .int (nI 2)] [] E (u_I I 99 (upd (upd (I 99) 3 (nI 0)) 3 (nI 2))) J S _
        refine w_st (i' := 4) (ls' := [.ref 99, .int (nI 2)]) (st' := [.int (nI 0)]) (E' := E) (I' := (u_I I 99 (upd (upd (I 99) 3 (nI 0)) 3 (nI 2)))) (J' := J) (S' := S) am_e189 rfl rfl rfl rfl ?_
        refine w_end (E' := E) (I' := (u_I I 99 (upd (upd (I 99) 3 (nI 0)) 3 (nI 2)))) (J' := J) (S' := S) am_e189 rfl rfl rfl (q_mkI ?_)
        show am_ww 287 20 [.ref 99, .int p1, .int p2, am_U, am_U, am_U] [.int (nI 0)] E (u_I I 99 (upd (upd (I 99) 3 (nI 0)) 3 (nI 2))) J S _
        exact w_end am_e287 rfl rfl rfl h
      · replace h := h.2 (of_decide_eq_false c)
        refine w_st (i' := 4) (ls' := [.int p1, .int (nI 0), .int (nI 400)]) (st' := [.int p1]) (E' := E) (I' := (u_I I 99 (upd (I 99) 3 (nI 0)))) (J' := J) (S' := S) am_e232 rfl rfl rfl rfl ?_
        refine w_st (i' := 5) (ls' := [.int p1, .int (nI 0), .int (nI 400)]) (st' := [.int (nI 400), .int p1]) (E' := E) (I' := (u_I I 99 (upd (I 99) 3 (nI 0)))) (J' := J) (S' := S) am_e232 rfl rfl rfl rfl ?_
        refine w_if2 am_e232 rfl rfl (fun c => ?_) (fun c => ?_)
        · replace h := h.1 (of_decide_eq_true c)
          refine w_st (i' := 9) (ls' := [.int p1, .int (nI 0), .int (nI 400)]) (st' := [.int (nI 0)]) (E' := E) (I' := (u_I I 99 (upd (I 99) 3 (nI 0)))) (J' := J) (S' := S) am_e232 rfl rfl rfl rfl ?_
          refine w_end (E' := E) (I' := (u_I I 99 (upd (I 99) 3 (nI 0)))) (J' := J) (S' := S) am_e232 rfl rfl rfl (q_mkI ?_)
          show am_ww 287 16 [.ref 99, .int p1, .int p2, am_U, am_U, am_U] [.int (nI 0)] E (u_I I 99 (upd (I 99) 3 (nI 0))) J S _
          refine w_st (i' := 17) (ls' := [.ref 99, .int p1, .int p2, am_U, am_U, am_U]) (st' := []) (E' := E) (I' := (u_I I 99 (upd (I 99) 3 (nI 0)))) (J' := J) (S' := S) am_e287 rfl rfl rfl rfl ?_
          refine w_st (i' := 18) (ls' := [.ref 99, .int p1, .int p2, am_U, am_U, am_U]) (st' := [.ref 99]) (E' := E) (I' := (u_I I 99 (upd (I 99) 3 (nI 0)))) (J' := J) (S' := S) am_e287 rfl rfl rfl rfl ?_
          refine w_st (i' := 19) (ls' := [.ref 99, .int p1, .int p2, am_U, am_U, am_U]) (st' := [.int (nI 2), .ref 99]) (E' := E) (I' := (u_I I 99 (upd (I 99) 3 (nI 0)))) (J' := J) (S' := S) am_e287 rfl rfl rfl rfl ?_
          refine w_cI am_e287 rfl rfl (as := [.ref 99, .int (nI 2)]) (rest := []) rfl rfl ?_
          show am_ww 189 0 [.ref 99, .int (nI 2)] [] E (u_I I 99 (upd (I 99) 3 (nI 0))) J S _
          refine w_st (i' := 1) (ls' := [.ref 99, .int (nI 2)]) (st' := [.ref 99]) (E' := E) (I' := (u_I I 99 (upd (I 99) 3 (nI 0)))) (J' := J) (S' := S) am_e189 rfl rfl rfl rfl ?_
          refine w_st (i' := 2) (ls' := [.ref 99, .int (nI 2)]) (st' := [.int (nI 2), .ref 99]) (E' := E) (I' := (u_I I 99 (upd (I 99) 3 (nI 0)))) (J' := J) (S' := S) am_e189 rfl rfl rfl rfl ?_
          refine w_st (i' := 3) (ls' := [.ref 99, .int (nI 2)]) (st' := []) (E' := E) (I' := (u_I (u_I I 99 (upd (I 99) 3 (nI 0))) 99 (upd (upd (I 99) 3 (nI 0)) 3 (nI 2)))) (J' := J) (S' := S) am_e189 rfl rfl rfl rfl ?_
          refine w_eI (uI_0 ..) ?_
          show am_ww 189 3 [.ref 99, .int (nI 2)] [] E (u_I I 99 (upd (upd (I 99) 3 (nI 0)) 3 (nI 2))) J S _
          refine w_st (i' := 4) (ls' := [.ref 99, .int (nI 2)]) (st' := [.int (nI 0)]) (E' := E) (I' := (u_I I 99 (upd (upd (I 99) 3 (nI 0)) 3 (nI 2)))) (J' := J) (S' := S) am_e189 rfl rfl rfl rfl ?_
          refine w_end (E' := E) (I' := (u_I I 99 (upd (upd (I 99) 3 (nI 0)) 3 (nI 2)))) (J' := J) (S' := S) am_e189 rfl rfl rfl (q_mkI ?_)
          show am_ww 287 20 [.ref 99, .int p1, .int p2, am_U, am_U, am_U] [.int (nI 0)] E (u_I I 99 (upd (upd (I 99) 3 (nI 0)) 3 (nI 2))) J S _
          exact w_end am_e287 rfl rfl rfl h
        · replace h := h.2 (of_decide_eq_false c)
          refine w_st (i' := 7) (ls' := [.int p1, .int (nI 0), .int (nI 400)]) (st' := [.int (nI 1)]) (E' := E) (I' := (u_I I 99 (upd (I 99) 3 (nI 0)))) (J' := J) (S' := S) am_e232 rfl rfl rfl rfl ?_
          refine w_st (i' := 9) (ls' := [.int p1, .int (nI 0), .int (nI 400)]) (st' := [.int (nI 1)]) (E' := E) (I' := (u_I I 99 (upd (I 99) 3 (nI 0)))) (J' := J) (S' := S) am_e232 rfl rfl rfl rfl ?_
          refine w_end (E' := E) (I' := (u_I I 99 (upd (I 99) 3 (nI 0)))) (J' := J) (S' := S) am_e232 rfl rfl rfl (q_mkI ?_)
          show am_ww 287 16 [.ref 99, .int p1, .int p2, am_U, am_U, am_U] [.int (nI 1)] E (u_I I 99 (upd (I 99) 3 (nI 0))) J S _
          refine w_st (i' := 21) (ls' := [.ref 99, .int p1, .int p2, am_U, am_U, am_U]) (st' := []) (E' := E) (I' := (u_I I 99 (upd (I 99) 3 (nI 0)))) (J' := J) (S' := S) am_e287 rfl rfl rfl rfl ?_
          refine w_st (i' := 22) (ls' := [.ref 99, .int p1, .int p2, am_U, am_U, am_U]) (st' := [.int (-1)]) (E' := E) (I' := (u_I I 99 (upd (I 99) 3 (nI 0)))) (J' := J) (S' := S) am_e287 rfl rfl rfl rfl ?_
          refine w_st (i' := 23) (ls' := [.ref 99, .int p1, .int p2, .int (-1), am_U, am_U]) (st' := []) (E' := E) (I' := (u_I I 99 (upd (I 99) 3 (nI 0)))) (J' := J) (S' := S) am_e287 rfl rfl rfl rfl ?_
          refine w_st (i' := 24) (ls' := [.ref 99, .int p1, .int p2, .int (-1), am_U, am_U]) (st' := [.int (nI 0)]) (E' := E) (I' := (u_I I 99 (upd (I 99) 3 (nI 0)))) (J' := J) (S' := S) am_e287 rfl rfl rfl rfl ?_
          refine w_st (i' := 25) (ls' := [.ref 99, .int p1, .int p2, .int (-1), .int (nI 0), am_U]) (st' := []) (E' := E) (I' := (u_I I 99 (upd (I 99) 3 (nI 0)))) (J' := J) (S' := S) am_e287 rfl rfl rfl rfl ?_
          refine w_st (i' := 26) (ls' := [.ref 99, .int p1, .int p2, .int (-1), .int (nI 0), am_U]) (st' := [.int (nI 1)]) (E' := E) (I' := (u_I I 99 (upd (I 99) 3 (nI 0)))) (J' := J) (S' := S) am_e287 rfl rfl rfl rfl ?_
          refine w_st (i' := 27) (ls' := [.ref 99, .int p1, .int p2, .int (-1), .int (nI 0), .int (nI 1)]) (st' := []) (E' := E) (I' := (u_I I 99 (upd (I 99) 3 (nI 0)))) (J' := J) (S' := S) am_e287 rfl rfl rfl rfl ?_
          exact h
theorem g287_27 {x1 : Int32} {x2 : Int32} {x3 : Int32} {x4 : Int32} {x5 : Int32} {E : am_Ev} {I : Nat → Nat → Int32} {J : Nat → Nat → Int64} {S : Nat → Nat → Option Nat} {Q : am_Qt}  (h : ((nI 9) < x5 → (Q (.inl (some (.int (if x2 = 0 then x3 else x4)))) E I J S)) ∧ (¬ (nI 9) < x5 → (am_cl 285 [.ref 99, .int ((I 103) 1), .int x5, .int x1] E I J S (q_V fun E2 I2 J2 S2 => ∀ w5 : Int32, w5 = (if x3 = (-1) then x5 else (if ((I2 116) 47) < x4 then x5 else x3)) → (∀ w6 : Int32, w6 = (if x3 = (-1) then ((I2 116) 47) else (if ((I2 116) 47) < x4 then ((I2 116) 47) else x4)) → (am_ww 287 27 [.ref 99, .int x1, .int x2, .int w5, .int w6, .int (x5 + nI 1)] [] E2 I2 J2 S2 Q)))))) : am_ww 287 27 [.ref 99, .int x1, .int x2, .int x3, .int x4, .int x5] [] E I J S Q := by
  refine w_st (i' := 28) (ls' := [.ref 99, .int x1, .int x2, .int x3, .int x4, .int x5]) (st' := [.int x5]) (E' := E) (I' := I) (J' := J) (S' := S) am_e287 rfl rfl rfl rfl ?_
  refine w_st (i' := 29) (ls' := [.ref 99, .int x1, .int x2, .int x3, .int x4, .int x5]) (st' := [.int (nI 9), .int x5]) (E' := E) (I' := I) (J' := J) (S' := S) am_e287 rfl rfl rfl rfl ?_
  refine w_if2 am_e287 rfl rfl (fun c => ?_) (fun c => ?_)
  · replace h := h.1 (of_decide_eq_true c)
    refine w_st (i' := 58) (ls' := [.ref 99, .int x1, .int x2, .int x3, .int x4, .int x5]) (st' := [.int x2]) (E' := E) (I' := I) (J' := J) (S' := S) am_e287 rfl rfl rfl rfl ?_
    refine w_mg (i := 62) (ls' := [.ref 99, .int x1, .int x2, .int x3, .int x4, .int x5]) (st' := [.int (if x2 = 0 then x3 else x4)]) (fun hm => ?_) ?_
    · clear h
      refine w_if1 am_e287 rfl rfl (fun c => ?_) (fun c => ?_)
      · have m1 : ¬ (x2 = 0) := (of_decide_eq_true c)
        refine w_st (i' := 62) (ls' := [.ref 99, .int x1, .int x2, .int x3, .int x4, .int x5]) (st' := [.int x4]) (E' := E) (I' := I) (J' := J) (S' := S) am_e287 rfl rfl rfl rfl ?_
        first | exact hm | (simp only [if_neg m1] at hm; exact hm)
      · have m1 : x2 = 0 := (Decidable.not_not.mp (of_decide_eq_false c))
        refine w_st (i' := 60) (ls' := [.ref 99, .int x1, .int x2, .int x3, .int x4, .int x5]) (st' := [.int x3]) (E' := E) (I' := I) (J' := J) (S' := S) am_e287 rfl rfl rfl rfl ?_
        refine w_st (i' := 62) (ls' := [.ref 99, .int x1, .int x2, .int x3, .int x4, .int x5]) (st' := [.int x3]) (E' := E) (I' := I) (J' := J) (S' := S) am_e287 rfl rfl rfl rfl ?_
        first | exact hm | (simp only [if_pos m1] at hm; exact hm)
    exact w_ri am_e287 rfl rfl h
  · replace h := h.2 (of_decide_eq_false c)
    refine w_st (i' := 31) (ls' := [.ref 99, .int x1, .int x2, .int x3, .int x4, .int x5]) (st' := [.ref 99]) (E' := E) (I' := I) (J' := J) (S' := S) am_e287 rfl rfl rfl rfl ?_
    refine w_st (i' := 32) (ls' := [.ref 99, .int x1, .int x2, .int x3, .int x4, .int x5]) (st' := [.ref 99, .ref 99]) (E' := E) (I' := I) (J' := J) (S' := S) am_e287 rfl rfl rfl rfl ?_
    refine w_st (i' := 33) (ls' := [.ref 99, .int x1, .int x2, .int x3, .int x4, .int x5]) (st' := [.ref 103, .ref 99]) (E' := E) (I' := I) (J' := J) (S' := S) am_e287 rfl rfl rfl rfl ?_
    refine w_st (i' := 34) (ls' := [.ref 99, .int x1, .int x2, .int x3, .int x4, .int x5]) (st' := [.int (nI 1), .ref 103, .ref 99]) (E' := E) (I' := I) (J' := J) (S' := S) am_e287 rfl rfl rfl rfl ?_
    refine w_ia (k := 103) (n := 10) (jn := 1) am_e287 rfl rfl (by decide) (vp_in_nI (by decide) (by decide)) rfl ?_
    show am_ww 287 35 [.ref 99, .int x1, .int x2, .int x3, .int x4, .int x5] [.int ((I 103) 1), .ref 99] E I J S _
    refine w_st (i' := 36) (ls' := [.ref 99, .int x1, .int x2, .int x3, .int x4, .int x5]) (st' := [.int x5, .int ((I 103) 1), .ref 99]) (E' := E) (I' := I) (J' := J) (S' := S) am_e287 rfl rfl rfl rfl ?_
    refine w_st (i' := 37) (ls' := [.ref 99, .int x1, .int x2, .int x3, .int x4, .int x5]) (st' := [.int x1, .int x5, .int ((I 103) 1), .ref 99]) (E' := E) (I' := I) (J' := J) (S' := S) am_e287 rfl rfl rfl rfl ?_
    refine w_cV am_e287 rfl rfl (as := [.ref 99, .int ((I 103) 1), .int x5, .int x1]) (rest := []) rfl rfl (am_ww.mono h ?_)
    rintro _ E2 I2 J2 S2 ⟨rfl, h⟩
    refine q_mkV ?_
    refine w_st (i' := 39) (ls' := [.ref 99, .int x1, .int x2, .int x3, .int x4, .int x5]) (st' := [.int x3]) (E' := E2) (I' := I2) (J' := J2) (S' := S2) am_e287 rfl rfl rfl rfl ?_
    refine w_st (i' := 40) (ls' := [.ref 99, .int x1, .int x2, .int x3, .int x4, .int x5]) (st' := [.int (-1), .int x3]) (E' := E2) (I' := I2) (J' := J2) (S' := S2) am_e287 rfl rfl rfl rfl ?_
    refine w_mg (i := 55) (ls' := [.ref 99, .int x1, .int x2, .int (if x3 = (-1) then x5 else (if ((I2 116) 47) < x4 then x5 else x3)), .int (if x3 = (-1) then ((I2 116) 47) else (if ((I2 116) 47) < x4 then ((I2 116) 47) else x4)), .int x5]) (st' := []) (fun hm => ?_) ?_
    · clear h
      refine w_if2 am_e287 rfl rfl (fun c => ?_) (fun c => ?_)
      · have m3 : x3 = (-1) := (of_decide_eq_true c)
        refine w_st (i' := 49) (ls' := [.ref 99, .int x1, .int x2, .int x3, .int x4, .int x5]) (st' := [.int x5]) (E' := E2) (I' := I2) (J' := J2) (S' := S2) am_e287 rfl rfl rfl rfl ?_
        refine w_st (i' := 50) (ls' := [.ref 99, .int x1, .int x2, .int x5, .int x4, .int x5]) (st' := []) (E' := E2) (I' := I2) (J' := J2) (S' := S2) am_e287 rfl rfl rfl rfl ?_
        refine w_st (i' := 51) (ls' := [.ref 99, .int x1, .int x2, .int x5, .int x4, .int x5]) (st' := [.ref 99]) (E' := E2) (I' := I2) (J' := J2) (S' := S2) am_e287 rfl rfl rfl rfl ?_
        refine w_st (i' := 52) (ls' := [.ref 99, .int x1, .int x2, .int x5, .int x4, .int x5]) (st' := [.ref 116]) (E' := E2) (I' := I2) (J' := J2) (S' := S2) am_e287 rfl rfl rfl rfl ?_
        refine w_st (i' := 53) (ls' := [.ref 99, .int x1, .int x2, .int x5, .int x4, .int x5]) (st' := [.int (nI 47), .ref 116]) (E' := E2) (I' := I2) (J' := J2) (S' := S2) am_e287 rfl rfl rfl rfl ?_
        refine w_ia (k := 116) (n := 51) (jn := 47) am_e287 rfl rfl (by decide) (vp_in_nI (by decide) (by decide)) rfl ?_
        show am_ww 287 54 [.ref 99, .int x1, .int x2, .int x5, .int x4, .int x5] [.int ((I2 116) 47)] E2 I2 J2 S2 _
        refine w_st (i' := 55) (ls' := [.ref 99, .int x1, .int x2, .int x5, .int ((I2 116) 47), .int x5]) (st' := []) (E' := E2) (I' := I2) (J' := J2) (S' := S2) am_e287 rfl rfl rfl rfl ?_
        first | exact hm | (simp only [if_pos m3] at hm; exact hm)
      · have m3 : ¬ (x3 = (-1)) := (of_decide_eq_false c)
        refine w_st (i' := 42) (ls' := [.ref 99, .int x1, .int x2, .int x3, .int x4, .int x5]) (st' := [.ref 99]) (E' := E2) (I' := I2) (J' := J2) (S' := S2) am_e287 rfl rfl rfl rfl ?_
        refine w_st (i' := 43) (ls' := [.ref 99, .int x1, .int x2, .int x3, .int x4, .int x5]) (st' := [.ref 116]) (E' := E2) (I' := I2) (J' := J2) (S' := S2) am_e287 rfl rfl rfl rfl ?_
        refine w_st (i' := 44) (ls' := [.ref 99, .int x1, .int x2, .int x3, .int x4, .int x5]) (st' := [.int (nI 47), .ref 116]) (E' := E2) (I' := I2) (J' := J2) (S' := S2) am_e287 rfl rfl rfl rfl ?_
        refine w_ia (k := 116) (n := 51) (jn := 47) am_e287 rfl rfl (by decide) (vp_in_nI (by decide) (by decide)) rfl ?_
        show am_ww 287 45 [.ref 99, .int x1, .int x2, .int x3, .int x4, .int x5] [.int ((I2 116) 47)] E2 I2 J2 S2 _
        refine w_st (i' := 46) (ls' := [.ref 99, .int x1, .int x2, .int x3, .int x4, .int x5]) (st' := [.int x4, .int ((I2 116) 47)]) (E' := E2) (I' := I2) (J' := J2) (S' := S2) am_e287 rfl rfl rfl rfl ?_
        refine w_if2 am_e287 rfl rfl (fun c => ?_) (fun c => ?_)
        · have m4 : ((I2 116) 47) < x4 := (of_decide_eq_true c)
          refine w_st (i' := 49) (ls' := [.ref 99, .int x1, .int x2, .int x3, .int x4, .int x5]) (st' := [.int x5]) (E' := E2) (I' := I2) (J' := J2) (S' := S2) am_e287 rfl rfl rfl rfl ?_
          refine w_st (i' := 50) (ls' := [.ref 99, .int x1, .int x2, .int x5, .int x4, .int x5]) (st' := []) (E' := E2) (I' := I2) (J' := J2) (S' := S2) am_e287 rfl rfl rfl rfl ?_
          refine w_st (i' := 51) (ls' := [.ref 99, .int x1, .int x2, .int x5, .int x4, .int x5]) (st' := [.ref 99]) (E' := E2) (I' := I2) (J' := J2) (S' := S2) am_e287 rfl rfl rfl rfl ?_
          refine w_st (i' := 52) (ls' := [.ref 99, .int x1, .int x2, .int x5, .int x4, .int x5]) (st' := [.ref 116]) (E' := E2) (I' := I2) (J' := J2) (S' := S2) am_e287 rfl rfl rfl rfl ?_
          refine w_st (i' := 53) (ls' := [.ref 99, .int x1, .int x2, .int x5, .int x4, .int x5]) (st' := [.int (nI 47), .ref 116]) (E' := E2) (I' := I2) (J' := J2) (S' := S2) am_e287 rfl rfl rfl rfl ?_
          refine w_ia (k := 116) (n := 51) (jn := 47) am_e287 rfl rfl (by decide) (vp_in_nI (by decide) (by decide)) rfl ?_
          show am_ww 287 54 [.ref 99, .int x1, .int x2, .int x5, .int x4, .int x5] [.int ((I2 116) 47)] E2 I2 J2 S2 _
          refine w_st (i' := 55) (ls' := [.ref 99, .int x1, .int x2, .int x5, .int ((I2 116) 47), .int x5]) (st' := []) (E' := E2) (I' := I2) (J' := J2) (S' := S2) am_e287 rfl rfl rfl rfl ?_
          first | exact hm | (simp only [if_neg m3, if_pos m4] at hm; exact hm)
        · have m4 : ¬ (((I2 116) 47) < x4) := (of_decide_eq_false c)
          refine w_st (i' := 55) (ls' := [.ref 99, .int x1, .int x2, .int x3, .int x4, .int x5]) (st' := []) (E' := E2) (I' := I2) (J' := J2) (S' := S2) am_e287 rfl rfl rfl rfl ?_
          first | exact hm | (simp only [if_neg m3, if_neg m4] at hm; exact hm)
    refine w_var (fun w5 => am_ww 287 55 [.ref 99, .int x1, .int x2, .int w5, .int (if x3 = (-1) then ((I2 116) 47) else (if ((I2 116) 47) < x4 then ((I2 116) 47) else x4)), .int x5] [] E2 I2 J2 S2 _) (if x3 = (-1) then x5 else (if ((I2 116) 47) < x4 then x5 else x3)) (fun w5 hw5 => ?_)
    replace h := h w5 hw5
    refine w_var (fun w6 => am_ww 287 55 [.ref 99, .int x1, .int x2, .int w5, .int w6, .int x5] [] E2 I2 J2 S2 _) (if x3 = (-1) then ((I2 116) 47) else (if ((I2 116) 47) < x4 then ((I2 116) 47) else x4)) (fun w6 hw6 => ?_)
    replace h := h w6 hw6
    refine w_st (i' := 56) (ls' := [.ref 99, .int x1, .int x2, .int w5, .int w6, .int (x5 + nI 1)]) (st' := []) (E' := E2) (I' := I2) (J' := J2) (S' := S2) am_e287 rfl rfl rfl rfl ?_
    refine w_st (i' := 27) (ls' := [.ref 99, .int x1, .int x2, .int w5, .int w6, .int (x5 + nI 1)]) (st' := []) (E' := E2) (I' := I2) (J' := J2) (S' := S2) am_e287 rfl rfl rfl rfl ?_
    exact h
-- 289 copyTo
theorem g289_0_134  {E : am_Ev} {I : Nat → Nat → Int32} {J : Nat → Nat → Int64} {S : Nat → Nat → Option Nat} {Q : am_Qt}  (h : am_ww 289 2 [.ref 134, .ref 117, .int (nI 0)] [] E I J S Q) : am_ww 289 0 [.ref 134, .ref 117, am_U] [] E I J S Q := by
  refine w_st (i' := 1) (ls' := [.ref 134, .ref 117, am_U]) (st' := [.int (nI 0)]) (E' := E) (I' := I) (J' := J) (S' := S) am_e289 rfl rfl rfl rfl ?_
  refine w_st (i' := 2) (ls' := [.ref 134, .ref 117, .int (nI 0)]) (st' := []) (E' := E) (I' := I) (J' := J) (S' := S) am_e289 rfl rfl rfl rfl ?_
  exact h
theorem g289_2_134 {x2 : Int32} {E : am_Ev} {I : Nat → Nat → Int32} {J : Nat → Nat → Int64} {S : Nat → Nat → Option Nat} {Q : am_Qt}  (h : ((nI 20451) ≤ x2 → (Q (.inl none) E I J S)) ∧ (¬ (nI 20451) ≤ x2 → (vp_in x2 20451 ∧ (am_ww 289 2 [.ref 134, .ref 117, .int (x2 + nI 1)] [] E (u_I I 134 (upd (I 134) x2.toNatClampNeg ((I 117) x2.toNatClampNeg))) J S Q)))) : am_ww 289 2 [.ref 134, .ref 117, .int x2] [] E I J S Q := by
  refine w_st (i' := 3) (ls' := [.ref 134, .ref 117, .int x2]) (st' := [.int x2]) (E' := E) (I' := I) (J' := J) (S' := S) am_e289 rfl rfl rfl rfl ?_
  refine w_st (i' := 4) (ls' := [.ref 134, .ref 117, .int x2]) (st' := [.ref 134, .int x2]) (E' := E) (I' := I) (J' := J) (S' := S) am_e289 rfl rfl rfl rfl ?_
  refine w_st (i' := 5) (ls' := [.ref 134, .ref 117, .int x2]) (st' := [.int (nI 20451), .int x2]) (E' := E) (I' := I) (J' := J) (S' := S) am_e289 rfl rfl rfl rfl ?_
  refine w_if2 am_e289 rfl rfl (fun c => ?_) (fun c => ?_)
  · replace h := h.1 (of_decide_eq_true c)
    exact w_end am_e289 rfl rfl rfl h
  · replace h := h.2 (of_decide_eq_false c)
    refine w_st (i' := 7) (ls' := [.ref 134, .ref 117, .int x2]) (st' := [.ref 134]) (E' := E) (I' := I) (J' := J) (S' := S) am_e289 rfl rfl rfl rfl ?_
    refine w_st (i' := 8) (ls' := [.ref 134, .ref 117, .int x2]) (st' := [.int x2, .ref 134]) (E' := E) (I' := I) (J' := J) (S' := S) am_e289 rfl rfl rfl rfl ?_
    refine w_st (i' := 9) (ls' := [.ref 134, .ref 117, .int x2]) (st' := [.ref 117, .int x2, .ref 134]) (E' := E) (I' := I) (J' := J) (S' := S) am_e289 rfl rfl rfl rfl ?_
    refine w_st (i' := 10) (ls' := [.ref 134, .ref 117, .int x2]) (st' := [.int x2, .ref 117, .int x2, .ref 134]) (E' := E) (I' := I) (J' := J) (S' := S) am_e289 rfl rfl rfl rfl ?_
    have hf1 := h.1
    replace h := h.2
    refine w_ia (k := 117) (n := 20451) (jn := x2.toNatClampNeg) am_e289 rfl rfl (by decide) hf1 rfl ?_
    refine w_is (k := 134) (n := 20451) (jn := x2.toNatClampNeg) am_e289 rfl rfl (by decide) hf1 rfl ?_
    show am_ww 289 12 [.ref 134, .ref 117, .int x2] [] E (u_I I 134 (upd (I 134) x2.toNatClampNeg ((I 117) x2.toNatClampNeg))) J S _
    refine w_st (i' := 13) (ls' := [.ref 134, .ref 117, .int (x2 + nI 1)]) (st' := []) (E' := E) (I' := (u_I I 134 (upd (I 134) x2.toNatClampNeg ((I 117) x2.toNatClampNeg)))) (J' := J) (S' := S) am_e289 rfl rfl rfl rfl ?_
    refine w_st (i' := 2) (ls' := [.ref 134, .ref 117, .int (x2 + nI 1)]) (st' := []) (E' := E) (I' := (u_I I 134 (upd (I 134) x2.toNatClampNeg ((I 117) x2.toNatClampNeg)))) (J' := J) (S' := S) am_e289 rfl rfl rfl rfl ?_
    exact h
-- 289 copyTo
theorem g289_0_135  {E : am_Ev} {I : Nat → Nat → Int32} {J : Nat → Nat → Int64} {S : Nat → Nat → Option Nat} {Q : am_Qt}  (h : am_ww 289 2 [.ref 135, .ref 118, .int (nI 0)] [] E I J S Q) : am_ww 289 0 [.ref 135, .ref 118, am_U] [] E I J S Q := by
  refine w_st (i' := 1) (ls' := [.ref 135, .ref 118, am_U]) (st' := [.int (nI 0)]) (E' := E) (I' := I) (J' := J) (S' := S) am_e289 rfl rfl rfl rfl ?_
  refine w_st (i' := 2) (ls' := [.ref 135, .ref 118, .int (nI 0)]) (st' := []) (E' := E) (I' := I) (J' := J) (S' := S) am_e289 rfl rfl rfl rfl ?_
  exact h
theorem g289_2_135 {x2 : Int32} {E : am_Ev} {I : Nat → Nat → Int32} {J : Nat → Nat → Int64} {S : Nat → Nat → Option Nat} {Q : am_Qt}  (h : ((nI 401) ≤ x2 → (Q (.inl none) E I J S)) ∧ (¬ (nI 401) ≤ x2 → (vp_in x2 401 ∧ (am_ww 289 2 [.ref 135, .ref 118, .int (x2 + nI 1)] [] E (u_I I 135 (upd (I 135) x2.toNatClampNeg ((I 118) x2.toNatClampNeg))) J S Q)))) : am_ww 289 2 [.ref 135, .ref 118, .int x2] [] E I J S Q := by
  refine w_st (i' := 3) (ls' := [.ref 135, .ref 118, .int x2]) (st' := [.int x2]) (E' := E) (I' := I) (J' := J) (S' := S) am_e289 rfl rfl rfl rfl ?_
  refine w_st (i' := 4) (ls' := [.ref 135, .ref 118, .int x2]) (st' := [.ref 135, .int x2]) (E' := E) (I' := I) (J' := J) (S' := S) am_e289 rfl rfl rfl rfl ?_
  refine w_st (i' := 5) (ls' := [.ref 135, .ref 118, .int x2]) (st' := [.int (nI 401), .int x2]) (E' := E) (I' := I) (J' := J) (S' := S) am_e289 rfl rfl rfl rfl ?_
  refine w_if2 am_e289 rfl rfl (fun c => ?_) (fun c => ?_)
  · replace h := h.1 (of_decide_eq_true c)
    exact w_end am_e289 rfl rfl rfl h
  · replace h := h.2 (of_decide_eq_false c)
    refine w_st (i' := 7) (ls' := [.ref 135, .ref 118, .int x2]) (st' := [.ref 135]) (E' := E) (I' := I) (J' := J) (S' := S) am_e289 rfl rfl rfl rfl ?_
    refine w_st (i' := 8) (ls' := [.ref 135, .ref 118, .int x2]) (st' := [.int x2, .ref 135]) (E' := E) (I' := I) (J' := J) (S' := S) am_e289 rfl rfl rfl rfl ?_
    refine w_st (i' := 9) (ls' := [.ref 135, .ref 118, .int x2]) (st' := [.ref 118, .int x2, .ref 135]) (E' := E) (I' := I) (J' := J) (S' := S) am_e289 rfl rfl rfl rfl ?_
    refine w_st (i' := 10) (ls' := [.ref 135, .ref 118, .int x2]) (st' := [.int x2, .ref 118, .int x2, .ref 135]) (E' := E) (I' := I) (J' := J) (S' := S) am_e289 rfl rfl rfl rfl ?_
    have hf1 := h.1
    replace h := h.2
    refine w_ia (k := 118) (n := 401) (jn := x2.toNatClampNeg) am_e289 rfl rfl (by decide) hf1 rfl ?_
    refine w_is (k := 135) (n := 401) (jn := x2.toNatClampNeg) am_e289 rfl rfl (by decide) hf1 rfl ?_
    show am_ww 289 12 [.ref 135, .ref 118, .int x2] [] E (u_I I 135 (upd (I 135) x2.toNatClampNeg ((I 118) x2.toNatClampNeg))) J S _
    refine w_st (i' := 13) (ls' := [.ref 135, .ref 118, .int (x2 + nI 1)]) (st' := []) (E' := E) (I' := (u_I I 135 (upd (I 135) x2.toNatClampNeg ((I 118) x2.toNatClampNeg)))) (J' := J) (S' := S) am_e289 rfl rfl rfl rfl ?_
    refine w_st (i' := 2) (ls' := [.ref 135, .ref 118, .int (x2 + nI 1)]) (st' := []) (E' := E) (I' := (u_I I 135 (upd (I 135) x2.toNatClampNeg ((I 118) x2.toNatClampNeg)))) (J' := J) (S' := S) am_e289 rfl rfl rfl rfl ?_
    exact h
-- 289 copyTo
theorem g289_0_136  {E : am_Ev} {I : Nat → Nat → Int32} {J : Nat → Nat → Int64} {S : Nat → Nat → Option Nat} {Q : am_Qt}  (h : am_ww 289 2 [.ref 136, .ref 119, .int (nI 0)] [] E I J S Q) : am_ww 289 0 [.ref 136, .ref 119, am_U] [] E I J S Q := by
  refine w_st (i' := 1) (ls' := [.ref 136, .ref 119, am_U]) (st' := [.int (nI 0)]) (E' := E) (I' := I) (J' := J) (S' := S) am_e289 rfl rfl rfl rfl ?_
  refine w_st (i' := 2) (ls' := [.ref 136, .ref 119, .int (nI 0)]) (st' := []) (E' := E) (I' := I) (J' := J) (S' := S) am_e289 rfl rfl rfl rfl ?_
  exact h
theorem g289_2_136 {x2 : Int32} {E : am_Ev} {I : Nat → Nat → Int32} {J : Nat → Nat → Int64} {S : Nat → Nat → Option Nat} {Q : am_Qt}  (h : ((nI 401) ≤ x2 → (Q (.inl none) E I J S)) ∧ (¬ (nI 401) ≤ x2 → (vp_in x2 401 ∧ (am_ww 289 2 [.ref 136, .ref 119, .int (x2 + nI 1)] [] E (u_I I 136 (upd (I 136) x2.toNatClampNeg ((I 119) x2.toNatClampNeg))) J S Q)))) : am_ww 289 2 [.ref 136, .ref 119, .int x2] [] E I J S Q := by
  refine w_st (i' := 3) (ls' := [.ref 136, .ref 119, .int x2]) (st' := [.int x2]) (E' := E) (I' := I) (J' := J) (S' := S) am_e289 rfl rfl rfl rfl ?_
  refine w_st (i' := 4) (ls' := [.ref 136, .ref 119, .int x2]) (st' := [.ref 136, .int x2]) (E' := E) (I' := I) (J' := J) (S' := S) am_e289 rfl rfl rfl rfl ?_
  refine w_st (i' := 5) (ls' := [.ref 136, .ref 119, .int x2]) (st' := [.int (nI 401), .int x2]) (E' := E) (I' := I) (J' := J) (S' := S) am_e289 rfl rfl rfl rfl ?_
  refine w_if2 am_e289 rfl rfl (fun c => ?_) (fun c => ?_)
  · replace h := h.1 (of_decide_eq_true c)
    exact w_end am_e289 rfl rfl rfl h
  · replace h := h.2 (of_decide_eq_false c)
    refine w_st (i' := 7) (ls' := [.ref 136, .ref 119, .int x2]) (st' := [.ref 136]) (E' := E) (I' := I) (J' := J) (S' := S) am_e289 rfl rfl rfl rfl ?_
    refine w_st (i' := 8) (ls' := [.ref 136, .ref 119, .int x2]) (st' := [.int x2, .ref 136]) (E' := E) (I' := I) (J' := J) (S' := S) am_e289 rfl rfl rfl rfl ?_
    refine w_st (i' := 9) (ls' := [.ref 136, .ref 119, .int x2]) (st' := [.ref 119, .int x2, .ref 136]) (E' := E) (I' := I) (J' := J) (S' := S) am_e289 rfl rfl rfl rfl ?_
    refine w_st (i' := 10) (ls' := [.ref 136, .ref 119, .int x2]) (st' := [.int x2, .ref 119, .int x2, .ref 136]) (E' := E) (I' := I) (J' := J) (S' := S) am_e289 rfl rfl rfl rfl ?_
    have hf1 := h.1
    replace h := h.2
    refine w_ia (k := 119) (n := 401) (jn := x2.toNatClampNeg) am_e289 rfl rfl (by decide) hf1 rfl ?_
    refine w_is (k := 136) (n := 401) (jn := x2.toNatClampNeg) am_e289 rfl rfl (by decide) hf1 rfl ?_
    show am_ww 289 12 [.ref 136, .ref 119, .int x2] [] E (u_I I 136 (upd (I 136) x2.toNatClampNeg ((I 119) x2.toNatClampNeg))) J S _
    refine w_st (i' := 13) (ls' := [.ref 136, .ref 119, .int (x2 + nI 1)]) (st' := []) (E' := E) (I' := (u_I I 136 (upd (I 136) x2.toNatClampNeg ((I 119) x2.toNatClampNeg)))) (J' := J) (S' := S) am_e289 rfl rfl rfl rfl ?_
    refine w_st (i' := 2) (ls' := [.ref 136, .ref 119, .int (x2 + nI 1)]) (st' := []) (E' := E) (I' := (u_I I 136 (upd (I 136) x2.toNatClampNeg ((I 119) x2.toNatClampNeg)))) (J' := J) (S' := S) am_e289 rfl rfl rfl rfl ?_
    exact h
-- 289 copyTo
theorem g289_0_137  {E : am_Ev} {I : Nat → Nat → Int32} {J : Nat → Nat → Int64} {S : Nat → Nat → Option Nat} {Q : am_Qt}  (h : am_ww 289 2 [.ref 137, .ref 120, .int (nI 0)] [] E I J S Q) : am_ww 289 0 [.ref 137, .ref 120, am_U] [] E I J S Q := by
  refine w_st (i' := 1) (ls' := [.ref 137, .ref 120, am_U]) (st' := [.int (nI 0)]) (E' := E) (I' := I) (J' := J) (S' := S) am_e289 rfl rfl rfl rfl ?_
  refine w_st (i' := 2) (ls' := [.ref 137, .ref 120, .int (nI 0)]) (st' := []) (E' := E) (I' := I) (J' := J) (S' := S) am_e289 rfl rfl rfl rfl ?_
  exact h
theorem g289_2_137 {x2 : Int32} {E : am_Ev} {I : Nat → Nat → Int32} {J : Nat → Nat → Int64} {S : Nat → Nat → Option Nat} {Q : am_Qt}  (h : ((nI 400) ≤ x2 → (Q (.inl none) E I J S)) ∧ (¬ (nI 400) ≤ x2 → (vp_in x2 400 ∧ (am_ww 289 2 [.ref 137, .ref 120, .int (x2 + nI 1)] [] E (u_I I 137 (upd (I 137) x2.toNatClampNeg ((I 120) x2.toNatClampNeg))) J S Q)))) : am_ww 289 2 [.ref 137, .ref 120, .int x2] [] E I J S Q := by
  refine w_st (i' := 3) (ls' := [.ref 137, .ref 120, .int x2]) (st' := [.int x2]) (E' := E) (I' := I) (J' := J) (S' := S) am_e289 rfl rfl rfl rfl ?_
  refine w_st (i' := 4) (ls' := [.ref 137, .ref 120, .int x2]) (st' := [.ref 137, .int x2]) (E' := E) (I' := I) (J' := J) (S' := S) am_e289 rfl rfl rfl rfl ?_
  refine w_st (i' := 5) (ls' := [.ref 137, .ref 120, .int x2]) (st' := [.int (nI 400), .int x2]) (E' := E) (I' := I) (J' := J) (S' := S) am_e289 rfl rfl rfl rfl ?_
  refine w_if2 am_e289 rfl rfl (fun c => ?_) (fun c => ?_)
  · replace h := h.1 (of_decide_eq_true c)
    exact w_end am_e289 rfl rfl rfl h
  · replace h := h.2 (of_decide_eq_false c)
    refine w_st (i' := 7) (ls' := [.ref 137, .ref 120, .int x2]) (st' := [.ref 137]) (E' := E) (I' := I) (J' := J) (S' := S) am_e289 rfl rfl rfl rfl ?_
    refine w_st (i' := 8) (ls' := [.ref 137, .ref 120, .int x2]) (st' := [.int x2, .ref 137]) (E' := E) (I' := I) (J' := J) (S' := S) am_e289 rfl rfl rfl rfl ?_
    refine w_st (i' := 9) (ls' := [.ref 137, .ref 120, .int x2]) (st' := [.ref 120, .int x2, .ref 137]) (E' := E) (I' := I) (J' := J) (S' := S) am_e289 rfl rfl rfl rfl ?_
    refine w_st (i' := 10) (ls' := [.ref 137, .ref 120, .int x2]) (st' := [.int x2, .ref 120, .int x2, .ref 137]) (E' := E) (I' := I) (J' := J) (S' := S) am_e289 rfl rfl rfl rfl ?_
    have hf1 := h.1
    replace h := h.2
    refine w_ia (k := 120) (n := 400) (jn := x2.toNatClampNeg) am_e289 rfl rfl (by decide) hf1 rfl ?_
    refine w_is (k := 137) (n := 400) (jn := x2.toNatClampNeg) am_e289 rfl rfl (by decide) hf1 rfl ?_
    show am_ww 289 12 [.ref 137, .ref 120, .int x2] [] E (u_I I 137 (upd (I 137) x2.toNatClampNeg ((I 120) x2.toNatClampNeg))) J S _
    refine w_st (i' := 13) (ls' := [.ref 137, .ref 120, .int (x2 + nI 1)]) (st' := []) (E' := E) (I' := (u_I I 137 (upd (I 137) x2.toNatClampNeg ((I 120) x2.toNatClampNeg)))) (J' := J) (S' := S) am_e289 rfl rfl rfl rfl ?_
    refine w_st (i' := 2) (ls' := [.ref 137, .ref 120, .int (x2 + nI 1)]) (st' := []) (E' := E) (I' := (u_I I 137 (upd (I 137) x2.toNatClampNeg ((I 120) x2.toNatClampNeg)))) (J' := J) (S' := S) am_e289 rfl rfl rfl rfl ?_
    exact h
-- 289 copyTo
theorem g289_0_138  {E : am_Ev} {I : Nat → Nat → Int32} {J : Nat → Nat → Int64} {S : Nat → Nat → Option Nat} {Q : am_Qt}  (h : am_ww 289 2 [.ref 138, .ref 121, .int (nI 0)] [] E I J S Q) : am_ww 289 0 [.ref 138, .ref 121, am_U] [] E I J S Q := by
  refine w_st (i' := 1) (ls' := [.ref 138, .ref 121, am_U]) (st' := [.int (nI 0)]) (E' := E) (I' := I) (J' := J) (S' := S) am_e289 rfl rfl rfl rfl ?_
  refine w_st (i' := 2) (ls' := [.ref 138, .ref 121, .int (nI 0)]) (st' := []) (E' := E) (I' := I) (J' := J) (S' := S) am_e289 rfl rfl rfl rfl ?_
  exact h
theorem g289_2_138 {x2 : Int32} {E : am_Ev} {I : Nat → Nat → Int32} {J : Nat → Nat → Int64} {S : Nat → Nat → Option Nat} {Q : am_Qt}  (h : ((nI 400) ≤ x2 → (Q (.inl none) E I J S)) ∧ (¬ (nI 400) ≤ x2 → (vp_in x2 400 ∧ (am_ww 289 2 [.ref 138, .ref 121, .int (x2 + nI 1)] [] E (u_I I 138 (upd (I 138) x2.toNatClampNeg ((I 121) x2.toNatClampNeg))) J S Q)))) : am_ww 289 2 [.ref 138, .ref 121, .int x2] [] E I J S Q := by
  refine w_st (i' := 3) (ls' := [.ref 138, .ref 121, .int x2]) (st' := [.int x2]) (E' := E) (I' := I) (J' := J) (S' := S) am_e289 rfl rfl rfl rfl ?_
  refine w_st (i' := 4) (ls' := [.ref 138, .ref 121, .int x2]) (st' := [.ref 138, .int x2]) (E' := E) (I' := I) (J' := J) (S' := S) am_e289 rfl rfl rfl rfl ?_
  refine w_st (i' := 5) (ls' := [.ref 138, .ref 121, .int x2]) (st' := [.int (nI 400), .int x2]) (E' := E) (I' := I) (J' := J) (S' := S) am_e289 rfl rfl rfl rfl ?_
  refine w_if2 am_e289 rfl rfl (fun c => ?_) (fun c => ?_)
  · replace h := h.1 (of_decide_eq_true c)
    exact w_end am_e289 rfl rfl rfl h
  · replace h := h.2 (of_decide_eq_false c)
    refine w_st (i' := 7) (ls' := [.ref 138, .ref 121, .int x2]) (st' := [.ref 138]) (E' := E) (I' := I) (J' := J) (S' := S) am_e289 rfl rfl rfl rfl ?_
    refine w_st (i' := 8) (ls' := [.ref 138, .ref 121, .int x2]) (st' := [.int x2, .ref 138]) (E' := E) (I' := I) (J' := J) (S' := S) am_e289 rfl rfl rfl rfl ?_
    refine w_st (i' := 9) (ls' := [.ref 138, .ref 121, .int x2]) (st' := [.ref 121, .int x2, .ref 138]) (E' := E) (I' := I) (J' := J) (S' := S) am_e289 rfl rfl rfl rfl ?_
    refine w_st (i' := 10) (ls' := [.ref 138, .ref 121, .int x2]) (st' := [.int x2, .ref 121, .int x2, .ref 138]) (E' := E) (I' := I) (J' := J) (S' := S) am_e289 rfl rfl rfl rfl ?_
    have hf1 := h.1
    replace h := h.2
    refine w_ia (k := 121) (n := 400) (jn := x2.toNatClampNeg) am_e289 rfl rfl (by decide) hf1 rfl ?_
    refine w_is (k := 138) (n := 400) (jn := x2.toNatClampNeg) am_e289 rfl rfl (by decide) hf1 rfl ?_
    show am_ww 289 12 [.ref 138, .ref 121, .int x2] [] E (u_I I 138 (upd (I 138) x2.toNatClampNeg ((I 121) x2.toNatClampNeg))) J S _
    refine w_st (i' := 13) (ls' := [.ref 138, .ref 121, .int (x2 + nI 1)]) (st' := []) (E' := E) (I' := (u_I I 138 (upd (I 138) x2.toNatClampNeg ((I 121) x2.toNatClampNeg)))) (J' := J) (S' := S) am_e289 rfl rfl rfl rfl ?_
    refine w_st (i' := 2) (ls' := [.ref 138, .ref 121, .int (x2 + nI 1)]) (st' := []) (E' := E) (I' := (u_I I 138 (upd (I 138) x2.toNatClampNeg ((I 121) x2.toNatClampNeg)))) (J' := J) (S' := S) am_e289 rfl rfl rfl rfl ?_
    exact h
-- 289 copyTo
theorem g289_0_139  {E : am_Ev} {I : Nat → Nat → Int32} {J : Nat → Nat → Int64} {S : Nat → Nat → Option Nat} {Q : am_Qt}  (h : am_ww 289 2 [.ref 139, .ref 122, .int (nI 0)] [] E I J S Q) : am_ww 289 0 [.ref 139, .ref 122, am_U] [] E I J S Q := by
  refine w_st (i' := 1) (ls' := [.ref 139, .ref 122, am_U]) (st' := [.int (nI 0)]) (E' := E) (I' := I) (J' := J) (S' := S) am_e289 rfl rfl rfl rfl ?_
  refine w_st (i' := 2) (ls' := [.ref 139, .ref 122, .int (nI 0)]) (st' := []) (E' := E) (I' := I) (J' := J) (S' := S) am_e289 rfl rfl rfl rfl ?_
  exact h
theorem g289_2_139 {x2 : Int32} {E : am_Ev} {I : Nat → Nat → Int32} {J : Nat → Nat → Int64} {S : Nat → Nat → Option Nat} {Q : am_Qt}  (h : ((nI 400) ≤ x2 → (Q (.inl none) E I J S)) ∧ (¬ (nI 400) ≤ x2 → (vp_in x2 400 ∧ (am_ww 289 2 [.ref 139, .ref 122, .int (x2 + nI 1)] [] E (u_I I 139 (upd (I 139) x2.toNatClampNeg ((I 122) x2.toNatClampNeg))) J S Q)))) : am_ww 289 2 [.ref 139, .ref 122, .int x2] [] E I J S Q := by
  refine w_st (i' := 3) (ls' := [.ref 139, .ref 122, .int x2]) (st' := [.int x2]) (E' := E) (I' := I) (J' := J) (S' := S) am_e289 rfl rfl rfl rfl ?_
  refine w_st (i' := 4) (ls' := [.ref 139, .ref 122, .int x2]) (st' := [.ref 139, .int x2]) (E' := E) (I' := I) (J' := J) (S' := S) am_e289 rfl rfl rfl rfl ?_
  refine w_st (i' := 5) (ls' := [.ref 139, .ref 122, .int x2]) (st' := [.int (nI 400), .int x2]) (E' := E) (I' := I) (J' := J) (S' := S) am_e289 rfl rfl rfl rfl ?_
  refine w_if2 am_e289 rfl rfl (fun c => ?_) (fun c => ?_)
  · replace h := h.1 (of_decide_eq_true c)
    exact w_end am_e289 rfl rfl rfl h
  · replace h := h.2 (of_decide_eq_false c)
    refine w_st (i' := 7) (ls' := [.ref 139, .ref 122, .int x2]) (st' := [.ref 139]) (E' := E) (I' := I) (J' := J) (S' := S) am_e289 rfl rfl rfl rfl ?_
    refine w_st (i' := 8) (ls' := [.ref 139, .ref 122, .int x2]) (st' := [.int x2, .ref 139]) (E' := E) (I' := I) (J' := J) (S' := S) am_e289 rfl rfl rfl rfl ?_
    refine w_st (i' := 9) (ls' := [.ref 139, .ref 122, .int x2]) (st' := [.ref 122, .int x2, .ref 139]) (E' := E) (I' := I) (J' := J) (S' := S) am_e289 rfl rfl rfl rfl ?_
    refine w_st (i' := 10) (ls' := [.ref 139, .ref 122, .int x2]) (st' := [.int x2, .ref 122, .int x2, .ref 139]) (E' := E) (I' := I) (J' := J) (S' := S) am_e289 rfl rfl rfl rfl ?_
    have hf1 := h.1
    replace h := h.2
    refine w_ia (k := 122) (n := 400) (jn := x2.toNatClampNeg) am_e289 rfl rfl (by decide) hf1 rfl ?_
    refine w_is (k := 139) (n := 400) (jn := x2.toNatClampNeg) am_e289 rfl rfl (by decide) hf1 rfl ?_
    show am_ww 289 12 [.ref 139, .ref 122, .int x2] [] E (u_I I 139 (upd (I 139) x2.toNatClampNeg ((I 122) x2.toNatClampNeg))) J S _
    refine w_st (i' := 13) (ls' := [.ref 139, .ref 122, .int (x2 + nI 1)]) (st' := []) (E' := E) (I' := (u_I I 139 (upd (I 139) x2.toNatClampNeg ((I 122) x2.toNatClampNeg)))) (J' := J) (S' := S) am_e289 rfl rfl rfl rfl ?_
    refine w_st (i' := 2) (ls' := [.ref 139, .ref 122, .int (x2 + nI 1)]) (st' := []) (E' := E) (I' := (u_I I 139 (upd (I 139) x2.toNatClampNeg ((I 122) x2.toNatClampNeg)))) (J' := J) (S' := S) am_e289 rfl rfl rfl rfl ?_
    exact h
-- 289 copyTo
theorem g289_0_140  {E : am_Ev} {I : Nat → Nat → Int32} {J : Nat → Nat → Int64} {S : Nat → Nat → Option Nat} {Q : am_Qt}  (h : am_ww 289 2 [.ref 140, .ref 123, .int (nI 0)] [] E I J S Q) : am_ww 289 0 [.ref 140, .ref 123, am_U] [] E I J S Q := by
  refine w_st (i' := 1) (ls' := [.ref 140, .ref 123, am_U]) (st' := [.int (nI 0)]) (E' := E) (I' := I) (J' := J) (S' := S) am_e289 rfl rfl rfl rfl ?_
  refine w_st (i' := 2) (ls' := [.ref 140, .ref 123, .int (nI 0)]) (st' := []) (E' := E) (I' := I) (J' := J) (S' := S) am_e289 rfl rfl rfl rfl ?_
  exact h
theorem g289_2_140 {x2 : Int32} {E : am_Ev} {I : Nat → Nat → Int32} {J : Nat → Nat → Int64} {S : Nat → Nat → Option Nat} {Q : am_Qt}  (h : ((nI 90) ≤ x2 → (Q (.inl none) E I J S)) ∧ (¬ (nI 90) ≤ x2 → (vp_in x2 90 ∧ (am_ww 289 2 [.ref 140, .ref 123, .int (x2 + nI 1)] [] E (u_I I 140 (upd (I 140) x2.toNatClampNeg ((I 123) x2.toNatClampNeg))) J S Q)))) : am_ww 289 2 [.ref 140, .ref 123, .int x2] [] E I J S Q := by
  refine w_st (i' := 3) (ls' := [.ref 140, .ref 123, .int x2]) (st' := [.int x2]) (E' := E) (I' := I) (J' := J) (S' := S) am_e289 rfl rfl rfl rfl ?_
  refine w_st (i' := 4) (ls' := [.ref 140, .ref 123, .int x2]) (st' := [.ref 140, .int x2]) (E' := E) (I' := I) (J' := J) (S' := S) am_e289 rfl rfl rfl rfl ?_
  refine w_st (i' := 5) (ls' := [.ref 140, .ref 123, .int x2]) (st' := [.int (nI 90), .int x2]) (E' := E) (I' := I) (J' := J) (S' := S) am_e289 rfl rfl rfl rfl ?_
  refine w_if2 am_e289 rfl rfl (fun c => ?_) (fun c => ?_)
  · replace h := h.1 (of_decide_eq_true c)
    exact w_end am_e289 rfl rfl rfl h
  · replace h := h.2 (of_decide_eq_false c)
    refine w_st (i' := 7) (ls' := [.ref 140, .ref 123, .int x2]) (st' := [.ref 140]) (E' := E) (I' := I) (J' := J) (S' := S) am_e289 rfl rfl rfl rfl ?_
    refine w_st (i' := 8) (ls' := [.ref 140, .ref 123, .int x2]) (st' := [.int x2, .ref 140]) (E' := E) (I' := I) (J' := J) (S' := S) am_e289 rfl rfl rfl rfl ?_
    refine w_st (i' := 9) (ls' := [.ref 140, .ref 123, .int x2]) (st' := [.ref 123, .int x2, .ref 140]) (E' := E) (I' := I) (J' := J) (S' := S) am_e289 rfl rfl rfl rfl ?_
    refine w_st (i' := 10) (ls' := [.ref 140, .ref 123, .int x2]) (st' := [.int x2, .ref 123, .int x2, .ref 140]) (E' := E) (I' := I) (J' := J) (S' := S) am_e289 rfl rfl rfl rfl ?_
    have hf1 := h.1
    replace h := h.2
    refine w_ia (k := 123) (n := 90) (jn := x2.toNatClampNeg) am_e289 rfl rfl (by decide) hf1 rfl ?_
    refine w_is (k := 140) (n := 90) (jn := x2.toNatClampNeg) am_e289 rfl rfl (by decide) hf1 rfl ?_
    show am_ww 289 12 [.ref 140, .ref 123, .int x2] [] E (u_I I 140 (upd (I 140) x2.toNatClampNeg ((I 123) x2.toNatClampNeg))) J S _
    refine w_st (i' := 13) (ls' := [.ref 140, .ref 123, .int (x2 + nI 1)]) (st' := []) (E' := E) (I' := (u_I I 140 (upd (I 140) x2.toNatClampNeg ((I 123) x2.toNatClampNeg)))) (J' := J) (S' := S) am_e289 rfl rfl rfl rfl ?_
    refine w_st (i' := 2) (ls' := [.ref 140, .ref 123, .int (x2 + nI 1)]) (st' := []) (E' := E) (I' := (u_I I 140 (upd (I 140) x2.toNatClampNeg ((I 123) x2.toNatClampNeg)))) (J' := J) (S' := S) am_e289 rfl rfl rfl rfl ?_
    exact h
-- 289 copyTo
theorem g289_0_141  {E : am_Ev} {I : Nat → Nat → Int32} {J : Nat → Nat → Int64} {S : Nat → Nat → Option Nat} {Q : am_Qt}  (h : am_ww 289 2 [.ref 141, .ref 124, .int (nI 0)] [] E I J S Q) : am_ww 289 0 [.ref 141, .ref 124, am_U] [] E I J S Q := by
  refine w_st (i' := 1) (ls' := [.ref 141, .ref 124, am_U]) (st' := [.int (nI 0)]) (E' := E) (I' := I) (J' := J) (S' := S) am_e289 rfl rfl rfl rfl ?_
  refine w_st (i' := 2) (ls' := [.ref 141, .ref 124, .int (nI 0)]) (st' := []) (E' := E) (I' := I) (J' := J) (S' := S) am_e289 rfl rfl rfl rfl ?_
  exact h
theorem g289_2_141 {x2 : Int32} {E : am_Ev} {I : Nat → Nat → Int32} {J : Nat → Nat → Int64} {S : Nat → Nat → Option Nat} {Q : am_Qt}  (h : ((nI 3) ≤ x2 → (Q (.inl none) E I J S)) ∧ (¬ (nI 3) ≤ x2 → (vp_in x2 3 ∧ (am_ww 289 2 [.ref 141, .ref 124, .int (x2 + nI 1)] [] E (u_I I 141 (upd (I 141) x2.toNatClampNeg ((I 124) x2.toNatClampNeg))) J S Q)))) : am_ww 289 2 [.ref 141, .ref 124, .int x2] [] E I J S Q := by
  refine w_st (i' := 3) (ls' := [.ref 141, .ref 124, .int x2]) (st' := [.int x2]) (E' := E) (I' := I) (J' := J) (S' := S) am_e289 rfl rfl rfl rfl ?_
  refine w_st (i' := 4) (ls' := [.ref 141, .ref 124, .int x2]) (st' := [.ref 141, .int x2]) (E' := E) (I' := I) (J' := J) (S' := S) am_e289 rfl rfl rfl rfl ?_
  refine w_st (i' := 5) (ls' := [.ref 141, .ref 124, .int x2]) (st' := [.int (nI 3), .int x2]) (E' := E) (I' := I) (J' := J) (S' := S) am_e289 rfl rfl rfl rfl ?_
  refine w_if2 am_e289 rfl rfl (fun c => ?_) (fun c => ?_)
  · replace h := h.1 (of_decide_eq_true c)
    exact w_end am_e289 rfl rfl rfl h
  · replace h := h.2 (of_decide_eq_false c)
    refine w_st (i' := 7) (ls' := [.ref 141, .ref 124, .int x2]) (st' := [.ref 141]) (E' := E) (I' := I) (J' := J) (S' := S) am_e289 rfl rfl rfl rfl ?_
    refine w_st (i' := 8) (ls' := [.ref 141, .ref 124, .int x2]) (st' := [.int x2, .ref 141]) (E' := E) (I' := I) (J' := J) (S' := S) am_e289 rfl rfl rfl rfl ?_
    refine w_st (i' := 9) (ls' := [.ref 141, .ref 124, .int x2]) (st' := [.ref 124, .int x2, .ref 141]) (E' := E) (I' := I) (J' := J) (S' := S) am_e289 rfl rfl rfl rfl ?_
    refine w_st (i' := 10) (ls' := [.ref 141, .ref 124, .int x2]) (st' := [.int x2, .ref 124, .int x2, .ref 141]) (E' := E) (I' := I) (J' := J) (S' := S) am_e289 rfl rfl rfl rfl ?_
    have hf1 := h.1
    replace h := h.2
    refine w_ia (k := 124) (n := 3) (jn := x2.toNatClampNeg) am_e289 rfl rfl (by decide) hf1 rfl ?_
    refine w_is (k := 141) (n := 3) (jn := x2.toNatClampNeg) am_e289 rfl rfl (by decide) hf1 rfl ?_
    show am_ww 289 12 [.ref 141, .ref 124, .int x2] [] E (u_I I 141 (upd (I 141) x2.toNatClampNeg ((I 124) x2.toNatClampNeg))) J S _
    refine w_st (i' := 13) (ls' := [.ref 141, .ref 124, .int (x2 + nI 1)]) (st' := []) (E' := E) (I' := (u_I I 141 (upd (I 141) x2.toNatClampNeg ((I 124) x2.toNatClampNeg)))) (J' := J) (S' := S) am_e289 rfl rfl rfl rfl ?_
    refine w_st (i' := 2) (ls' := [.ref 141, .ref 124, .int (x2 + nI 1)]) (st' := []) (E' := E) (I' := (u_I I 141 (upd (I 141) x2.toNatClampNeg ((I 124) x2.toNatClampNeg)))) (J' := J) (S' := S) am_e289 rfl rfl rfl rfl ?_
    exact h
-- 289 copyTo
theorem g289_0_142  {E : am_Ev} {I : Nat → Nat → Int32} {J : Nat → Nat → Int64} {S : Nat → Nat → Option Nat} {Q : am_Qt}  (h : am_ww 289 2 [.ref 142, .ref 126, .int (nI 0)] [] E I J S Q) : am_ww 289 0 [.ref 142, .ref 126, am_U] [] E I J S Q := by
  refine w_st (i' := 1) (ls' := [.ref 142, .ref 126, am_U]) (st' := [.int (nI 0)]) (E' := E) (I' := I) (J' := J) (S' := S) am_e289 rfl rfl rfl rfl ?_
  refine w_st (i' := 2) (ls' := [.ref 142, .ref 126, .int (nI 0)]) (st' := []) (E' := E) (I' := I) (J' := J) (S' := S) am_e289 rfl rfl rfl rfl ?_
  exact h
theorem g289_2_142 {x2 : Int32} {E : am_Ev} {I : Nat → Nat → Int32} {J : Nat → Nat → Int64} {S : Nat → Nat → Option Nat} {Q : am_Qt}  (h : ((nI 40) ≤ x2 → (Q (.inl none) E I J S)) ∧ (¬ (nI 40) ≤ x2 → (vp_in x2 40 ∧ (am_ww 289 2 [.ref 142, .ref 126, .int (x2 + nI 1)] [] E (u_I I 142 (upd (I 142) x2.toNatClampNeg ((I 126) x2.toNatClampNeg))) J S Q)))) : am_ww 289 2 [.ref 142, .ref 126, .int x2] [] E I J S Q := by
  refine w_st (i' := 3) (ls' := [.ref 142, .ref 126, .int x2]) (st' := [.int x2]) (E' := E) (I' := I) (J' := J) (S' := S) am_e289 rfl rfl rfl rfl ?_
  refine w_st (i' := 4) (ls' := [.ref 142, .ref 126, .int x2]) (st' := [.ref 142, .int x2]) (E' := E) (I' := I) (J' := J) (S' := S) am_e289 rfl rfl rfl rfl ?_
  refine w_st (i' := 5) (ls' := [.ref 142, .ref 126, .int x2]) (st' := [.int (nI 40), .int x2]) (E' := E) (I' := I) (J' := J) (S' := S) am_e289 rfl rfl rfl rfl ?_
  refine w_if2 am_e289 rfl rfl (fun c => ?_) (fun c => ?_)
  · replace h := h.1 (of_decide_eq_true c)
    exact w_end am_e289 rfl rfl rfl h
  · replace h := h.2 (of_decide_eq_false c)
    refine w_st (i' := 7) (ls' := [.ref 142, .ref 126, .int x2]) (st' := [.ref 142]) (E' := E) (I' := I) (J' := J) (S' := S) am_e289 rfl rfl rfl rfl ?_
    refine w_st (i' := 8) (ls' := [.ref 142, .ref 126, .int x2]) (st' := [.int x2, .ref 142]) (E' := E) (I' := I) (J' := J) (S' := S) am_e289 rfl rfl rfl rfl ?_
    refine w_st (i' := 9) (ls' := [.ref 142, .ref 126, .int x2]) (st' := [.ref 126, .int x2, .ref 142]) (E' := E) (I' := I) (J' := J) (S' := S) am_e289 rfl rfl rfl rfl ?_
    refine w_st (i' := 10) (ls' := [.ref 142, .ref 126, .int x2]) (st' := [.int x2, .ref 126, .int x2, .ref 142]) (E' := E) (I' := I) (J' := J) (S' := S) am_e289 rfl rfl rfl rfl ?_
    have hf1 := h.1
    replace h := h.2
    refine w_ia (k := 126) (n := 40) (jn := x2.toNatClampNeg) am_e289 rfl rfl (by decide) hf1 rfl ?_
    refine w_is (k := 142) (n := 40) (jn := x2.toNatClampNeg) am_e289 rfl rfl (by decide) hf1 rfl ?_
    show am_ww 289 12 [.ref 142, .ref 126, .int x2] [] E (u_I I 142 (upd (I 142) x2.toNatClampNeg ((I 126) x2.toNatClampNeg))) J S _
    refine w_st (i' := 13) (ls' := [.ref 142, .ref 126, .int (x2 + nI 1)]) (st' := []) (E' := E) (I' := (u_I I 142 (upd (I 142) x2.toNatClampNeg ((I 126) x2.toNatClampNeg)))) (J' := J) (S' := S) am_e289 rfl rfl rfl rfl ?_
    refine w_st (i' := 2) (ls' := [.ref 142, .ref 126, .int (x2 + nI 1)]) (st' := []) (E' := E) (I' := (u_I I 142 (upd (I 142) x2.toNatClampNeg ((I 126) x2.toNatClampNeg)))) (J' := J) (S' := S) am_e289 rfl rfl rfl rfl ?_
    exact h
-- 289 copyTo
theorem g289_0_143  {E : am_Ev} {I : Nat → Nat → Int32} {J : Nat → Nat → Int64} {S : Nat → Nat → Option Nat} {Q : am_Qt}  (h : am_ww 289 2 [.ref 143, .ref 127, .int (nI 0)] [] E I J S Q) : am_ww 289 0 [.ref 143, .ref 127, am_U] [] E I J S Q := by
  refine w_st (i' := 1) (ls' := [.ref 143, .ref 127, am_U]) (st' := [.int (nI 0)]) (E' := E) (I' := I) (J' := J) (S' := S) am_e289 rfl rfl rfl rfl ?_
  refine w_st (i' := 2) (ls' := [.ref 143, .ref 127, .int (nI 0)]) (st' := []) (E' := E) (I' := I) (J' := J) (S' := S) am_e289 rfl rfl rfl rfl ?_
  exact h
theorem g289_2_143 {x2 : Int32} {E : am_Ev} {I : Nat → Nat → Int32} {J : Nat → Nat → Int64} {S : Nat → Nat → Option Nat} {Q : am_Qt}  (h : ((nI 40) ≤ x2 → (Q (.inl none) E I J S)) ∧ (¬ (nI 40) ≤ x2 → (vp_in x2 40 ∧ (am_ww 289 2 [.ref 143, .ref 127, .int (x2 + nI 1)] [] E (u_I I 143 (upd (I 143) x2.toNatClampNeg ((I 127) x2.toNatClampNeg))) J S Q)))) : am_ww 289 2 [.ref 143, .ref 127, .int x2] [] E I J S Q := by
  refine w_st (i' := 3) (ls' := [.ref 143, .ref 127, .int x2]) (st' := [.int x2]) (E' := E) (I' := I) (J' := J) (S' := S) am_e289 rfl rfl rfl rfl ?_
  refine w_st (i' := 4) (ls' := [.ref 143, .ref 127, .int x2]) (st' := [.ref 143, .int x2]) (E' := E) (I' := I) (J' := J) (S' := S) am_e289 rfl rfl rfl rfl ?_
  refine w_st (i' := 5) (ls' := [.ref 143, .ref 127, .int x2]) (st' := [.int (nI 40), .int x2]) (E' := E) (I' := I) (J' := J) (S' := S) am_e289 rfl rfl rfl rfl ?_
  refine w_if2 am_e289 rfl rfl (fun c => ?_) (fun c => ?_)
  · replace h := h.1 (of_decide_eq_true c)
    exact w_end am_e289 rfl rfl rfl h
  · replace h := h.2 (of_decide_eq_false c)
    refine w_st (i' := 7) (ls' := [.ref 143, .ref 127, .int x2]) (st' := [.ref 143]) (E' := E) (I' := I) (J' := J) (S' := S) am_e289 rfl rfl rfl rfl ?_
    refine w_st (i' := 8) (ls' := [.ref 143, .ref 127, .int x2]) (st' := [.int x2, .ref 143]) (E' := E) (I' := I) (J' := J) (S' := S) am_e289 rfl rfl rfl rfl ?_
    refine w_st (i' := 9) (ls' := [.ref 143, .ref 127, .int x2]) (st' := [.ref 127, .int x2, .ref 143]) (E' := E) (I' := I) (J' := J) (S' := S) am_e289 rfl rfl rfl rfl ?_
    refine w_st (i' := 10) (ls' := [.ref 143, .ref 127, .int x2]) (st' := [.int x2, .ref 127, .int x2, .ref 143]) (E' := E) (I' := I) (J' := J) (S' := S) am_e289 rfl rfl rfl rfl ?_
    have hf1 := h.1
    replace h := h.2
    refine w_ia (k := 127) (n := 40) (jn := x2.toNatClampNeg) am_e289 rfl rfl (by decide) hf1 rfl ?_
    refine w_is (k := 143) (n := 40) (jn := x2.toNatClampNeg) am_e289 rfl rfl (by decide) hf1 rfl ?_
    show am_ww 289 12 [.ref 143, .ref 127, .int x2] [] E (u_I I 143 (upd (I 143) x2.toNatClampNeg ((I 127) x2.toNatClampNeg))) J S _
    refine w_st (i' := 13) (ls' := [.ref 143, .ref 127, .int (x2 + nI 1)]) (st' := []) (E' := E) (I' := (u_I I 143 (upd (I 143) x2.toNatClampNeg ((I 127) x2.toNatClampNeg)))) (J' := J) (S' := S) am_e289 rfl rfl rfl rfl ?_
    refine w_st (i' := 2) (ls' := [.ref 143, .ref 127, .int (x2 + nI 1)]) (st' := []) (E' := E) (I' := (u_I I 143 (upd (I 143) x2.toNatClampNeg ((I 127) x2.toNatClampNeg)))) (J' := J) (S' := S) am_e289 rfl rfl rfl rfl ?_
    exact h
-- 289 copyTo
theorem g289_0_144  {E : am_Ev} {I : Nat → Nat → Int32} {J : Nat → Nat → Int64} {S : Nat → Nat → Option Nat} {Q : am_Qt}  (h : am_ww 289 2 [.ref 144, .ref 110, .int (nI 0)] [] E I J S Q) : am_ww 289 0 [.ref 144, .ref 110, am_U] [] E I J S Q := by
  refine w_st (i' := 1) (ls' := [.ref 144, .ref 110, am_U]) (st' := [.int (nI 0)]) (E' := E) (I' := I) (J' := J) (S' := S) am_e289 rfl rfl rfl rfl ?_
  refine w_st (i' := 2) (ls' := [.ref 144, .ref 110, .int (nI 0)]) (st' := []) (E' := E) (I' := I) (J' := J) (S' := S) am_e289 rfl rfl rfl rfl ?_
  exact h
theorem g289_2_144 {x2 : Int32} {E : am_Ev} {I : Nat → Nat → Int32} {J : Nat → Nat → Int64} {S : Nat → Nat → Option Nat} {Q : am_Qt}  (h : ((nI 2) ≤ x2 → (Q (.inl none) E I J S)) ∧ (¬ (nI 2) ≤ x2 → (vp_in x2 2 ∧ (am_ww 289 2 [.ref 144, .ref 110, .int (x2 + nI 1)] [] E (u_I I 144 (upd (I 144) x2.toNatClampNeg ((I 110) x2.toNatClampNeg))) J S Q)))) : am_ww 289 2 [.ref 144, .ref 110, .int x2] [] E I J S Q := by
  refine w_st (i' := 3) (ls' := [.ref 144, .ref 110, .int x2]) (st' := [.int x2]) (E' := E) (I' := I) (J' := J) (S' := S) am_e289 rfl rfl rfl rfl ?_
  refine w_st (i' := 4) (ls' := [.ref 144, .ref 110, .int x2]) (st' := [.ref 144, .int x2]) (E' := E) (I' := I) (J' := J) (S' := S) am_e289 rfl rfl rfl rfl ?_
  refine w_st (i' := 5) (ls' := [.ref 144, .ref 110, .int x2]) (st' := [.int (nI 2), .int x2]) (E' := E) (I' := I) (J' := J) (S' := S) am_e289 rfl rfl rfl rfl ?_
  refine w_if2 am_e289 rfl rfl (fun c => ?_) (fun c => ?_)
  · replace h := h.1 (of_decide_eq_true c)
    exact w_end am_e289 rfl rfl rfl h
  · replace h := h.2 (of_decide_eq_false c)
    refine w_st (i' := 7) (ls' := [.ref 144, .ref 110, .int x2]) (st' := [.ref 144]) (E' := E) (I' := I) (J' := J) (S' := S) am_e289 rfl rfl rfl rfl ?_
    refine w_st (i' := 8) (ls' := [.ref 144, .ref 110, .int x2]) (st' := [.int x2, .ref 144]) (E' := E) (I' := I) (J' := J) (S' := S) am_e289 rfl rfl rfl rfl ?_
    refine w_st (i' := 9) (ls' := [.ref 144, .ref 110, .int x2]) (st' := [.ref 110, .int x2, .ref 144]) (E' := E) (I' := I) (J' := J) (S' := S) am_e289 rfl rfl rfl rfl ?_
    refine w_st (i' := 10) (ls' := [.ref 144, .ref 110, .int x2]) (st' := [.int x2, .ref 110, .int x2, .ref 144]) (E' := E) (I' := I) (J' := J) (S' := S) am_e289 rfl rfl rfl rfl ?_
    have hf1 := h.1
    replace h := h.2
    refine w_ia (k := 110) (n := 2) (jn := x2.toNatClampNeg) am_e289 rfl rfl (by decide) hf1 rfl ?_
    refine w_is (k := 144) (n := 2) (jn := x2.toNatClampNeg) am_e289 rfl rfl (by decide) hf1 rfl ?_
    show am_ww 289 12 [.ref 144, .ref 110, .int x2] [] E (u_I I 144 (upd (I 144) x2.toNatClampNeg ((I 110) x2.toNatClampNeg))) J S _
    refine w_st (i' := 13) (ls' := [.ref 144, .ref 110, .int (x2 + nI 1)]) (st' := []) (E' := E) (I' := (u_I I 144 (upd (I 144) x2.toNatClampNeg ((I 110) x2.toNatClampNeg)))) (J' := J) (S' := S) am_e289 rfl rfl rfl rfl ?_
    refine w_st (i' := 2) (ls' := [.ref 144, .ref 110, .int (x2 + nI 1)]) (st' := []) (E' := E) (I' := (u_I I 144 (upd (I 144) x2.toNatClampNeg ((I 110) x2.toNatClampNeg)))) (J' := J) (S' := S) am_e289 rfl rfl rfl rfl ?_
    exact h
-- 289 copyTo
theorem g289_0_117  {E : am_Ev} {I : Nat → Nat → Int32} {J : Nat → Nat → Int64} {S : Nat → Nat → Option Nat} {Q : am_Qt}  (h : am_ww 289 2 [.ref 117, .ref 134, .int (nI 0)] [] E I J S Q) : am_ww 289 0 [.ref 117, .ref 134, am_U] [] E I J S Q := by
  refine w_st (i' := 1) (ls' := [.ref 117, .ref 134, am_U]) (st' := [.int (nI 0)]) (E' := E) (I' := I) (J' := J) (S' := S) am_e289 rfl rfl rfl rfl ?_
  refine w_st (i' := 2) (ls' := [.ref 117, .ref 134, .int (nI 0)]) (st' := []) (E' := E) (I' := I) (J' := J) (S' := S) am_e289 rfl rfl rfl rfl ?_
  exact h
theorem g289_2_117 {x2 : Int32} {E : am_Ev} {I : Nat → Nat → Int32} {J : Nat → Nat → Int64} {S : Nat → Nat → Option Nat} {Q : am_Qt}  (h : ((nI 20451) ≤ x2 → (Q (.inl none) E I J S)) ∧ (¬ (nI 20451) ≤ x2 → (vp_in x2 20451 ∧ (am_ww 289 2 [.ref 117, .ref 134, .int (x2 + nI 1)] [] E (u_I I 117 (upd (I 117) x2.toNatClampNeg ((I 134) x2.toNatClampNeg))) J S Q)))) : am_ww 289 2 [.ref 117, .ref 134, .int x2] [] E I J S Q := by
  refine w_st (i' := 3) (ls' := [.ref 117, .ref 134, .int x2]) (st' := [.int x2]) (E' := E) (I' := I) (J' := J) (S' := S) am_e289 rfl rfl rfl rfl ?_
  refine w_st (i' := 4) (ls' := [.ref 117, .ref 134, .int x2]) (st' := [.ref 117, .int x2]) (E' := E) (I' := I) (J' := J) (S' := S) am_e289 rfl rfl rfl rfl ?_
  refine w_st (i' := 5) (ls' := [.ref 117, .ref 134, .int x2]) (st' := [.int (nI 20451), .int x2]) (E' := E) (I' := I) (J' := J) (S' := S) am_e289 rfl rfl rfl rfl ?_
  refine w_if2 am_e289 rfl rfl (fun c => ?_) (fun c => ?_)
  · replace h := h.1 (of_decide_eq_true c)
    exact w_end am_e289 rfl rfl rfl h
  · replace h := h.2 (of_decide_eq_false c)
    refine w_st (i' := 7) (ls' := [.ref 117, .ref 134, .int x2]) (st' := [.ref 117]) (E' := E) (I' := I) (J' := J) (S' := S) am_e289 rfl rfl rfl rfl ?_
    refine w_st (i' := 8) (ls' := [.ref 117, .ref 134, .int x2]) (st' := [.int x2, .ref 117]) (E' := E) (I' := I) (J' := J) (S' := S) am_e289 rfl rfl rfl rfl ?_
    refine w_st (i' := 9) (ls' := [.ref 117, .ref 134, .int x2]) (st' := [.ref 134, .int x2, .ref 117]) (E' := E) (I' := I) (J' := J) (S' := S) am_e289 rfl rfl rfl rfl ?_
    refine w_st (i' := 10) (ls' := [.ref 117, .ref 134, .int x2]) (st' := [.int x2, .ref 134, .int x2, .ref 117]) (E' := E) (I' := I) (J' := J) (S' := S) am_e289 rfl rfl rfl rfl ?_
    have hf1 := h.1
    replace h := h.2
    refine w_ia (k := 134) (n := 20451) (jn := x2.toNatClampNeg) am_e289 rfl rfl (by decide) hf1 rfl ?_
    refine w_is (k := 117) (n := 20451) (jn := x2.toNatClampNeg) am_e289 rfl rfl (by decide) hf1 rfl ?_
    show am_ww 289 12 [.ref 117, .ref 134, .int x2] [] E (u_I I 117 (upd (I 117) x2.toNatClampNeg ((I 134) x2.toNatClampNeg))) J S _
    refine w_st (i' := 13) (ls' := [.ref 117, .ref 134, .int (x2 + nI 1)]) (st' := []) (E' := E) (I' := (u_I I 117 (upd (I 117) x2.toNatClampNeg ((I 134) x2.toNatClampNeg)))) (J' := J) (S' := S) am_e289 rfl rfl rfl rfl ?_
    refine w_st (i' := 2) (ls' := [.ref 117, .ref 134, .int (x2 + nI 1)]) (st' := []) (E' := E) (I' := (u_I I 117 (upd (I 117) x2.toNatClampNeg ((I 134) x2.toNatClampNeg)))) (J' := J) (S' := S) am_e289 rfl rfl rfl rfl ?_
    exact h
-- 289 copyTo
theorem g289_0_118  {E : am_Ev} {I : Nat → Nat → Int32} {J : Nat → Nat → Int64} {S : Nat → Nat → Option Nat} {Q : am_Qt}  (h : am_ww 289 2 [.ref 118, .ref 135, .int (nI 0)] [] E I J S Q) : am_ww 289 0 [.ref 118, .ref 135, am_U] [] E I J S Q := by
  refine w_st (i' := 1) (ls' := [.ref 118, .ref 135, am_U]) (st' := [.int (nI 0)]) (E' := E) (I' := I) (J' := J) (S' := S) am_e289 rfl rfl rfl rfl ?_
  refine w_st (i' := 2) (ls' := [.ref 118, .ref 135, .int (nI 0)]) (st' := []) (E' := E) (I' := I) (J' := J) (S' := S) am_e289 rfl rfl rfl rfl ?_
  exact h
theorem g289_2_118 {x2 : Int32} {E : am_Ev} {I : Nat → Nat → Int32} {J : Nat → Nat → Int64} {S : Nat → Nat → Option Nat} {Q : am_Qt}  (h : ((nI 401) ≤ x2 → (Q (.inl none) E I J S)) ∧ (¬ (nI 401) ≤ x2 → (vp_in x2 401 ∧ (am_ww 289 2 [.ref 118, .ref 135, .int (x2 + nI 1)] [] E (u_I I 118 (upd (I 118) x2.toNatClampNeg ((I 135) x2.toNatClampNeg))) J S Q)))) : am_ww 289 2 [.ref 118, .ref 135, .int x2] [] E I J S Q := by
  refine w_st (i' := 3) (ls' := [.ref 118, .ref 135, .int x2]) (st' := [.int x2]) (E' := E) (I' := I) (J' := J) (S' := S) am_e289 rfl rfl rfl rfl ?_
  refine w_st (i' := 4) (ls' := [.ref 118, .ref 135, .int x2]) (st' := [.ref 118, .int x2]) (E' := E) (I' := I) (J' := J) (S' := S) am_e289 rfl rfl rfl rfl ?_
  refine w_st (i' := 5) (ls' := [.ref 118, .ref 135, .int x2]) (st' := [.int (nI 401), .int x2]) (E' := E) (I' := I) (J' := J) (S' := S) am_e289 rfl rfl rfl rfl ?_
  refine w_if2 am_e289 rfl rfl (fun c => ?_) (fun c => ?_)
  · replace h := h.1 (of_decide_eq_true c)
    exact w_end am_e289 rfl rfl rfl h
  · replace h := h.2 (of_decide_eq_false c)
    refine w_st (i' := 7) (ls' := [.ref 118, .ref 135, .int x2]) (st' := [.ref 118]) (E' := E) (I' := I) (J' := J) (S' := S) am_e289 rfl rfl rfl rfl ?_
    refine w_st (i' := 8) (ls' := [.ref 118, .ref 135, .int x2]) (st' := [.int x2, .ref 118]) (E' := E) (I' := I) (J' := J) (S' := S) am_e289 rfl rfl rfl rfl ?_
    refine w_st (i' := 9) (ls' := [.ref 118, .ref 135, .int x2]) (st' := [.ref 135, .int x2, .ref 118]) (E' := E) (I' := I) (J' := J) (S' := S) am_e289 rfl rfl rfl rfl ?_
    refine w_st (i' := 10) (ls' := [.ref 118, .ref 135, .int x2]) (st' := [.int x2, .ref 135, .int x2, .ref 118]) (E' := E) (I' := I) (J' := J) (S' := S) am_e289 rfl rfl rfl rfl ?_
    have hf1 := h.1
    replace h := h.2
    refine w_ia (k := 135) (n := 401) (jn := x2.toNatClampNeg) am_e289 rfl rfl (by decide) hf1 rfl ?_
    refine w_is (k := 118) (n := 401) (jn := x2.toNatClampNeg) am_e289 rfl rfl (by decide) hf1 rfl ?_
    show am_ww 289 12 [.ref 118, .ref 135, .int x2] [] E (u_I I 118 (upd (I 118) x2.toNatClampNeg ((I 135) x2.toNatClampNeg))) J S _
    refine w_st (i' := 13) (ls' := [.ref 118, .ref 135, .int (x2 + nI 1)]) (st' := []) (E' := E) (I' := (u_I I 118 (upd (I 118) x2.toNatClampNeg ((I 135) x2.toNatClampNeg)))) (J' := J) (S' := S) am_e289 rfl rfl rfl rfl ?_
    refine w_st (i' := 2) (ls' := [.ref 118, .ref 135, .int (x2 + nI 1)]) (st' := []) (E' := E) (I' := (u_I I 118 (upd (I 118) x2.toNatClampNeg ((I 135) x2.toNatClampNeg)))) (J' := J) (S' := S) am_e289 rfl rfl rfl rfl ?_
    exact h
-- 289 copyTo
theorem g289_0_119  {E : am_Ev} {I : Nat → Nat → Int32} {J : Nat → Nat → Int64} {S : Nat → Nat → Option Nat} {Q : am_Qt}  (h : am_ww 289 2 [.ref 119, .ref 136, .int (nI 0)] [] E I J S Q) : am_ww 289 0 [.ref 119, .ref 136, am_U] [] E I J S Q := by
  refine w_st (i' := 1) (ls' := [.ref 119, .ref 136, am_U]) (st' := [.int (nI 0)]) (E' := E) (I' := I) (J' := J) (S' := S) am_e289 rfl rfl rfl rfl ?_
  refine w_st (i' := 2) (ls' := [.ref 119, .ref 136, .int (nI 0)]) (st' := []) (E' := E) (I' := I) (J' := J) (S' := S) am_e289 rfl rfl rfl rfl ?_
  exact h
theorem g289_2_119 {x2 : Int32} {E : am_Ev} {I : Nat → Nat → Int32} {J : Nat → Nat → Int64} {S : Nat → Nat → Option Nat} {Q : am_Qt}  (h : ((nI 401) ≤ x2 → (Q (.inl none) E I J S)) ∧ (¬ (nI 401) ≤ x2 → (vp_in x2 401 ∧ (am_ww 289 2 [.ref 119, .ref 136, .int (x2 + nI 1)] [] E (u_I I 119 (upd (I 119) x2.toNatClampNeg ((I 136) x2.toNatClampNeg))) J S Q)))) : am_ww 289 2 [.ref 119, .ref 136, .int x2] [] E I J S Q := by
  refine w_st (i' := 3) (ls' := [.ref 119, .ref 136, .int x2]) (st' := [.int x2]) (E' := E) (I' := I) (J' := J) (S' := S) am_e289 rfl rfl rfl rfl ?_
  refine w_st (i' := 4) (ls' := [.ref 119, .ref 136, .int x2]) (st' := [.ref 119, .int x2]) (E' := E) (I' := I) (J' := J) (S' := S) am_e289 rfl rfl rfl rfl ?_
  refine w_st (i' := 5) (ls' := [.ref 119, .ref 136, .int x2]) (st' := [.int (nI 401), .int x2]) (E' := E) (I' := I) (J' := J) (S' := S) am_e289 rfl rfl rfl rfl ?_
  refine w_if2 am_e289 rfl rfl (fun c => ?_) (fun c => ?_)
  · replace h := h.1 (of_decide_eq_true c)
    exact w_end am_e289 rfl rfl rfl h
  · replace h := h.2 (of_decide_eq_false c)
    refine w_st (i' := 7) (ls' := [.ref 119, .ref 136, .int x2]) (st' := [.ref 119]) (E' := E) (I' := I) (J' := J) (S' := S) am_e289 rfl rfl rfl rfl ?_
    refine w_st (i' := 8) (ls' := [.ref 119, .ref 136, .int x2]) (st' := [.int x2, .ref 119]) (E' := E) (I' := I) (J' := J) (S' := S) am_e289 rfl rfl rfl rfl ?_
    refine w_st (i' := 9) (ls' := [.ref 119, .ref 136, .int x2]) (st' := [.ref 136, .int x2, .ref 119]) (E' := E) (I' := I) (J' := J) (S' := S) am_e289 rfl rfl rfl rfl ?_
    refine w_st (i' := 10) (ls' := [.ref 119, .ref 136, .int x2]) (st' := [.int x2, .ref 136, .int x2, .ref 119]) (E' := E) (I' := I) (J' := J) (S' := S) am_e289 rfl rfl rfl rfl ?_
    have hf1 := h.1
    replace h := h.2
    refine w_ia (k := 136) (n := 401) (jn := x2.toNatClampNeg) am_e289 rfl rfl (by decide) hf1 rfl ?_
    refine w_is (k := 119) (n := 401) (jn := x2.toNatClampNeg) am_e289 rfl rfl (by decide) hf1 rfl ?_
    show am_ww 289 12 [.ref 119, .ref 136, .int x2] [] E (u_I I 119 (upd (I 119) x2.toNatClampNeg ((I 136) x2.toNatClampNeg))) J S _
    refine w_st (i' := 13) (ls' := [.ref 119, .ref 136, .int (x2 + nI 1)]) (st' := []) (E' := E) (I' := (u_I I 119 (upd (I 119) x2.toNatClampNeg ((I 136) x2.toNatClampNeg)))) (J' := J) (S' := S) am_e289 rfl rfl rfl rfl ?_
    refine w_st (i' := 2) (ls' := [.ref 119, .ref 136, .int (x2 + nI 1)]) (st' := []) (E' := E) (I' := (u_I I 119 (upd (I 119) x2.toNatClampNeg ((I 136) x2.toNatClampNeg)))) (J' := J) (S' := S) am_e289 rfl rfl rfl rfl ?_
    exact h
-- 289 copyTo
theorem g289_0_120  {E : am_Ev} {I : Nat → Nat → Int32} {J : Nat → Nat → Int64} {S : Nat → Nat → Option Nat} {Q : am_Qt}  (h : am_ww 289 2 [.ref 120, .ref 137, .int (nI 0)] [] E I J S Q) : am_ww 289 0 [.ref 120, .ref 137, am_U] [] E I J S Q := by
  refine w_st (i' := 1) (ls' := [.ref 120, .ref 137, am_U]) (st' := [.int (nI 0)]) (E' := E) (I' := I) (J' := J) (S' := S) am_e289 rfl rfl rfl rfl ?_
  refine w_st (i' := 2) (ls' := [.ref 120, .ref 137, .int (nI 0)]) (st' := []) (E' := E) (I' := I) (J' := J) (S' := S) am_e289 rfl rfl rfl rfl ?_
  exact h
theorem g289_2_120 {x2 : Int32} {E : am_Ev} {I : Nat → Nat → Int32} {J : Nat → Nat → Int64} {S : Nat → Nat → Option Nat} {Q : am_Qt}  (h : ((nI 400) ≤ x2 → (Q (.inl none) E I J S)) ∧ (¬ (nI 400) ≤ x2 → (vp_in x2 400 ∧ (am_ww 289 2 [.ref 120, .ref 137, .int (x2 + nI 1)] [] E (u_I I 120 (upd (I 120) x2.toNatClampNeg ((I 137) x2.toNatClampNeg))) J S Q)))) : am_ww 289 2 [.ref 120, .ref 137, .int x2] [] E I J S Q := by
  refine w_st (i' := 3) (ls' := [.ref 120, .ref 137, .int x2]) (st' := [.int x2]) (E' := E) (I' := I) (J' := J) (S' := S) am_e289 rfl rfl rfl rfl ?_
  refine w_st (i' := 4) (ls' := [.ref 120, .ref 137, .int x2]) (st' := [.ref 120, .int x2]) (E' := E) (I' := I) (J' := J) (S' := S) am_e289 rfl rfl rfl rfl ?_
  refine w_st (i' := 5) (ls' := [.ref 120, .ref 137, .int x2]) (st' := [.int (nI 400), .int x2]) (E' := E) (I' := I) (J' := J) (S' := S) am_e289 rfl rfl rfl rfl ?_
  refine w_if2 am_e289 rfl rfl (fun c => ?_) (fun c => ?_)
  · replace h := h.1 (of_decide_eq_true c)
    exact w_end am_e289 rfl rfl rfl h
  · replace h := h.2 (of_decide_eq_false c)
    refine w_st (i' := 7) (ls' := [.ref 120, .ref 137, .int x2]) (st' := [.ref 120]) (E' := E) (I' := I) (J' := J) (S' := S) am_e289 rfl rfl rfl rfl ?_
    refine w_st (i' := 8) (ls' := [.ref 120, .ref 137, .int x2]) (st' := [.int x2, .ref 120]) (E' := E) (I' := I) (J' := J) (S' := S) am_e289 rfl rfl rfl rfl ?_
    refine w_st (i' := 9) (ls' := [.ref 120, .ref 137, .int x2]) (st' := [.ref 137, .int x2, .ref 120]) (E' := E) (I' := I) (J' := J) (S' := S) am_e289 rfl rfl rfl rfl ?_
    refine w_st (i' := 10) (ls' := [.ref 120, .ref 137, .int x2]) (st' := [.int x2, .ref 137, .int x2, .ref 120]) (E' := E) (I' := I) (J' := J) (S' := S) am_e289 rfl rfl rfl rfl ?_
    have hf1 := h.1
    replace h := h.2
    refine w_ia (k := 137) (n := 400) (jn := x2.toNatClampNeg) am_e289 rfl rfl (by decide) hf1 rfl ?_
    refine w_is (k := 120) (n := 400) (jn := x2.toNatClampNeg) am_e289 rfl rfl (by decide) hf1 rfl ?_
    show am_ww 289 12 [.ref 120, .ref 137, .int x2] [] E (u_I I 120 (upd (I 120) x2.toNatClampNeg ((I 137) x2.toNatClampNeg))) J S _
    refine w_st (i' := 13) (ls' := [.ref 120, .ref 137, .int (x2 + nI 1)]) (st' := []) (E' := E) (I' := (u_I I 120 (upd (I 120) x2.toNatClampNeg ((I 137) x2.toNatClampNeg)))) (J' := J) (S' := S) am_e289 rfl rfl rfl rfl ?_
    refine w_st (i' := 2) (ls' := [.ref 120, .ref 137, .int (x2 + nI 1)]) (st' := []) (E' := E) (I' := (u_I I 120 (upd (I 120) x2.toNatClampNeg ((I 137) x2.toNatClampNeg)))) (J' := J) (S' := S) am_e289 rfl rfl rfl rfl ?_
    exact h
-- 289 copyTo
theorem g289_0_121  {E : am_Ev} {I : Nat → Nat → Int32} {J : Nat → Nat → Int64} {S : Nat → Nat → Option Nat} {Q : am_Qt}  (h : am_ww 289 2 [.ref 121, .ref 138, .int (nI 0)] [] E I J S Q) : am_ww 289 0 [.ref 121, .ref 138, am_U] [] E I J S Q := by
  refine w_st (i' := 1) (ls' := [.ref 121, .ref 138, am_U]) (st' := [.int (nI 0)]) (E' := E) (I' := I) (J' := J) (S' := S) am_e289 rfl rfl rfl rfl ?_
  refine w_st (i' := 2) (ls' := [.ref 121, .ref 138, .int (nI 0)]) (st' := []) (E' := E) (I' := I) (J' := J) (S' := S) am_e289 rfl rfl rfl rfl ?_
  exact h
theorem g289_2_121 {x2 : Int32} {E : am_Ev} {I : Nat → Nat → Int32} {J : Nat → Nat → Int64} {S : Nat → Nat → Option Nat} {Q : am_Qt}  (h : ((nI 400) ≤ x2 → (Q (.inl none) E I J S)) ∧ (¬ (nI 400) ≤ x2 → (vp_in x2 400 ∧ (am_ww 289 2 [.ref 121, .ref 138, .int (x2 + nI 1)] [] E (u_I I 121 (upd (I 121) x2.toNatClampNeg ((I 138) x2.toNatClampNeg))) J S Q)))) : am_ww 289 2 [.ref 121, .ref 138, .int x2] [] E I J S Q := by
  refine w_st (i' := 3) (ls' := [.ref 121, .ref 138, .int x2]) (st' := [.int x2]) (E' := E) (I' := I) (J' := J) (S' := S) am_e289 rfl rfl rfl rfl ?_
  refine w_st (i' := 4) (ls' := [.ref 121, .ref 138, .int x2]) (st' := [.ref 121, .int x2]) (E' := E) (I' := I) (J' := J) (S' := S) am_e289 rfl rfl rfl rfl ?_
  refine w_st (i' := 5) (ls' := [.ref 121, .ref 138, .int x2]) (st' := [.int (nI 400), .int x2]) (E' := E) (I' := I) (J' := J) (S' := S) am_e289 rfl rfl rfl rfl ?_
  refine w_if2 am_e289 rfl rfl (fun c => ?_) (fun c => ?_)
  · replace h := h.1 (of_decide_eq_true c)
    exact w_end am_e289 rfl rfl rfl h
  · replace h := h.2 (of_decide_eq_false c)
    refine w_st (i' := 7) (ls' := [.ref 121, .ref 138, .int x2]) (st' := [.ref 121]) (E' := E) (I' := I) (J' := J) (S' := S) am_e289 rfl rfl rfl rfl ?_
    refine w_st (i' := 8) (ls' := [.ref 121, .ref 138, .int x2]) (st' := [.int x2, .ref 121]) (E' := E) (I' := I) (J' := J) (S' := S) am_e289 rfl rfl rfl rfl ?_
    refine w_st (i' := 9) (ls' := [.ref 121, .ref 138, .int x2]) (st' := [.ref 138, .int x2, .ref 121]) (E' := E) (I' := I) (J' := J) (S' := S) am_e289 rfl rfl rfl rfl ?_
    refine w_st (i' := 10) (ls' := [.ref 121, .ref 138, .int x2]) (st' := [.int x2, .ref 138, .int x2, .ref 121]) (E' := E) (I' := I) (J' := J) (S' := S) am_e289 rfl rfl rfl rfl ?_
    have hf1 := h.1
    replace h := h.2
    refine w_ia (k := 138) (n := 400) (jn := x2.toNatClampNeg) am_e289 rfl rfl (by decide) hf1 rfl ?_
    refine w_is (k := 121) (n := 400) (jn := x2.toNatClampNeg) am_e289 rfl rfl (by decide) hf1 rfl ?_
    show am_ww 289 12 [.ref 121, .ref 138, .int x2] [] E (u_I I 121 (upd (I 121) x2.toNatClampNeg ((I 138) x2.toNatClampNeg))) J S _
    refine w_st (i' := 13) (ls' := [.ref 121, .ref 138, .int (x2 + nI 1)]) (st' := []) (E' := E) (I' := (u_I I 121 (upd (I 121) x2.toNatClampNeg ((I 138) x2.toNatClampNeg)))) (J' := J) (S' := S) am_e289 rfl rfl rfl rfl ?_
    refine w_st (i' := 2) (ls' := [.ref 121, .ref 138, .int (x2 + nI 1)]) (st' := []) (E' := E) (I' := (u_I I 121 (upd (I 121) x2.toNatClampNeg ((I 138) x2.toNatClampNeg)))) (J' := J) (S' := S) am_e289 rfl rfl rfl rfl ?_
    exact h
-- 289 copyTo
theorem g289_0_122  {E : am_Ev} {I : Nat → Nat → Int32} {J : Nat → Nat → Int64} {S : Nat → Nat → Option Nat} {Q : am_Qt}  (h : am_ww 289 2 [.ref 122, .ref 139, .int (nI 0)] [] E I J S Q) : am_ww 289 0 [.ref 122, .ref 139, am_U] [] E I J S Q := by
  refine w_st (i' := 1) (ls' := [.ref 122, .ref 139, am_U]) (st' := [.int (nI 0)]) (E' := E) (I' := I) (J' := J) (S' := S) am_e289 rfl rfl rfl rfl ?_
  refine w_st (i' := 2) (ls' := [.ref 122, .ref 139, .int (nI 0)]) (st' := []) (E' := E) (I' := I) (J' := J) (S' := S) am_e289 rfl rfl rfl rfl ?_
  exact h
theorem g289_2_122 {x2 : Int32} {E : am_Ev} {I : Nat → Nat → Int32} {J : Nat → Nat → Int64} {S : Nat → Nat → Option Nat} {Q : am_Qt}  (h : ((nI 400) ≤ x2 → (Q (.inl none) E I J S)) ∧ (¬ (nI 400) ≤ x2 → (vp_in x2 400 ∧ (am_ww 289 2 [.ref 122, .ref 139, .int (x2 + nI 1)] [] E (u_I I 122 (upd (I 122) x2.toNatClampNeg ((I 139) x2.toNatClampNeg))) J S Q)))) : am_ww 289 2 [.ref 122, .ref 139, .int x2] [] E I J S Q := by
  refine w_st (i' := 3) (ls' := [.ref 122, .ref 139, .int x2]) (st' := [.int x2]) (E' := E) (I' := I) (J' := J) (S' := S) am_e289 rfl rfl rfl rfl ?_
  refine w_st (i' := 4) (ls' := [.ref 122, .ref 139, .int x2]) (st' := [.ref 122, .int x2]) (E' := E) (I' := I) (J' := J) (S' := S) am_e289 rfl rfl rfl rfl ?_
  refine w_st (i' := 5) (ls' := [.ref 122, .ref 139, .int x2]) (st' := [.int (nI 400), .int x2]) (E' := E) (I' := I) (J' := J) (S' := S) am_e289 rfl rfl rfl rfl ?_
  refine w_if2 am_e289 rfl rfl (fun c => ?_) (fun c => ?_)
  · replace h := h.1 (of_decide_eq_true c)
    exact w_end am_e289 rfl rfl rfl h
  · replace h := h.2 (of_decide_eq_false c)
    refine w_st (i' := 7) (ls' := [.ref 122, .ref 139, .int x2]) (st' := [.ref 122]) (E' := E) (I' := I) (J' := J) (S' := S) am_e289 rfl rfl rfl rfl ?_
    refine w_st (i' := 8) (ls' := [.ref 122, .ref 139, .int x2]) (st' := [.int x2, .ref 122]) (E' := E) (I' := I) (J' := J) (S' := S) am_e289 rfl rfl rfl rfl ?_
    refine w_st (i' := 9) (ls' := [.ref 122, .ref 139, .int x2]) (st' := [.ref 139, .int x2, .ref 122]) (E' := E) (I' := I) (J' := J) (S' := S) am_e289 rfl rfl rfl rfl ?_
    refine w_st (i' := 10) (ls' := [.ref 122, .ref 139, .int x2]) (st' := [.int x2, .ref 139, .int x2, .ref 122]) (E' := E) (I' := I) (J' := J) (S' := S) am_e289 rfl rfl rfl rfl ?_
    have hf1 := h.1
    replace h := h.2
    refine w_ia (k := 139) (n := 400) (jn := x2.toNatClampNeg) am_e289 rfl rfl (by decide) hf1 rfl ?_
    refine w_is (k := 122) (n := 400) (jn := x2.toNatClampNeg) am_e289 rfl rfl (by decide) hf1 rfl ?_
    show am_ww 289 12 [.ref 122, .ref 139, .int x2] [] E (u_I I 122 (upd (I 122) x2.toNatClampNeg ((I 139) x2.toNatClampNeg))) J S _
    refine w_st (i' := 13) (ls' := [.ref 122, .ref 139, .int (x2 + nI 1)]) (st' := []) (E' := E) (I' := (u_I I 122 (upd (I 122) x2.toNatClampNeg ((I 139) x2.toNatClampNeg)))) (J' := J) (S' := S) am_e289 rfl rfl rfl rfl ?_
    refine w_st (i' := 2) (ls' := [.ref 122, .ref 139, .int (x2 + nI 1)]) (st' := []) (E' := E) (I' := (u_I I 122 (upd (I 122) x2.toNatClampNeg ((I 139) x2.toNatClampNeg)))) (J' := J) (S' := S) am_e289 rfl rfl rfl rfl ?_
    exact h
-- 289 copyTo
theorem g289_0_123  {E : am_Ev} {I : Nat → Nat → Int32} {J : Nat → Nat → Int64} {S : Nat → Nat → Option Nat} {Q : am_Qt}  (h : am_ww 289 2 [.ref 123, .ref 140, .int (nI 0)] [] E I J S Q) : am_ww 289 0 [.ref 123, .ref 140, am_U] [] E I J S Q := by
  refine w_st (i' := 1) (ls' := [.ref 123, .ref 140, am_U]) (st' := [.int (nI 0)]) (E' := E) (I' := I) (J' := J) (S' := S) am_e289 rfl rfl rfl rfl ?_
  refine w_st (i' := 2) (ls' := [.ref 123, .ref 140, .int (nI 0)]) (st' := []) (E' := E) (I' := I) (J' := J) (S' := S) am_e289 rfl rfl rfl rfl ?_
  exact h
theorem g289_2_123 {x2 : Int32} {E : am_Ev} {I : Nat → Nat → Int32} {J : Nat → Nat → Int64} {S : Nat → Nat → Option Nat} {Q : am_Qt}  (h : ((nI 90) ≤ x2 → (Q (.inl none) E I J S)) ∧ (¬ (nI 90) ≤ x2 → (vp_in x2 90 ∧ (am_ww 289 2 [.ref 123, .ref 140, .int (x2 + nI 1)] [] E (u_I I 123 (upd (I 123) x2.toNatClampNeg ((I 140) x2.toNatClampNeg))) J S Q)))) : am_ww 289 2 [.ref 123, .ref 140, .int x2] [] E I J S Q := by
  refine w_st (i' := 3) (ls' := [.ref 123, .ref 140, .int x2]) (st' := [.int x2]) (E' := E) (I' := I) (J' := J) (S' := S) am_e289 rfl rfl rfl rfl ?_
  refine w_st (i' := 4) (ls' := [.ref 123, .ref 140, .int x2]) (st' := [.ref 123, .int x2]) (E' := E) (I' := I) (J' := J) (S' := S) am_e289 rfl rfl rfl rfl ?_
  refine w_st (i' := 5) (ls' := [.ref 123, .ref 140, .int x2]) (st' := [.int (nI 90), .int x2]) (E' := E) (I' := I) (J' := J) (S' := S) am_e289 rfl rfl rfl rfl ?_
  refine w_if2 am_e289 rfl rfl (fun c => ?_) (fun c => ?_)
  · replace h := h.1 (of_decide_eq_true c)
    exact w_end am_e289 rfl rfl rfl h
  · replace h := h.2 (of_decide_eq_false c)
    refine w_st (i' := 7) (ls' := [.ref 123, .ref 140, .int x2]) (st' := [.ref 123]) (E' := E) (I' := I) (J' := J) (S' := S) am_e289 rfl rfl rfl rfl ?_
    refine w_st (i' := 8) (ls' := [.ref 123, .ref 140, .int x2]) (st' := [.int x2, .ref 123]) (E' := E) (I' := I) (J' := J) (S' := S) am_e289 rfl rfl rfl rfl ?_
    refine w_st (i' := 9) (ls' := [.ref 123, .ref 140, .int x2]) (st' := [.ref 140, .int x2, .ref 123]) (E' := E) (I' := I) (J' := J) (S' := S) am_e289 rfl rfl rfl rfl ?_
    refine w_st (i' := 10) (ls' := [.ref 123, .ref 140, .int x2]) (st' := [.int x2, .ref 140, .int x2, .ref 123]) (E' := E) (I' := I) (J' := J) (S' := S) am_e289 rfl rfl rfl rfl ?_
    have hf1 := h.1
    replace h := h.2
    refine w_ia (k := 140) (n := 90) (jn := x2.toNatClampNeg) am_e289 rfl rfl (by decide) hf1 rfl ?_
    refine w_is (k := 123) (n := 90) (jn := x2.toNatClampNeg) am_e289 rfl rfl (by decide) hf1 rfl ?_
    show am_ww 289 12 [.ref 123, .ref 140, .int x2] [] E (u_I I 123 (upd (I 123) x2.toNatClampNeg ((I 140) x2.toNatClampNeg))) J S _
    refine w_st (i' := 13) (ls' := [.ref 123, .ref 140, .int (x2 + nI 1)]) (st' := []) (E' := E) (I' := (u_I I 123 (upd (I 123) x2.toNatClampNeg ((I 140) x2.toNatClampNeg)))) (J' := J) (S' := S) am_e289 rfl rfl rfl rfl ?_
    refine w_st (i' := 2) (ls' := [.ref 123, .ref 140, .int (x2 + nI 1)]) (st' := []) (E' := E) (I' := (u_I I 123 (upd (I 123) x2.toNatClampNeg ((I 140) x2.toNatClampNeg)))) (J' := J) (S' := S) am_e289 rfl rfl rfl rfl ?_
    exact h
-- 289 copyTo
theorem g289_0_124  {E : am_Ev} {I : Nat → Nat → Int32} {J : Nat → Nat → Int64} {S : Nat → Nat → Option Nat} {Q : am_Qt}  (h : am_ww 289 2 [.ref 124, .ref 141, .int (nI 0)] [] E I J S Q) : am_ww 289 0 [.ref 124, .ref 141, am_U] [] E I J S Q := by
  refine w_st (i' := 1) (ls' := [.ref 124, .ref 141, am_U]) (st' := [.int (nI 0)]) (E' := E) (I' := I) (J' := J) (S' := S) am_e289 rfl rfl rfl rfl ?_
  refine w_st (i' := 2) (ls' := [.ref 124, .ref 141, .int (nI 0)]) (st' := []) (E' := E) (I' := I) (J' := J) (S' := S) am_e289 rfl rfl rfl rfl ?_
  exact h
theorem g289_2_124 {x2 : Int32} {E : am_Ev} {I : Nat → Nat → Int32} {J : Nat → Nat → Int64} {S : Nat → Nat → Option Nat} {Q : am_Qt}  (h : ((nI 3) ≤ x2 → (Q (.inl none) E I J S)) ∧ (¬ (nI 3) ≤ x2 → (vp_in x2 3 ∧ (am_ww 289 2 [.ref 124, .ref 141, .int (x2 + nI 1)] [] E (u_I I 124 (upd (I 124) x2.toNatClampNeg ((I 141) x2.toNatClampNeg))) J S Q)))) : am_ww 289 2 [.ref 124, .ref 141, .int x2] [] E I J S Q := by
  refine w_st (i' := 3) (ls' := [.ref 124, .ref 141, .int x2]) (st' := [.int x2]) (E' := E) (I' := I) (J' := J) (S' := S) am_e289 rfl rfl rfl rfl ?_
  refine w_st (i' := 4) (ls' := [.ref 124, .ref 141, .int x2]) (st' := [.ref 124, .int x2]) (E' := E) (I' := I) (J' := J) (S' := S) am_e289 rfl rfl rfl rfl ?_
  refine w_st (i' := 5) (ls' := [.ref 124, .ref 141, .int x2]) (st' := [.int (nI 3), .int x2]) (E' := E) (I' := I) (J' := J) (S' := S) am_e289 rfl rfl rfl rfl ?_
  refine w_if2 am_e289 rfl rfl (fun c => ?_) (fun c => ?_)
  · replace h := h.1 (of_decide_eq_true c)
    exact w_end am_e289 rfl rfl rfl h
  · replace h := h.2 (of_decide_eq_false c)
    refine w_st (i' := 7) (ls' := [.ref 124, .ref 141, .int x2]) (st' := [.ref 124]) (E' := E) (I' := I) (J' := J) (S' := S) am_e289 rfl rfl rfl rfl ?_
    refine w_st (i' := 8) (ls' := [.ref 124, .ref 141, .int x2]) (st' := [.int x2, .ref 124]) (E' := E) (I' := I) (J' := J) (S' := S) am_e289 rfl rfl rfl rfl ?_
    refine w_st (i' := 9) (ls' := [.ref 124, .ref 141, .int x2]) (st' := [.ref 141, .int x2, .ref 124]) (E' := E) (I' := I) (J' := J) (S' := S) am_e289 rfl rfl rfl rfl ?_
    refine w_st (i' := 10) (ls' := [.ref 124, .ref 141, .int x2]) (st' := [.int x2, .ref 141, .int x2, .ref 124]) (E' := E) (I' := I) (J' := J) (S' := S) am_e289 rfl rfl rfl rfl ?_
    have hf1 := h.1
    replace h := h.2
    refine w_ia (k := 141) (n := 3) (jn := x2.toNatClampNeg) am_e289 rfl rfl (by decide) hf1 rfl ?_
    refine w_is (k := 124) (n := 3) (jn := x2.toNatClampNeg) am_e289 rfl rfl (by decide) hf1 rfl ?_
    show am_ww 289 12 [.ref 124, .ref 141, .int x2] [] E (u_I I 124 (upd (I 124) x2.toNatClampNeg ((I 141) x2.toNatClampNeg))) J S _
    refine w_st (i' := 13) (ls' := [.ref 124, .ref 141, .int (x2 + nI 1)]) (st' := []) (E' := E) (I' := (u_I I 124 (upd (I 124) x2.toNatClampNeg ((I 141) x2.toNatClampNeg)))) (J' := J) (S' := S) am_e289 rfl rfl rfl rfl ?_
    refine w_st (i' := 2) (ls' := [.ref 124, .ref 141, .int (x2 + nI 1)]) (st' := []) (E' := E) (I' := (u_I I 124 (upd (I 124) x2.toNatClampNeg ((I 141) x2.toNatClampNeg)))) (J' := J) (S' := S) am_e289 rfl rfl rfl rfl ?_
    exact h
-- 289 copyTo
theorem g289_0_126  {E : am_Ev} {I : Nat → Nat → Int32} {J : Nat → Nat → Int64} {S : Nat → Nat → Option Nat} {Q : am_Qt}  (h : am_ww 289 2 [.ref 126, .ref 142, .int (nI 0)] [] E I J S Q) : am_ww 289 0 [.ref 126, .ref 142, am_U] [] E I J S Q := by
  refine w_st (i' := 1) (ls' := [.ref 126, .ref 142, am_U]) (st' := [.int (nI 0)]) (E' := E) (I' := I) (J' := J) (S' := S) am_e289 rfl rfl rfl rfl ?_
  refine w_st (i' := 2) (ls' := [.ref 126, .ref 142, .int (nI 0)]) (st' := []) (E' := E) (I' := I) (J' := J) (S' := S) am_e289 rfl rfl rfl rfl ?_
  exact h
theorem g289_2_126 {x2 : Int32} {E : am_Ev} {I : Nat → Nat → Int32} {J : Nat → Nat → Int64} {S : Nat → Nat → Option Nat} {Q : am_Qt}  (h : ((nI 40) ≤ x2 → (Q (.inl none) E I J S)) ∧ (¬ (nI 40) ≤ x2 → (vp_in x2 40 ∧ (am_ww 289 2 [.ref 126, .ref 142, .int (x2 + nI 1)] [] E (u_I I 126 (upd (I 126) x2.toNatClampNeg ((I 142) x2.toNatClampNeg))) J S Q)))) : am_ww 289 2 [.ref 126, .ref 142, .int x2] [] E I J S Q := by
  refine w_st (i' := 3) (ls' := [.ref 126, .ref 142, .int x2]) (st' := [.int x2]) (E' := E) (I' := I) (J' := J) (S' := S) am_e289 rfl rfl rfl rfl ?_
  refine w_st (i' := 4) (ls' := [.ref 126, .ref 142, .int x2]) (st' := [.ref 126, .int x2]) (E' := E) (I' := I) (J' := J) (S' := S) am_e289 rfl rfl rfl rfl ?_
  refine w_st (i' := 5) (ls' := [.ref 126, .ref 142, .int x2]) (st' := [.int (nI 40), .int x2]) (E' := E) (I' := I) (J' := J) (S' := S) am_e289 rfl rfl rfl rfl ?_
  refine w_if2 am_e289 rfl rfl (fun c => ?_) (fun c => ?_)
  · replace h := h.1 (of_decide_eq_true c)
    exact w_end am_e289 rfl rfl rfl h
  · replace h := h.2 (of_decide_eq_false c)
    refine w_st (i' := 7) (ls' := [.ref 126, .ref 142, .int x2]) (st' := [.ref 126]) (E' := E) (I' := I) (J' := J) (S' := S) am_e289 rfl rfl rfl rfl ?_
    refine w_st (i' := 8) (ls' := [.ref 126, .ref 142, .int x2]) (st' := [.int x2, .ref 126]) (E' := E) (I' := I) (J' := J) (S' := S) am_e289 rfl rfl rfl rfl ?_
    refine w_st (i' := 9) (ls' := [.ref 126, .ref 142, .int x2]) (st' := [.ref 142, .int x2, .ref 126]) (E' := E) (I' := I) (J' := J) (S' := S) am_e289 rfl rfl rfl rfl ?_
    refine w_st (i' := 10) (ls' := [.ref 126, .ref 142, .int x2]) (st' := [.int x2, .ref 142, .int x2, .ref 126]) (E' := E) (I' := I) (J' := J) (S' := S) am_e289 rfl rfl rfl rfl ?_
    have hf1 := h.1
    replace h := h.2
    refine w_ia (k := 142) (n := 40) (jn := x2.toNatClampNeg) am_e289 rfl rfl (by decide) hf1 rfl ?_
    refine w_is (k := 126) (n := 40) (jn := x2.toNatClampNeg) am_e289 rfl rfl (by decide) hf1 rfl ?_
    show am_ww 289 12 [.ref 126, .ref 142, .int x2] [] E (u_I I 126 (upd (I 126) x2.toNatClampNeg ((I 142) x2.toNatClampNeg))) J S _
    refine w_st (i' := 13) (ls' := [.ref 126, .ref 142, .int (x2 + nI 1)]) (st' := []) (E' := E) (I' := (u_I I 126 (upd (I 126) x2.toNatClampNeg ((I 142) x2.toNatClampNeg)))) (J' := J) (S' := S) am_e289 rfl rfl rfl rfl ?_
    refine w_st (i' := 2) (ls' := [.ref 126, .ref 142, .int (x2 + nI 1)]) (st' := []) (E' := E) (I' := (u_I I 126 (upd (I 126) x2.toNatClampNeg ((I 142) x2.toNatClampNeg)))) (J' := J) (S' := S) am_e289 rfl rfl rfl rfl ?_
    exact h
-- 289 copyTo
theorem g289_0_127  {E : am_Ev} {I : Nat → Nat → Int32} {J : Nat → Nat → Int64} {S : Nat → Nat → Option Nat} {Q : am_Qt}  (h : am_ww 289 2 [.ref 127, .ref 143, .int (nI 0)] [] E I J S Q) : am_ww 289 0 [.ref 127, .ref 143, am_U] [] E I J S Q := by
  refine w_st (i' := 1) (ls' := [.ref 127, .ref 143, am_U]) (st' := [.int (nI 0)]) (E' := E) (I' := I) (J' := J) (S' := S) am_e289 rfl rfl rfl rfl ?_
  refine w_st (i' := 2) (ls' := [.ref 127, .ref 143, .int (nI 0)]) (st' := []) (E' := E) (I' := I) (J' := J) (S' := S) am_e289 rfl rfl rfl rfl ?_
  exact h
theorem g289_2_127 {x2 : Int32} {E : am_Ev} {I : Nat → Nat → Int32} {J : Nat → Nat → Int64} {S : Nat → Nat → Option Nat} {Q : am_Qt}  (h : ((nI 40) ≤ x2 → (Q (.inl none) E I J S)) ∧ (¬ (nI 40) ≤ x2 → (vp_in x2 40 ∧ (am_ww 289 2 [.ref 127, .ref 143, .int (x2 + nI 1)] [] E (u_I I 127 (upd (I 127) x2.toNatClampNeg ((I 143) x2.toNatClampNeg))) J S Q)))) : am_ww 289 2 [.ref 127, .ref 143, .int x2] [] E I J S Q := by
  refine w_st (i' := 3) (ls' := [.ref 127, .ref 143, .int x2]) (st' := [.int x2]) (E' := E) (I' := I) (J' := J) (S' := S) am_e289 rfl rfl rfl rfl ?_
  refine w_st (i' := 4) (ls' := [.ref 127, .ref 143, .int x2]) (st' := [.ref 127, .int x2]) (E' := E) (I' := I) (J' := J) (S' := S) am_e289 rfl rfl rfl rfl ?_
  refine w_st (i' := 5) (ls' := [.ref 127, .ref 143, .int x2]) (st' := [.int (nI 40), .int x2]) (E' := E) (I' := I) (J' := J) (S' := S) am_e289 rfl rfl rfl rfl ?_
  refine w_if2 am_e289 rfl rfl (fun c => ?_) (fun c => ?_)
  · replace h := h.1 (of_decide_eq_true c)
    exact w_end am_e289 rfl rfl rfl h
  · replace h := h.2 (of_decide_eq_false c)
    refine w_st (i' := 7) (ls' := [.ref 127, .ref 143, .int x2]) (st' := [.ref 127]) (E' := E) (I' := I) (J' := J) (S' := S) am_e289 rfl rfl rfl rfl ?_
    refine w_st (i' := 8) (ls' := [.ref 127, .ref 143, .int x2]) (st' := [.int x2, .ref 127]) (E' := E) (I' := I) (J' := J) (S' := S) am_e289 rfl rfl rfl rfl ?_
    refine w_st (i' := 9) (ls' := [.ref 127, .ref 143, .int x2]) (st' := [.ref 143, .int x2, .ref 127]) (E' := E) (I' := I) (J' := J) (S' := S) am_e289 rfl rfl rfl rfl ?_
    refine w_st (i' := 10) (ls' := [.ref 127, .ref 143, .int x2]) (st' := [.int x2, .ref 143, .int x2, .ref 127]) (E' := E) (I' := I) (J' := J) (S' := S) am_e289 rfl rfl rfl rfl ?_
    have hf1 := h.1
    replace h := h.2
    refine w_ia (k := 143) (n := 40) (jn := x2.toNatClampNeg) am_e289 rfl rfl (by decide) hf1 rfl ?_
    refine w_is (k := 127) (n := 40) (jn := x2.toNatClampNeg) am_e289 rfl rfl (by decide) hf1 rfl ?_
    show am_ww 289 12 [.ref 127, .ref 143, .int x2] [] E (u_I I 127 (upd (I 127) x2.toNatClampNeg ((I 143) x2.toNatClampNeg))) J S _
    refine w_st (i' := 13) (ls' := [.ref 127, .ref 143, .int (x2 + nI 1)]) (st' := []) (E' := E) (I' := (u_I I 127 (upd (I 127) x2.toNatClampNeg ((I 143) x2.toNatClampNeg)))) (J' := J) (S' := S) am_e289 rfl rfl rfl rfl ?_
    refine w_st (i' := 2) (ls' := [.ref 127, .ref 143, .int (x2 + nI 1)]) (st' := []) (E' := E) (I' := (u_I I 127 (upd (I 127) x2.toNatClampNeg ((I 143) x2.toNatClampNeg)))) (J' := J) (S' := S) am_e289 rfl rfl rfl rfl ?_
    exact h
-- 289 copyTo
theorem g289_0_110  {E : am_Ev} {I : Nat → Nat → Int32} {J : Nat → Nat → Int64} {S : Nat → Nat → Option Nat} {Q : am_Qt}  (h : am_ww 289 2 [.ref 110, .ref 144, .int (nI 0)] [] E I J S Q) : am_ww 289 0 [.ref 110, .ref 144, am_U] [] E I J S Q := by
  refine w_st (i' := 1) (ls' := [.ref 110, .ref 144, am_U]) (st' := [.int (nI 0)]) (E' := E) (I' := I) (J' := J) (S' := S) am_e289 rfl rfl rfl rfl ?_
  refine w_st (i' := 2) (ls' := [.ref 110, .ref 144, .int (nI 0)]) (st' := []) (E' := E) (I' := I) (J' := J) (S' := S) am_e289 rfl rfl rfl rfl ?_
  exact h
theorem g289_2_110 {x2 : Int32} {E : am_Ev} {I : Nat → Nat → Int32} {J : Nat → Nat → Int64} {S : Nat → Nat → Option Nat} {Q : am_Qt}  (h : ((nI 2) ≤ x2 → (Q (.inl none) E I J S)) ∧ (¬ (nI 2) ≤ x2 → (vp_in x2 2 ∧ (am_ww 289 2 [.ref 110, .ref 144, .int (x2 + nI 1)] [] E (u_I I 110 (upd (I 110) x2.toNatClampNeg ((I 144) x2.toNatClampNeg))) J S Q)))) : am_ww 289 2 [.ref 110, .ref 144, .int x2] [] E I J S Q := by
  refine w_st (i' := 3) (ls' := [.ref 110, .ref 144, .int x2]) (st' := [.int x2]) (E' := E) (I' := I) (J' := J) (S' := S) am_e289 rfl rfl rfl rfl ?_
  refine w_st (i' := 4) (ls' := [.ref 110, .ref 144, .int x2]) (st' := [.ref 110, .int x2]) (E' := E) (I' := I) (J' := J) (S' := S) am_e289 rfl rfl rfl rfl ?_
  refine w_st (i' := 5) (ls' := [.ref 110, .ref 144, .int x2]) (st' := [.int (nI 2), .int x2]) (E' := E) (I' := I) (J' := J) (S' := S) am_e289 rfl rfl rfl rfl ?_
  refine w_if2 am_e289 rfl rfl (fun c => ?_) (fun c => ?_)
  · replace h := h.1 (of_decide_eq_true c)
    exact w_end am_e289 rfl rfl rfl h
  · replace h := h.2 (of_decide_eq_false c)
    refine w_st (i' := 7) (ls' := [.ref 110, .ref 144, .int x2]) (st' := [.ref 110]) (E' := E) (I' := I) (J' := J) (S' := S) am_e289 rfl rfl rfl rfl ?_
    refine w_st (i' := 8) (ls' := [.ref 110, .ref 144, .int x2]) (st' := [.int x2, .ref 110]) (E' := E) (I' := I) (J' := J) (S' := S) am_e289 rfl rfl rfl rfl ?_
    refine w_st (i' := 9) (ls' := [.ref 110, .ref 144, .int x2]) (st' := [.ref 144, .int x2, .ref 110]) (E' := E) (I' := I) (J' := J) (S' := S) am_e289 rfl rfl rfl rfl ?_
    refine w_st (i' := 10) (ls' := [.ref 110, .ref 144, .int x2]) (st' := [.int x2, .ref 144, .int x2, .ref 110]) (E' := E) (I' := I) (J' := J) (S' := S) am_e289 rfl rfl rfl rfl ?_
    have hf1 := h.1
    replace h := h.2
    refine w_ia (k := 144) (n := 2) (jn := x2.toNatClampNeg) am_e289 rfl rfl (by decide) hf1 rfl ?_
    refine w_is (k := 110) (n := 2) (jn := x2.toNatClampNeg) am_e289 rfl rfl (by decide) hf1 rfl ?_
    show am_ww 289 12 [.ref 110, .ref 144, .int x2] [] E (u_I I 110 (upd (I 110) x2.toNatClampNeg ((I 144) x2.toNatClampNeg))) J S _
    refine w_st (i' := 13) (ls' := [.ref 110, .ref 144, .int (x2 + nI 1)]) (st' := []) (E' := E) (I' := (u_I I 110 (upd (I 110) x2.toNatClampNeg ((I 144) x2.toNatClampNeg)))) (J' := J) (S' := S) am_e289 rfl rfl rfl rfl ?_
    refine w_st (i' := 2) (ls' := [.ref 110, .ref 144, .int (x2 + nI 1)]) (st' := []) (E' := E) (I' := (u_I I 110 (upd (I 110) x2.toNatClampNeg ((I 144) x2.toNatClampNeg)))) (J' := J) (S' := S) am_e289 rfl rfl rfl rfl ?_
    exact h
-- 288 image
theorem g288_0  {E : am_Ev} {I : Nat → Nat → Int32} {J : Nat → Nat → Int64} {S : Nat → Nat → Option Nat} {Q : am_Qt}  (h : am_cl 289 [.ref 134, .ref 117] E (u_I I 99 (upd (upd (upd (upd (upd (I 99) 3 (nI 0)) 58 (nI 1)) 59 ((I 99) 12)) 60 ((I 99) 13)) 61 ((I 99) 43))) J S (q_V fun E1 I1 J1 S1 => am_cl 289 [.ref 135, .ref 118] E1 I1 J1 S1 (q_V fun E2 I2 J2 S2 => am_cl 289 [.ref 136, .ref 119] E2 I2 J2 S2 (q_V fun E3 I3 J3 S3 => am_cl 289 [.ref 137, .ref 120] E3 I3 J3 S3 (q_V fun E4 I4 J4 S4 => am_cl 289 [.ref 138, .ref 121] E4 I4 J4 S4 (q_V fun E5 I5 J5 S5 => am_cl 289 [.ref 139, .ref 122] E5 I5 J5 S5 (q_V fun E6 I6 J6 S6 => am_cl 289 [.ref 140, .ref 123] E6 I6 J6 S6 (q_V fun E7 I7 J7 S7 => am_cl 289 [.ref 141, .ref 124] E7 I7 J7 S7 (q_V fun E8 I8 J8 S8 => am_cl 289 [.ref 142, .ref 126] E8 I8 J8 S8 (q_V fun E9 I9 J9 S9 => am_cl 289 [.ref 143, .ref 127] E9 I9 J9 S9 (q_V fun E10 I10 J10 S10 => am_cl 289 [.ref 144, .ref 110] E10 I10 J10 S10 (q_V fun E11 I11 J11 S11 => Q (.inl none) E11 I11 J11 S11)))))))))))) : am_ww 288 0 [.ref 99] [] E I J S Q := by
  refine w_st (i' := 1) (ls' := [.ref 99]) (st' := [.ref 99]) (E' := E) (I' := I) (J' := J) (S' := S) am_e288 rfl rfl rfl rfl ?_
  refine w_st (i' := 2) (ls' := [.ref 99]) (st' := [.int (nI 0), .ref 99]) (E' := E) (I' := I) (J' := J) (S' := S) am_e288 rfl rfl rfl rfl ?_
  refine w_st (i' := 3) (ls' := [.ref 99]) (st' := []) (E' := E) (I' := (u_I I 99 (upd (I 99) 3 (nI 0)))) (J' := J) (S' := S) am_e288 rfl rfl rfl rfl ?_
  refine w_st (i' := 4) (ls' := [.ref 99]) (st' := [.ref 99]) (E' := E) (I' := (u_I I 99 (upd (I 99) 3 (nI 0)))) (J' := J) (S' := S) am_e288 rfl rfl rfl rfl ?_
  refine w_st (i' := 5) (ls' := [.ref 99]) (st' := [.int (nI 1), .ref 99]) (E' := E) (I' := (u_I I 99 (upd (I 99) 3 (nI 0)))) (J' := J) (S' := S) am_e288 rfl rfl rfl rfl ?_
  refine w_st (i' := 6) (ls' := [.ref 99]) (st' := []) (E' := E) (I' := (u_I (u_I I 99 (upd (I 99) 3 (nI 0))) 99 (upd (upd (I 99) 3 (nI 0)) 58 (nI 1)))) (J' := J) (S' := S) am_e288 rfl rfl rfl rfl ?_
  refine w_eI (uI_0 ..) ?_
  show am_ww 288 6 [.ref 99] [] E (u_I I 99 (upd (upd (I 99) 3 (nI 0)) 58 (nI 1))) J S _
  refine w_st (i' := 7) (ls' := [.ref 99]) (st' := [.ref 99]) (E' := E) (I' := (u_I I 99 (upd (upd (I 99) 3 (nI 0)) 58 (nI 1)))) (J' := J) (S' := S) am_e288 rfl rfl rfl rfl ?_
  refine w_st (i' := 8) (ls' := [.ref 99]) (st' := [.ref 99, .ref 99]) (E' := E) (I' := (u_I I 99 (upd (upd (I 99) 3 (nI 0)) 58 (nI 1)))) (J' := J) (S' := S) am_e288 rfl rfl rfl rfl ?_
  refine w_st (i' := 9) (ls' := [.ref 99]) (st' := [.int ((I 99) 12), .ref 99]) (E' := E) (I' := (u_I I 99 (upd (upd (I 99) 3 (nI 0)) 58 (nI 1)))) (J' := J) (S' := S) am_e288 rfl rfl rfl rfl ?_
  refine w_st (i' := 10) (ls' := [.ref 99]) (st' := []) (E' := E) (I' := (u_I (u_I I 99 (upd (upd (I 99) 3 (nI 0)) 58 (nI 1))) 99 (upd (upd (upd (I 99) 3 (nI 0)) 58 (nI 1)) 59 ((I 99) 12)))) (J' := J) (S' := S) am_e288 rfl rfl rfl rfl ?_
  refine w_eI (uI_0 ..) ?_
  show am_ww 288 10 [.ref 99] [] E (u_I I 99 (upd (upd (upd (I 99) 3 (nI 0)) 58 (nI 1)) 59 ((I 99) 12))) J S _
  refine w_st (i' := 11) (ls' := [.ref 99]) (st' := [.ref 99]) (E' := E) (I' := (u_I I 99 (upd (upd (upd (I 99) 3 (nI 0)) 58 (nI 1)) 59 ((I 99) 12)))) (J' := J) (S' := S) am_e288 rfl rfl rfl rfl ?_
  refine w_st (i' := 12) (ls' := [.ref 99]) (st' := [.ref 99, .ref 99]) (E' := E) (I' := (u_I I 99 (upd (upd (upd (I 99) 3 (nI 0)) 58 (nI 1)) 59 ((I 99) 12)))) (J' := J) (S' := S) am_e288 rfl rfl rfl rfl ?_
  refine w_st (i' := 13) (ls' := [.ref 99]) (st' := [.int ((I 99) 13), .ref 99]) (E' := E) (I' := (u_I I 99 (upd (upd (upd (I 99) 3 (nI 0)) 58 (nI 1)) 59 ((I 99) 12)))) (J' := J) (S' := S) am_e288 rfl rfl rfl rfl ?_
  refine w_st (i' := 14) (ls' := [.ref 99]) (st' := []) (E' := E) (I' := (u_I (u_I I 99 (upd (upd (upd (I 99) 3 (nI 0)) 58 (nI 1)) 59 ((I 99) 12))) 99 (upd (upd (upd (upd (I 99) 3 (nI 0)) 58 (nI 1)) 59 ((I 99) 12)) 60 ((I 99) 13)))) (J' := J) (S' := S) am_e288 rfl rfl rfl rfl ?_
  refine w_eI (uI_0 ..) ?_
  show am_ww 288 14 [.ref 99] [] E (u_I I 99 (upd (upd (upd (upd (I 99) 3 (nI 0)) 58 (nI 1)) 59 ((I 99) 12)) 60 ((I 99) 13))) J S _
  refine w_st (i' := 15) (ls' := [.ref 99]) (st' := [.ref 99]) (E' := E) (I' := (u_I I 99 (upd (upd (upd (upd (I 99) 3 (nI 0)) 58 (nI 1)) 59 ((I 99) 12)) 60 ((I 99) 13)))) (J' := J) (S' := S) am_e288 rfl rfl rfl rfl ?_
  refine w_st (i' := 16) (ls' := [.ref 99]) (st' := [.ref 99, .ref 99]) (E' := E) (I' := (u_I I 99 (upd (upd (upd (upd (I 99) 3 (nI 0)) 58 (nI 1)) 59 ((I 99) 12)) 60 ((I 99) 13)))) (J' := J) (S' := S) am_e288 rfl rfl rfl rfl ?_
  refine w_st (i' := 17) (ls' := [.ref 99]) (st' := [.int ((I 99) 43), .ref 99]) (E' := E) (I' := (u_I I 99 (upd (upd (upd (upd (I 99) 3 (nI 0)) 58 (nI 1)) 59 ((I 99) 12)) 60 ((I 99) 13)))) (J' := J) (S' := S) am_e288 rfl rfl rfl rfl ?_
  refine w_st (i' := 18) (ls' := [.ref 99]) (st' := []) (E' := E) (I' := (u_I (u_I I 99 (upd (upd (upd (upd (I 99) 3 (nI 0)) 58 (nI 1)) 59 ((I 99) 12)) 60 ((I 99) 13))) 99 (upd (upd (upd (upd (upd (I 99) 3 (nI 0)) 58 (nI 1)) 59 ((I 99) 12)) 60 ((I 99) 13)) 61 ((I 99) 43)))) (J' := J) (S' := S) am_e288 rfl rfl rfl rfl ?_
  refine w_eI (uI_0 ..) ?_
  show am_ww 288 18 [.ref 99] [] E (u_I I 99 (upd (upd (upd (upd (upd (I 99) 3 (nI 0)) 58 (nI 1)) 59 ((I 99) 12)) 60 ((I 99) 13)) 61 ((I 99) 43))) J S _
  refine w_st (i' := 19) (ls' := [.ref 99]) (st' := [.ref 99]) (E' := E) (I' := (u_I I 99 (upd (upd (upd (upd (upd (I 99) 3 (nI 0)) 58 (nI 1)) 59 ((I 99) 12)) 60 ((I 99) 13)) 61 ((I 99) 43)))) (J' := J) (S' := S) am_e288 rfl rfl rfl rfl ?_
  refine w_st (i' := 20) (ls' := [.ref 99]) (st' := [.ref 134]) (E' := E) (I' := (u_I I 99 (upd (upd (upd (upd (upd (I 99) 3 (nI 0)) 58 (nI 1)) 59 ((I 99) 12)) 60 ((I 99) 13)) 61 ((I 99) 43)))) (J' := J) (S' := S) am_e288 rfl rfl rfl rfl ?_
  refine w_st (i' := 21) (ls' := [.ref 99]) (st' := [.ref 99, .ref 134]) (E' := E) (I' := (u_I I 99 (upd (upd (upd (upd (upd (I 99) 3 (nI 0)) 58 (nI 1)) 59 ((I 99) 12)) 60 ((I 99) 13)) 61 ((I 99) 43)))) (J' := J) (S' := S) am_e288 rfl rfl rfl rfl ?_
  refine w_st (i' := 22) (ls' := [.ref 99]) (st' := [.ref 117, .ref 134]) (E' := E) (I' := (u_I I 99 (upd (upd (upd (upd (upd (I 99) 3 (nI 0)) 58 (nI 1)) 59 ((I 99) 12)) 60 ((I 99) 13)) 61 ((I 99) 43)))) (J' := J) (S' := S) am_e288 rfl rfl rfl rfl ?_
  refine w_cV am_e288 rfl rfl (as := [.ref 134, .ref 117]) (rest := []) rfl rfl (am_ww.mono h ?_)
  rintro _ E1 I1 J1 S1 ⟨rfl, h⟩
  refine q_mkV ?_
  refine w_st (i' := 24) (ls' := [.ref 99]) (st' := [.ref 99]) (E' := E1) (I' := I1) (J' := J1) (S' := S1) am_e288 rfl rfl rfl rfl ?_
  refine w_st (i' := 25) (ls' := [.ref 99]) (st' := [.ref 135]) (E' := E1) (I' := I1) (J' := J1) (S' := S1) am_e288 rfl rfl rfl rfl ?_
  refine w_st (i' := 26) (ls' := [.ref 99]) (st' := [.ref 99, .ref 135]) (E' := E1) (I' := I1) (J' := J1) (S' := S1) am_e288 rfl rfl rfl rfl ?_
  refine w_st (i' := 27) (ls' := [.ref 99]) (st' := [.ref 118, .ref 135]) (E' := E1) (I' := I1) (J' := J1) (S' := S1) am_e288 rfl rfl rfl rfl ?_
  refine w_cV am_e288 rfl rfl (as := [.ref 135, .ref 118]) (rest := []) rfl rfl (am_ww.mono h ?_)
  rintro _ E2 I2 J2 S2 ⟨rfl, h⟩
  refine q_mkV ?_
  refine w_st (i' := 29) (ls' := [.ref 99]) (st' := [.ref 99]) (E' := E2) (I' := I2) (J' := J2) (S' := S2) am_e288 rfl rfl rfl rfl ?_
  refine w_st (i' := 30) (ls' := [.ref 99]) (st' := [.ref 136]) (E' := E2) (I' := I2) (J' := J2) (S' := S2) am_e288 rfl rfl rfl rfl ?_
  refine w_st (i' := 31) (ls' := [.ref 99]) (st' := [.ref 99, .ref 136]) (E' := E2) (I' := I2) (J' := J2) (S' := S2) am_e288 rfl rfl rfl rfl ?_
  refine w_st (i' := 32) (ls' := [.ref 99]) (st' := [.ref 119, .ref 136]) (E' := E2) (I' := I2) (J' := J2) (S' := S2) am_e288 rfl rfl rfl rfl ?_
  refine w_cV am_e288 rfl rfl (as := [.ref 136, .ref 119]) (rest := []) rfl rfl (am_ww.mono h ?_)
  rintro _ E3 I3 J3 S3 ⟨rfl, h⟩
  refine q_mkV ?_
  refine w_st (i' := 34) (ls' := [.ref 99]) (st' := [.ref 99]) (E' := E3) (I' := I3) (J' := J3) (S' := S3) am_e288 rfl rfl rfl rfl ?_
  refine w_st (i' := 35) (ls' := [.ref 99]) (st' := [.ref 137]) (E' := E3) (I' := I3) (J' := J3) (S' := S3) am_e288 rfl rfl rfl rfl ?_
  refine w_st (i' := 36) (ls' := [.ref 99]) (st' := [.ref 99, .ref 137]) (E' := E3) (I' := I3) (J' := J3) (S' := S3) am_e288 rfl rfl rfl rfl ?_
  refine w_st (i' := 37) (ls' := [.ref 99]) (st' := [.ref 120, .ref 137]) (E' := E3) (I' := I3) (J' := J3) (S' := S3) am_e288 rfl rfl rfl rfl ?_
  refine w_cV am_e288 rfl rfl (as := [.ref 137, .ref 120]) (rest := []) rfl rfl (am_ww.mono h ?_)
  rintro _ E4 I4 J4 S4 ⟨rfl, h⟩
  refine q_mkV ?_
  refine w_st (i' := 39) (ls' := [.ref 99]) (st' := [.ref 99]) (E' := E4) (I' := I4) (J' := J4) (S' := S4) am_e288 rfl rfl rfl rfl ?_
  refine w_st (i' := 40) (ls' := [.ref 99]) (st' := [.ref 138]) (E' := E4) (I' := I4) (J' := J4) (S' := S4) am_e288 rfl rfl rfl rfl ?_
  refine w_st (i' := 41) (ls' := [.ref 99]) (st' := [.ref 99, .ref 138]) (E' := E4) (I' := I4) (J' := J4) (S' := S4) am_e288 rfl rfl rfl rfl ?_
  refine w_st (i' := 42) (ls' := [.ref 99]) (st' := [.ref 121, .ref 138]) (E' := E4) (I' := I4) (J' := J4) (S' := S4) am_e288 rfl rfl rfl rfl ?_
  refine w_cV am_e288 rfl rfl (as := [.ref 138, .ref 121]) (rest := []) rfl rfl (am_ww.mono h ?_)
  rintro _ E5 I5 J5 S5 ⟨rfl, h⟩
  refine q_mkV ?_
  refine w_st (i' := 44) (ls' := [.ref 99]) (st' := [.ref 99]) (E' := E5) (I' := I5) (J' := J5) (S' := S5) am_e288 rfl rfl rfl rfl ?_
  refine w_st (i' := 45) (ls' := [.ref 99]) (st' := [.ref 139]) (E' := E5) (I' := I5) (J' := J5) (S' := S5) am_e288 rfl rfl rfl rfl ?_
  refine w_st (i' := 46) (ls' := [.ref 99]) (st' := [.ref 99, .ref 139]) (E' := E5) (I' := I5) (J' := J5) (S' := S5) am_e288 rfl rfl rfl rfl ?_
  refine w_st (i' := 47) (ls' := [.ref 99]) (st' := [.ref 122, .ref 139]) (E' := E5) (I' := I5) (J' := J5) (S' := S5) am_e288 rfl rfl rfl rfl ?_
  refine w_cV am_e288 rfl rfl (as := [.ref 139, .ref 122]) (rest := []) rfl rfl (am_ww.mono h ?_)
  rintro _ E6 I6 J6 S6 ⟨rfl, h⟩
  refine q_mkV ?_
  refine w_st (i' := 49) (ls' := [.ref 99]) (st' := [.ref 99]) (E' := E6) (I' := I6) (J' := J6) (S' := S6) am_e288 rfl rfl rfl rfl ?_
  refine w_st (i' := 50) (ls' := [.ref 99]) (st' := [.ref 140]) (E' := E6) (I' := I6) (J' := J6) (S' := S6) am_e288 rfl rfl rfl rfl ?_
  refine w_st (i' := 51) (ls' := [.ref 99]) (st' := [.ref 99, .ref 140]) (E' := E6) (I' := I6) (J' := J6) (S' := S6) am_e288 rfl rfl rfl rfl ?_
  refine w_st (i' := 52) (ls' := [.ref 99]) (st' := [.ref 123, .ref 140]) (E' := E6) (I' := I6) (J' := J6) (S' := S6) am_e288 rfl rfl rfl rfl ?_
  refine w_cV am_e288 rfl rfl (as := [.ref 140, .ref 123]) (rest := []) rfl rfl (am_ww.mono h ?_)
  rintro _ E7 I7 J7 S7 ⟨rfl, h⟩
  refine q_mkV ?_
  refine w_st (i' := 54) (ls' := [.ref 99]) (st' := [.ref 99]) (E' := E7) (I' := I7) (J' := J7) (S' := S7) am_e288 rfl rfl rfl rfl ?_
  refine w_st (i' := 55) (ls' := [.ref 99]) (st' := [.ref 141]) (E' := E7) (I' := I7) (J' := J7) (S' := S7) am_e288 rfl rfl rfl rfl ?_
  refine w_st (i' := 56) (ls' := [.ref 99]) (st' := [.ref 99, .ref 141]) (E' := E7) (I' := I7) (J' := J7) (S' := S7) am_e288 rfl rfl rfl rfl ?_
  refine w_st (i' := 57) (ls' := [.ref 99]) (st' := [.ref 124, .ref 141]) (E' := E7) (I' := I7) (J' := J7) (S' := S7) am_e288 rfl rfl rfl rfl ?_
  refine w_cV am_e288 rfl rfl (as := [.ref 141, .ref 124]) (rest := []) rfl rfl (am_ww.mono h ?_)
  rintro _ E8 I8 J8 S8 ⟨rfl, h⟩
  refine q_mkV ?_
  refine w_st (i' := 59) (ls' := [.ref 99]) (st' := [.ref 99]) (E' := E8) (I' := I8) (J' := J8) (S' := S8) am_e288 rfl rfl rfl rfl ?_
  refine w_st (i' := 60) (ls' := [.ref 99]) (st' := [.ref 142]) (E' := E8) (I' := I8) (J' := J8) (S' := S8) am_e288 rfl rfl rfl rfl ?_
  refine w_st (i' := 61) (ls' := [.ref 99]) (st' := [.ref 99, .ref 142]) (E' := E8) (I' := I8) (J' := J8) (S' := S8) am_e288 rfl rfl rfl rfl ?_
  refine w_st (i' := 62) (ls' := [.ref 99]) (st' := [.ref 126, .ref 142]) (E' := E8) (I' := I8) (J' := J8) (S' := S8) am_e288 rfl rfl rfl rfl ?_
  refine w_cV am_e288 rfl rfl (as := [.ref 142, .ref 126]) (rest := []) rfl rfl (am_ww.mono h ?_)
  rintro _ E9 I9 J9 S9 ⟨rfl, h⟩
  refine q_mkV ?_
  refine w_st (i' := 64) (ls' := [.ref 99]) (st' := [.ref 99]) (E' := E9) (I' := I9) (J' := J9) (S' := S9) am_e288 rfl rfl rfl rfl ?_
  refine w_st (i' := 65) (ls' := [.ref 99]) (st' := [.ref 143]) (E' := E9) (I' := I9) (J' := J9) (S' := S9) am_e288 rfl rfl rfl rfl ?_
  refine w_st (i' := 66) (ls' := [.ref 99]) (st' := [.ref 99, .ref 143]) (E' := E9) (I' := I9) (J' := J9) (S' := S9) am_e288 rfl rfl rfl rfl ?_
  refine w_st (i' := 67) (ls' := [.ref 99]) (st' := [.ref 127, .ref 143]) (E' := E9) (I' := I9) (J' := J9) (S' := S9) am_e288 rfl rfl rfl rfl ?_
  refine w_cV am_e288 rfl rfl (as := [.ref 143, .ref 127]) (rest := []) rfl rfl (am_ww.mono h ?_)
  rintro _ E10 I10 J10 S10 ⟨rfl, h⟩
  refine q_mkV ?_
  refine w_st (i' := 69) (ls' := [.ref 99]) (st' := [.ref 99]) (E' := E10) (I' := I10) (J' := J10) (S' := S10) am_e288 rfl rfl rfl rfl ?_
  refine w_st (i' := 70) (ls' := [.ref 99]) (st' := [.ref 144]) (E' := E10) (I' := I10) (J' := J10) (S' := S10) am_e288 rfl rfl rfl rfl ?_
  refine w_st (i' := 71) (ls' := [.ref 99]) (st' := [.ref 99, .ref 144]) (E' := E10) (I' := I10) (J' := J10) (S' := S10) am_e288 rfl rfl rfl rfl ?_
  refine w_st (i' := 72) (ls' := [.ref 99]) (st' := [.ref 110, .ref 144]) (E' := E10) (I' := I10) (J' := J10) (S' := S10) am_e288 rfl rfl rfl rfl ?_
  refine w_cV am_e288 rfl rfl (as := [.ref 144, .ref 110]) (rest := []) rfl rfl (am_ww.mono h ?_)
  rintro _ E11 I11 J11 S11 ⟨rfl, h⟩
  refine q_mkV ?_
  exact w_end am_e288 rfl rfl rfl h
-- 290 restore
theorem g290_0  {E : am_Ev} {I : Nat → Nat → Int32} {J : Nat → Nat → Int64} {S : Nat → Nat → Option Nat} {Q : am_Qt}  (h : (((I 99) 58) = 0 → (Q (.inl (some (.int (nI 0)))) E (u_I I 99 (upd (I 99) 3 (nI 0))) J S)) ∧ (¬ ((I 99) 58) = 0 → (am_cl 289 [.ref 117, .ref 134] E (u_I I 99 (upd (upd (upd (upd (I 99) 3 (nI 0)) 12 ((I 99) 59)) 13 ((I 99) 60)) 43 ((I 99) 61))) J S (q_V fun E1 I1 J1 S1 => am_cl 289 [.ref 118, .ref 135] E1 I1 J1 S1 (q_V fun E2 I2 J2 S2 => am_cl 289 [.ref 119, .ref 136] E2 I2 J2 S2 (q_V fun E3 I3 J3 S3 => am_cl 289 [.ref 120, .ref 137] E3 I3 J3 S3 (q_V fun E4 I4 J4 S4 => am_cl 289 [.ref 121, .ref 138] E4 I4 J4 S4 (q_V fun E5 I5 J5 S5 => am_cl 289 [.ref 122, .ref 139] E5 I5 J5 S5 (q_V fun E6 I6 J6 S6 => am_cl 289 [.ref 123, .ref 140] E6 I6 J6 S6 (q_V fun E7 I7 J7 S7 => am_cl 289 [.ref 124, .ref 141] E7 I7 J7 S7 (q_V fun E8 I8 J8 S8 => am_cl 289 [.ref 126, .ref 142] E8 I8 J8 S8 (q_V fun E9 I9 J9 S9 => am_cl 289 [.ref 127, .ref 143] E9 I9 J9 S9 (q_V fun E10 I10 J10 S10 => am_cl 289 [.ref 110, .ref 144] E10 I10 J10 S10 (q_V fun E11 I11 J11 S11 => Q (.inl (some (.int (nI 1)))) E11 I11 J11 S11)))))))))))))) : am_ww 290 0 [.ref 99] [] E I J S Q := by
  refine w_st (i' := 1) (ls' := [.ref 99]) (st' := [.ref 99]) (E' := E) (I' := I) (J' := J) (S' := S) am_e290 rfl rfl rfl rfl ?_
  refine w_st (i' := 2) (ls' := [.ref 99]) (st' := [.int (nI 0), .ref 99]) (E' := E) (I' := I) (J' := J) (S' := S) am_e290 rfl rfl rfl rfl ?_
  refine w_st (i' := 3) (ls' := [.ref 99]) (st' := []) (E' := E) (I' := (u_I I 99 (upd (I 99) 3 (nI 0)))) (J' := J) (S' := S) am_e290 rfl rfl rfl rfl ?_
  refine w_st (i' := 4) (ls' := [.ref 99]) (st' := [.ref 99]) (E' := E) (I' := (u_I I 99 (upd (I 99) 3 (nI 0)))) (J' := J) (S' := S) am_e290 rfl rfl rfl rfl ?_
  refine w_st (i' := 5) (ls' := [.ref 99]) (st' := [.int ((I 99) 58)]) (E' := E) (I' := (u_I I 99 (upd (I 99) 3 (nI 0)))) (J' := J) (S' := S) am_e290 rfl rfl rfl rfl ?_
  refine w_if1 am_e290 rfl rfl (fun c => ?_) (fun c => ?_)
  · replace h := h.2 (of_decide_eq_true c)
    refine w_st (i' := 9) (ls' := [.ref 99]) (st' := [.ref 99]) (E' := E) (I' := (u_I I 99 (upd (I 99) 3 (nI 0)))) (J' := J) (S' := S) am_e290 rfl rfl rfl rfl ?_
    refine w_st (i' := 10) (ls' := [.ref 99]) (st' := [.ref 99, .ref 99]) (E' := E) (I' := (u_I I 99 (upd (I 99) 3 (nI 0)))) (J' := J) (S' := S) am_e290 rfl rfl rfl rfl ?_
    refine w_st (i' := 11) (ls' := [.ref 99]) (st' := [.int ((I 99) 59), .ref 99]) (E' := E) (I' := (u_I I 99 (upd (I 99) 3 (nI 0)))) (J' := J) (S' := S) am_e290 rfl rfl rfl rfl ?_
    refine w_st (i' := 12) (ls' := [.ref 99]) (st' := []) (E' := E) (I' := (u_I (u_I I 99 (upd (I 99) 3 (nI 0))) 99 (upd (upd (I 99) 3 (nI 0)) 12 ((I 99) 59)))) (J' := J) (S' := S) am_e290 rfl rfl rfl rfl ?_
    refine w_eI (uI_0 ..) ?_
    show am_ww 290 12 [.ref 99] [] E (u_I I 99 (upd (upd (I 99) 3 (nI 0)) 12 ((I 99) 59))) J S _
    refine w_st (i' := 13) (ls' := [.ref 99]) (st' := [.ref 99]) (E' := E) (I' := (u_I I 99 (upd (upd (I 99) 3 (nI 0)) 12 ((I 99) 59)))) (J' := J) (S' := S) am_e290 rfl rfl rfl rfl ?_
    refine w_st (i' := 14) (ls' := [.ref 99]) (st' := [.ref 99, .ref 99]) (E' := E) (I' := (u_I I 99 (upd (upd (I 99) 3 (nI 0)) 12 ((I 99) 59)))) (J' := J) (S' := S) am_e290 rfl rfl rfl rfl ?_
    refine w_st (i' := 15) (ls' := [.ref 99]) (st' := [.int ((I 99) 60), .ref 99]) (E' := E) (I' := (u_I I 99 (upd (upd (I 99) 3 (nI 0)) 12 ((I 99) 59)))) (J' := J) (S' := S) am_e290 rfl rfl rfl rfl ?_
    refine w_st (i' := 16) (ls' := [.ref 99]) (st' := []) (E' := E) (I' := (u_I (u_I I 99 (upd (upd (I 99) 3 (nI 0)) 12 ((I 99) 59))) 99 (upd (upd (upd (I 99) 3 (nI 0)) 12 ((I 99) 59)) 13 ((I 99) 60)))) (J' := J) (S' := S) am_e290 rfl rfl rfl rfl ?_
    refine w_eI (uI_0 ..) ?_
    show am_ww 290 16 [.ref 99] [] E (u_I I 99 (upd (upd (upd (I 99) 3 (nI 0)) 12 ((I 99) 59)) 13 ((I 99) 60))) J S _
    refine w_st (i' := 17) (ls' := [.ref 99]) (st' := [.ref 99]) (E' := E) (I' := (u_I I 99 (upd (upd (upd (I 99) 3 (nI 0)) 12 ((I 99) 59)) 13 ((I 99) 60)))) (J' := J) (S' := S) am_e290 rfl rfl rfl rfl ?_
    refine w_st (i' := 18) (ls' := [.ref 99]) (st' := [.ref 99, .ref 99]) (E' := E) (I' := (u_I I 99 (upd (upd (upd (I 99) 3 (nI 0)) 12 ((I 99) 59)) 13 ((I 99) 60)))) (J' := J) (S' := S) am_e290 rfl rfl rfl rfl ?_
    refine w_st (i' := 19) (ls' := [.ref 99]) (st' := [.int ((I 99) 61), .ref 99]) (E' := E) (I' := (u_I I 99 (upd (upd (upd (I 99) 3 (nI 0)) 12 ((I 99) 59)) 13 ((I 99) 60)))) (J' := J) (S' := S) am_e290 rfl rfl rfl rfl ?_
    refine w_st (i' := 20) (ls' := [.ref 99]) (st' := []) (E' := E) (I' := (u_I (u_I I 99 (upd (upd (upd (I 99) 3 (nI 0)) 12 ((I 99) 59)) 13 ((I 99) 60))) 99 (upd (upd (upd (upd (I 99) 3 (nI 0)) 12 ((I 99) 59)) 13 ((I 99) 60)) 43 ((I 99) 61)))) (J' := J) (S' := S) am_e290 rfl rfl rfl rfl ?_
    refine w_eI (uI_0 ..) ?_
    show am_ww 290 20 [.ref 99] [] E (u_I I 99 (upd (upd (upd (upd (I 99) 3 (nI 0)) 12 ((I 99) 59)) 13 ((I 99) 60)) 43 ((I 99) 61))) J S _
    refine w_st (i' := 21) (ls' := [.ref 99]) (st' := [.ref 99]) (E' := E) (I' := (u_I I 99 (upd (upd (upd (upd (I 99) 3 (nI 0)) 12 ((I 99) 59)) 13 ((I 99) 60)) 43 ((I 99) 61)))) (J' := J) (S' := S) am_e290 rfl rfl rfl rfl ?_
    refine w_st (i' := 22) (ls' := [.ref 99]) (st' := [.ref 117]) (E' := E) (I' := (u_I I 99 (upd (upd (upd (upd (I 99) 3 (nI 0)) 12 ((I 99) 59)) 13 ((I 99) 60)) 43 ((I 99) 61)))) (J' := J) (S' := S) am_e290 rfl rfl rfl rfl ?_
    refine w_st (i' := 23) (ls' := [.ref 99]) (st' := [.ref 99, .ref 117]) (E' := E) (I' := (u_I I 99 (upd (upd (upd (upd (I 99) 3 (nI 0)) 12 ((I 99) 59)) 13 ((I 99) 60)) 43 ((I 99) 61)))) (J' := J) (S' := S) am_e290 rfl rfl rfl rfl ?_
    refine w_st (i' := 24) (ls' := [.ref 99]) (st' := [.ref 134, .ref 117]) (E' := E) (I' := (u_I I 99 (upd (upd (upd (upd (I 99) 3 (nI 0)) 12 ((I 99) 59)) 13 ((I 99) 60)) 43 ((I 99) 61)))) (J' := J) (S' := S) am_e290 rfl rfl rfl rfl ?_
    refine w_cV am_e290 rfl rfl (as := [.ref 117, .ref 134]) (rest := []) rfl rfl (am_ww.mono h ?_)
    rintro _ E1 I1 J1 S1 ⟨rfl, h⟩
    refine q_mkV ?_
    refine w_st (i' := 26) (ls' := [.ref 99]) (st' := [.ref 99]) (E' := E1) (I' := I1) (J' := J1) (S' := S1) am_e290 rfl rfl rfl rfl ?_
    refine w_st (i' := 27) (ls' := [.ref 99]) (st' := [.ref 118]) (E' := E1) (I' := I1) (J' := J1) (S' := S1) am_e290 rfl rfl rfl rfl ?_
    refine w_st (i' := 28) (ls' := [.ref 99]) (st' := [.ref 99, .ref 118]) (E' := E1) (I' := I1) (J' := J1) (S' := S1) am_e290 rfl rfl rfl rfl ?_
    refine w_st (i' := 29) (ls' := [.ref 99]) (st' := [.ref 135, .ref 118]) (E' := E1) (I' := I1) (J' := J1) (S' := S1) am_e290 rfl rfl rfl rfl ?_
    refine w_cV am_e290 rfl rfl (as := [.ref 118, .ref 135]) (rest := []) rfl rfl (am_ww.mono h ?_)
    rintro _ E2 I2 J2 S2 ⟨rfl, h⟩
    refine q_mkV ?_
    refine w_st (i' := 31) (ls' := [.ref 99]) (st' := [.ref 99]) (E' := E2) (I' := I2) (J' := J2) (S' := S2) am_e290 rfl rfl rfl rfl ?_
    refine w_st (i' := 32) (ls' := [.ref 99]) (st' := [.ref 119]) (E' := E2) (I' := I2) (J' := J2) (S' := S2) am_e290 rfl rfl rfl rfl ?_
    refine w_st (i' := 33) (ls' := [.ref 99]) (st' := [.ref 99, .ref 119]) (E' := E2) (I' := I2) (J' := J2) (S' := S2) am_e290 rfl rfl rfl rfl ?_
    refine w_st (i' := 34) (ls' := [.ref 99]) (st' := [.ref 136, .ref 119]) (E' := E2) (I' := I2) (J' := J2) (S' := S2) am_e290 rfl rfl rfl rfl ?_
    refine w_cV am_e290 rfl rfl (as := [.ref 119, .ref 136]) (rest := []) rfl rfl (am_ww.mono h ?_)
    rintro _ E3 I3 J3 S3 ⟨rfl, h⟩
    refine q_mkV ?_
    refine w_st (i' := 36) (ls' := [.ref 99]) (st' := [.ref 99]) (E' := E3) (I' := I3) (J' := J3) (S' := S3) am_e290 rfl rfl rfl rfl ?_
    refine w_st (i' := 37) (ls' := [.ref 99]) (st' := [.ref 120]) (E' := E3) (I' := I3) (J' := J3) (S' := S3) am_e290 rfl rfl rfl rfl ?_
    refine w_st (i' := 38) (ls' := [.ref 99]) (st' := [.ref 99, .ref 120]) (E' := E3) (I' := I3) (J' := J3) (S' := S3) am_e290 rfl rfl rfl rfl ?_
    refine w_st (i' := 39) (ls' := [.ref 99]) (st' := [.ref 137, .ref 120]) (E' := E3) (I' := I3) (J' := J3) (S' := S3) am_e290 rfl rfl rfl rfl ?_
    refine w_cV am_e290 rfl rfl (as := [.ref 120, .ref 137]) (rest := []) rfl rfl (am_ww.mono h ?_)
    rintro _ E4 I4 J4 S4 ⟨rfl, h⟩
    refine q_mkV ?_
    refine w_st (i' := 41) (ls' := [.ref 99]) (st' := [.ref 99]) (E' := E4) (I' := I4) (J' := J4) (S' := S4) am_e290 rfl rfl rfl rfl ?_
    refine w_st (i' := 42) (ls' := [.ref 99]) (st' := [.ref 121]) (E' := E4) (I' := I4) (J' := J4) (S' := S4) am_e290 rfl rfl rfl rfl ?_
    refine w_st (i' := 43) (ls' := [.ref 99]) (st' := [.ref 99, .ref 121]) (E' := E4) (I' := I4) (J' := J4) (S' := S4) am_e290 rfl rfl rfl rfl ?_
    refine w_st (i' := 44) (ls' := [.ref 99]) (st' := [.ref 138, .ref 121]) (E' := E4) (I' := I4) (J' := J4) (S' := S4) am_e290 rfl rfl rfl rfl ?_
    refine w_cV am_e290 rfl rfl (as := [.ref 121, .ref 138]) (rest := []) rfl rfl (am_ww.mono h ?_)
    rintro _ E5 I5 J5 S5 ⟨rfl, h⟩
    refine q_mkV ?_
    refine w_st (i' := 46) (ls' := [.ref 99]) (st' := [.ref 99]) (E' := E5) (I' := I5) (J' := J5) (S' := S5) am_e290 rfl rfl rfl rfl ?_
    refine w_st (i' := 47) (ls' := [.ref 99]) (st' := [.ref 122]) (E' := E5) (I' := I5) (J' := J5) (S' := S5) am_e290 rfl rfl rfl rfl ?_
    refine w_st (i' := 48) (ls' := [.ref 99]) (st' := [.ref 99, .ref 122]) (E' := E5) (I' := I5) (J' := J5) (S' := S5) am_e290 rfl rfl rfl rfl ?_
    refine w_st (i' := 49) (ls' := [.ref 99]) (st' := [.ref 139, .ref 122]) (E' := E5) (I' := I5) (J' := J5) (S' := S5) am_e290 rfl rfl rfl rfl ?_
    refine w_cV am_e290 rfl rfl (as := [.ref 122, .ref 139]) (rest := []) rfl rfl (am_ww.mono h ?_)
    rintro _ E6 I6 J6 S6 ⟨rfl, h⟩
    refine q_mkV ?_
    refine w_st (i' := 51) (ls' := [.ref 99]) (st' := [.ref 99]) (E' := E6) (I' := I6) (J' := J6) (S' := S6) am_e290 rfl rfl rfl rfl ?_
    refine w_st (i' := 52) (ls' := [.ref 99]) (st' := [.ref 123]) (E' := E6) (I' := I6) (J' := J6) (S' := S6) am_e290 rfl rfl rfl rfl ?_
    refine w_st (i' := 53) (ls' := [.ref 99]) (st' := [.ref 99, .ref 123]) (E' := E6) (I' := I6) (J' := J6) (S' := S6) am_e290 rfl rfl rfl rfl ?_
    refine w_st (i' := 54) (ls' := [.ref 99]) (st' := [.ref 140, .ref 123]) (E' := E6) (I' := I6) (J' := J6) (S' := S6) am_e290 rfl rfl rfl rfl ?_
    refine w_cV am_e290 rfl rfl (as := [.ref 123, .ref 140]) (rest := []) rfl rfl (am_ww.mono h ?_)
    rintro _ E7 I7 J7 S7 ⟨rfl, h⟩
    refine q_mkV ?_
    refine w_st (i' := 56) (ls' := [.ref 99]) (st' := [.ref 99]) (E' := E7) (I' := I7) (J' := J7) (S' := S7) am_e290 rfl rfl rfl rfl ?_
    refine w_st (i' := 57) (ls' := [.ref 99]) (st' := [.ref 124]) (E' := E7) (I' := I7) (J' := J7) (S' := S7) am_e290 rfl rfl rfl rfl ?_
    refine w_st (i' := 58) (ls' := [.ref 99]) (st' := [.ref 99, .ref 124]) (E' := E7) (I' := I7) (J' := J7) (S' := S7) am_e290 rfl rfl rfl rfl ?_
    refine w_st (i' := 59) (ls' := [.ref 99]) (st' := [.ref 141, .ref 124]) (E' := E7) (I' := I7) (J' := J7) (S' := S7) am_e290 rfl rfl rfl rfl ?_
    refine w_cV am_e290 rfl rfl (as := [.ref 124, .ref 141]) (rest := []) rfl rfl (am_ww.mono h ?_)
    rintro _ E8 I8 J8 S8 ⟨rfl, h⟩
    refine q_mkV ?_
    refine w_st (i' := 61) (ls' := [.ref 99]) (st' := [.ref 99]) (E' := E8) (I' := I8) (J' := J8) (S' := S8) am_e290 rfl rfl rfl rfl ?_
    refine w_st (i' := 62) (ls' := [.ref 99]) (st' := [.ref 126]) (E' := E8) (I' := I8) (J' := J8) (S' := S8) am_e290 rfl rfl rfl rfl ?_
    refine w_st (i' := 63) (ls' := [.ref 99]) (st' := [.ref 99, .ref 126]) (E' := E8) (I' := I8) (J' := J8) (S' := S8) am_e290 rfl rfl rfl rfl ?_
    refine w_st (i' := 64) (ls' := [.ref 99]) (st' := [.ref 142, .ref 126]) (E' := E8) (I' := I8) (J' := J8) (S' := S8) am_e290 rfl rfl rfl rfl ?_
    refine w_cV am_e290 rfl rfl (as := [.ref 126, .ref 142]) (rest := []) rfl rfl (am_ww.mono h ?_)
    rintro _ E9 I9 J9 S9 ⟨rfl, h⟩
    refine q_mkV ?_
    refine w_st (i' := 66) (ls' := [.ref 99]) (st' := [.ref 99]) (E' := E9) (I' := I9) (J' := J9) (S' := S9) am_e290 rfl rfl rfl rfl ?_
    refine w_st (i' := 67) (ls' := [.ref 99]) (st' := [.ref 127]) (E' := E9) (I' := I9) (J' := J9) (S' := S9) am_e290 rfl rfl rfl rfl ?_
    refine w_st (i' := 68) (ls' := [.ref 99]) (st' := [.ref 99, .ref 127]) (E' := E9) (I' := I9) (J' := J9) (S' := S9) am_e290 rfl rfl rfl rfl ?_
    refine w_st (i' := 69) (ls' := [.ref 99]) (st' := [.ref 143, .ref 127]) (E' := E9) (I' := I9) (J' := J9) (S' := S9) am_e290 rfl rfl rfl rfl ?_
    refine w_cV am_e290 rfl rfl (as := [.ref 127, .ref 143]) (rest := []) rfl rfl (am_ww.mono h ?_)
    rintro _ E10 I10 J10 S10 ⟨rfl, h⟩
    refine q_mkV ?_
    refine w_st (i' := 71) (ls' := [.ref 99]) (st' := [.ref 99]) (E' := E10) (I' := I10) (J' := J10) (S' := S10) am_e290 rfl rfl rfl rfl ?_
    refine w_st (i' := 72) (ls' := [.ref 99]) (st' := [.ref 110]) (E' := E10) (I' := I10) (J' := J10) (S' := S10) am_e290 rfl rfl rfl rfl ?_
    refine w_st (i' := 73) (ls' := [.ref 99]) (st' := [.ref 99, .ref 110]) (E' := E10) (I' := I10) (J' := J10) (S' := S10) am_e290 rfl rfl rfl rfl ?_
    refine w_st (i' := 74) (ls' := [.ref 99]) (st' := [.ref 144, .ref 110]) (E' := E10) (I' := I10) (J' := J10) (S' := S10) am_e290 rfl rfl rfl rfl ?_
    refine w_cV am_e290 rfl rfl (as := [.ref 110, .ref 144]) (rest := []) rfl rfl (am_ww.mono h ?_)
    rintro _ E11 I11 J11 S11 ⟨rfl, h⟩
    refine q_mkV ?_
    refine w_st (i' := 76) (ls' := [.ref 99]) (st' := [.int (nI 1)]) (E' := E11) (I' := I11) (J' := J11) (S' := S11) am_e290 rfl rfl rfl rfl ?_
    exact w_end am_e290 rfl rfl rfl h
  · replace h := h.1 (Decidable.not_not.mp (of_decide_eq_false c))
    refine w_st (i' := 7) (ls' := [.ref 99]) (st' := [.int (nI 0)]) (E' := E) (I' := (u_I I 99 (upd (I 99) 3 (nI 0)))) (J' := J) (S' := S) am_e290 rfl rfl rfl rfl ?_
    exact w_end am_e290 rfl rfl rfl h
