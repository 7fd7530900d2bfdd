/-! the abstract machine is sound -/
theorem am_cL_len : am_cL.length = 292 := by decide +kernel
theorem am_code_lt {y i : Nat} {ins : Instr} (h : (am_code y)[i]? = some ins) : y < 292 := by
  rcases Nat.lt_or_ge y 292 with q | q
  · exact q
  · exfalso
    have : am_code y = [] := by
      unfold am_code
      rw [List.getD_eq_getElem?_getD, List.getElem?_eq_none (by rw [am_cL_len]; exact q)]
      rfl
    rw [this] at h
    simp at h
theorem am_callee_lt {G : am_G} {p : Program} {l : Launch} {s : State} {m : MethodId} {meth : Method} {c : Code} {y i : Nat} (X : am_X G p l s m meth c y) {ins : Instr} (hi : (am_code y)[i]? = some ins) {z : Nat} (htg : am_tgt ins = some z) : z < 291 := by
  obtain ⟨real, len, h, -, hd, hn, hk⟩ := am_fact X hi
  cases ins with
  | invokevirtual z' =>
    cases htg
    unfold am_chkI at hk
    cases real with
    | invokevirtual idx =>
      simp only [Bool.and_eq_true, am_zV, decide_eq_true_eq] at hk
      exact hk.2.2
    | _ => cases hk
  | invokestatic z' =>
    have htg : (if z' < 10000 then some z' else none) = some z := htg
    split at htg
    · rename_i h9
      cases htg
      unfold am_chkI at hk
      cases real with
      | invokestatic idx =>
        simp only [Bool.and_eq_true, if_pos h9, am_zS, decide_eq_true_eq] at hk
        exact hk.2.2.2
      | _ => cases hk
    · cases htg
  | invokespecial z' =>
    have htg : (if z' < 10000 then some z' else none) = some z := htg
    split at htg
    · rename_i h9
      cases htg
      unfold am_chkI at hk
      cases real with
      | invokespecial idx =>
        simp only [Bool.and_eq_true, if_pos h9, am_zI, decide_eq_true_eq] at hk
        exact hk.2.2.2
      | _ => cases hk
    · cases htg
  | _ => cases htg
theorem am_hrow_rk {y : Nat} {q : Nat × Nat × Nat × Nat} {r : Nat × Nat} (h : am_hrow y q r = true) : am_rk y = 1 := by
  unfold am_hrow at h
  simp only [Bool.and_eq_true, decide_eq_true_eq] at h
  obtain ⟨⟨⟨h1, -⟩, -⟩, -⟩ := h
  obtain ⟨j, -, hj⟩ := List.any_eq_true.mp h1
  simp only [Bool.and_eq_true, decide_eq_true_eq] at hj
  have hj := hj.2
  split at hj
  · simp only [Bool.and_eq_true, decide_eq_true_eq] at hj
    exact hj.2
  · cases hj
theorem am_hok_rk {y e' k : Nat} (h : am_hok y = true) (hk : am_hd y e' = some k) : am_rk y = 1 := by
  unfold am_hok at h
  unfold am_hd at hk
  split at h
  · rename_i h2
    rw [h2] at hk
    cases hk
  · simp only [Bool.and_eq_true] at h
    exact am_hrow_rk h.2
  · simp only [Bool.and_eq_true] at h
    exact am_hrow_rk h.1.1.1.2
  · cases h
theorem am_hok_ne {y e' k : Nat} (h : am_hok y = true) (hk : am_hd y e' = some k) : am_hh y ≠ [] := by
  unfold am_hok at h
  unfold am_hd at hk
  split at h
  · rename_i h2
    rw [h2] at hk
    cases hk
  · rename_i h1 h2
    rw [h1]
    exact List.cons_ne_nil _ _
  · rename_i h1 h2
    rw [h1]
    exact List.cons_ne_nil _ _
  · cases h
set_option maxHeartbeats 4000000 in
theorem am_sound {G : am_G} {l : Launch} (hall : am_All) (hlt : l.stackTraces = false) : ∀ n, am_Snd G l n := by
  intro n
  induction n with
  | zero => intro y i ls st σ r σ' h; cases h
  | succ n IH =>
    intro y i ls st σ r σ' h p e R s m args below meth c c0 z0 Q X hok htab hRf hRl hs0 hc0 hz0 hRc hRs Eret Ethr Eown
    have h0 := h
    unfold am_run at h
    split at h
    · cases h
    · rename_i ins hi
      split at h
      · rename_i z htg
        split at h
        · rename_i hcond
          obtain ⟨hna, hnd, hcat, hrcv, hlay⟩ := hcond
          have hz := am_callee_lt X hi htg
          have hst : st = (st.take (am_na z)).reverse.reverse ++ st.drop (am_na z) := by rw [List.reverse_reverse, List.take_append_drop]
          have hnaL : (st.take (am_na z)).reverse.length = am_na z := by rw [List.length_reverse, List.length_take]; omega
          split at h
          · cases h
          · rename_i v σ1 h1
            have hM := am_met_of hall hlt IH hz hlay h1
            have m1 := am_run_mono h1
            have m2 := am_run_mono h
            refine am_call X hi htg hst hnaL hnd hcat hrcv (hall z hz).1 hM hRf hRl hs0 hc0 hz0 m1.1 m1.2.1 (by omega) (by omega) (fun v' hv' => ?_) (fun e' he' => by cases he')
            cases hv'
            exact IH y (i + 1) ls _ σ1 r σ' h p e R s m args below meth c c0 z0 Q X hok htab hRf hRl hs0 (by omega) (by omega) hRc hRs Eret Ethr Eown
          · rename_i e1 σ1 h1
            have hM := am_met_of hall hlt IH hz hlay h1
            have m1 := am_run_mono h1
            split at h
            · rename_i k hk
              cases h
              refine am_call X hi htg hst hnaL hnd hcat hrcv (hall z hz).1 hM hRf hRl hs0 hc0 hz0 m1.1 m1.2.1 hRc hRs (fun v' hv' => by cases hv') (fun e' he' => ?_)
              cases he'
              intro H locs sl q ce hH hS hL hce hv hcl
              refine am_catch X hok (htab (am_hok_ne hok hk)) hk hi htg hH hS hL hce hv hcl (fun j ls' hj => ?_)
              refine Eret _ rfl j ls' ⟨.ireturn, hj, rfl, ?_⟩
              have hrk : am_rk y = 1 := am_hok_rk hok hk
              show (if 1 ≤ am_rk y ∧ am_rk y ≤ 4 ∧ narrow (am_rty (am_rk y)) (.int (nI k)) = .int (nI k) then some (Sum.inl (some (Value.int (nI k))), _) else none) = _
              rw [hrk, if_pos ⟨Nat.le_refl _, by omega, rfl⟩]
            · split at h
              · rename_i hemp
                cases h
                refine am_call X hi htg hst hnaL hnd hcat hrcv (hall z hz).1 hM hRf hRl hs0 hc0 hz0 m1.1 m1.2.1 hRc hRs (fun v' hv' => by cases hv') (fun e' he' => ?_)
                cases he'
                intro H locs sl q ce hH hS hL hce hv hcl
                exact Ethr _ rfl hemp H locs sl _ _ q ce hH hS hce hv hcl
              · cases h
        · cases h
      · rename_i htg
        split at h
        · rename_i x hx
          cases h
          have hend := hx
          unfold am_end at hx
          split at hx
          · split at hx
            · split at hx
              · cases hx
                exact Eret _ rfl i ls ⟨_, hi, htg, hend⟩
              · cases hx
            · cases hx
          · split at hx
            · split at hx
              · cases hx
                exact Eret _ rfl i ls ⟨_, hi, htg, hend⟩
              · cases hx
            · cases hx
          · split at hx
            · split at hx
              · cases hx
                exact Eret _ rfl i ls ⟨_, hi, htg, hend⟩
              · cases hx
            · cases hx
          · rename_i k
            split at hx
            · rename_i hc
              cases hx
              obtain ⟨b, hb⟩ := Nat.exists_eq_add_of_le hc.1
              subst hb
              rw [Nat.add_sub_cancel_left] at *
              exact Eown b i st ls σ rfl rfl hi (by omega) hc.2.2.1 hc.2.2.2 hc0 hz0
            · cases hx
          · cases hx
        · split at h
          · cases h
          · rename_i i' ls' st' σ1 hs
            have m1 := (am_chg_st hs).mono
            have m2 := am_run_mono h
            refine am_s_all X hi htg hs hs0 hc0 hz0 (by omega) (by omega) (by omega) (by omega) ?_
            exact IH y i' ls' st' σ1 r σ' h p e R s m args below meth c c0 z0 Q X hok htab hRf hRl hs0 (by omega) (by omega) hRc hRs Eret Ethr Eown
