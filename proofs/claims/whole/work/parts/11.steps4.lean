/-! stores into arrays, statics, Strings; all instructions together -/
section Steps4
variable {G : am_G} {p : Program} {l : Launch} {e : Env} {R : Room} {s : State} {m : MethodId} {args : Array Value} {below : List Frame} {meth : Method} {c : Code} {c0 z0 : Nat} {Q : State → Prop} {y i : Nat} {ls st : List Value} {σ : am_St}
/-- a String constant may stand in an array of Strings -/
theorem am_strAny {H : Heap} {locs : List Loc} (X : am_X G p l s m meth c y) (hS : va_S (fun q => h_n G ≤ q) s.heap H locs) {b : Nat} (hb : b < 55) : va_Any "java/lang/String" s H (h_d G b) := by
  obtain ⟨cell, h1, h2, h3, h4⟩ := (am_strT X hb).1
  have hlt : h_d G b < s.heap.size := (Array.getElem?_eq_some_iff.mp h1).1
  obtain ⟨kC, hk, -⟩ := Vm.findClass_spec h3
  refine ⟨cell, (hS.2.1 _ hlt h4).trans h1, h2, ⟨kC, hk⟩, fun comp hc => ?_⟩
  cases Option.some.inj (h3.symm.trans hc)
  exact va_asg _ _
theorem am_s_ast (X : am_X G p l s m meth c y) {ins : Instr} (hi : (am_code y)[i]? = some ins) (hins : ins = .iastore ∨ ins = .lastore ∨ ins = .bastore ∨ ins = .aastore) {i' : Nat} {ls' st' : List Value} {σ' : am_St} (hs : am_ast ins i ls st σ = some (i', ls', st', σ'))
    (k : am_V G p l e R s m args below meth c c0 z0 Q y i' ls' st' σ') : am_V G p l e R s m args below meth c c0 z0 Q y i ls st σ := by
  obtain ⟨real, len, h, -, hd, hn, hk⟩ := am_fact X hi
  have hrl : real = ins ∧ len = 1 := by rcases hins with rfl | rfl | rfl | rfl <;> simpa [am_chkI] using hk
  obtain ⟨rfl, rfl⟩ := hrl
  have hn1 := hn (by rcases hins with rfl | rfl | rfl | rfl <;> rfl)
  clear hn hk
  unfold am_ast at hs
  split at hs
  · rename_i v j a r
    split at hs
    · rename_i ha
      split at hs
      · rename_i hc
        simp only [am_ok, Bool.and_eq_true, decide_eq_true_eq, Bool.not_eq_true', and_true] at hc
        obtain ⟨⟨hc1, hc2⟩, hc3⟩ := hc
        obtain ⟨τ, hv, he⟩ := Option.map_eq_some_iff.mp hs
        cases he
        intro H locs sl hH hS hL
        have k := fun H1 locs1 a b => k H1 locs1 sl a b hL
        rw [hn1] at k
        simp only [List.map_cons]
        rw [am_tr_obj ha]
        have hw := am_ws_get (G := G) hc1
        have hin := am_in hc3
        unfold am_es at hv
        rcases hins with rfl | rfl | rfl | rfl
        · have e0 : (am_tau a).1 = 0 := by simpa [am_fit] using hc2
          rw [am_E_arr e0] at hw
          simp only [e0] at hv
          split at hv
          · cases hv
            refine va_iast X.1 X.2.1 X.2.2.2.2.1.2.1 hH.2.2.2 am_ws_D hS a 0 hw rfl hin hd (fun H1 locs1 hP1 _ hS1 => ?_)
            exact k H1 locs1 (am_setI hH (by rw [am_E_arr e0, g_I_same]; exact hP1)) hS1
          · cases hv
        · have e0 : (am_tau a).1 = 1 := by simpa [am_fit] using hc2
          rw [am_E_arr1 e0] at hw
          simp only [e0] at hv
          split at hv
          · cases hv
            refine va_last X.1 X.2.1 X.2.2.2.2.1.2.1 hH.2.2.2 am_ws_D hS a 1 hw rfl hin hd (fun H1 locs1 hP1 _ hS1 => ?_)
            exact k H1 locs1 (am_setJ hH (by rw [am_E_arr1 e0, g_J_same]; exact hP1)) hS1
          · cases hv
        · have e0 : (am_tau a).1 = 2 ∨ (am_tau a).1 = 3 := by simpa [am_fit] using hc2
          rcases e0 with e0 | e0
          · rw [am_E_arr2 e0] at hw
            simp only [e0] at hv
            split at hv
            · cases hv
              refine va_bast X.1 X.2.1 X.2.2.2.2.1.2.1 hH.2.2.2 am_ws_D hS a 2 hw rfl hin hd (fun H1 locs1 hP1 _ hS1 => ?_)
              exact k H1 locs1 (am_setI hH (by rw [am_E_arr2 e0, g_I_same]; exact hP1)) hS1
            · cases hv
          · rw [am_E_arr3 e0] at hw
            simp only [e0] at hv
            split at hv
            · cases hv
              refine va_zast X.1 X.2.1 X.2.2.2.2.1.2.1 hH.2.2.2 am_ws_D hS a 3 hw rfl hin hd (fun H1 locs1 hP1 _ hS1 => ?_)
              exact k H1 locs1 (am_setI hH (by rw [am_E_arr3 e0, g_I_same]; exact hP1)) hS1
            · cases hv
        · have e0 : (am_tau a).1 = 4 := by simpa [am_fit] using hc2
          rw [am_E_arr4 e0] at hw
          simp only [e0] at hv
          split at hv
          · split at hv
            · rename_i q hq
              cases hv
              obtain ⟨b, hb0⟩ := Nat.exists_eq_add_of_le hq.1
              subst hb0
              have hb : b < 55 := by have h2 : 2000000 + b < 2000055 := hq.2; omega
              rw [Nat.add_sub_cancel_left] at k
              rw [am_tr_str hb]
              refine va_astqM X.1 X.2.1 X.2.2.2.2.1.2.1 hH.2.2.2 am_ws_D hS a 4 hw rfl (am_strAny X hS hb) hin hd (fun H1 locs1 hP1 _ hS1 => ?_)
              refine k H1 locs1 (am_setS hH ?_) hS1
              rw [am_E_arr4 e0, g_S_same]
              have e9 : (fun z => Option.map (h_d G) (am_upO (g_S σ a) j.toNatClampNeg (some b) z)) = va_up (fun z => Option.map (h_d G) (g_S σ a z)) j.toNatClampNeg (some (h_d G b)) := by
                funext z
                unfold am_upO va_up
                split <;> rfl
              rw [e9]
              exact hP1
            · cases hv
          · cases hv
      · cases hs
    · cases hs
  · cases hs
theorem am_s_static (X : am_X G p l s m meth c y) {n : Nat} (hi : (am_code y)[i]? = some (.getstatic n)) {i' : Nat} {ls' st' : List Value} {σ' : am_St} (hs : am_step (.getstatic n) i ls st σ = some (i', ls', st', σ'))
    (k : am_V G p l e R s m args below meth c c0 z0 Q y i' ls' st' σ') : am_V G p l e R s m args below meth c c0 z0 Q y i ls st σ := by
  obtain ⟨real, len, h, -, hd, hn, hk⟩ := am_fact X hi
  have hn1 := hn rfl
  clear hn
  have hnH : (h_H G).size = h_n G := X.2.2.2.2.1.2.2.2.2.2.2.2.2.2.2.1
  have hkeep : ∀ a : Nat, a < (h_H G).size → ¬ h_n G ≤ a → s.heap[a]? = (h_H G)[a]? := fun a h1 _ => X.2.2.2.2.2.2.2.2.2.1 a (by rw [← hnH]; exact h1)
  unfold am_chkI at hk
  cases real with
  | getstatic idx =>
    simp only [Bool.and_eq_true, decide_eq_true_eq] at hk
    obtain ⟨⟨rfl, hn2⟩, hw⟩ := hk
    simp only [am_step] at hs
    split at hs
    · rename_i h0
      subst h0
      cases hs
      intro H locs sl hH hS hL
      have k := k H locs sl hH hS hL
      rw [hn1, List.map_cons] at k
      exact va_gets X.1 X.2.1 (va_Z.kept X.2.2.2.2.1.2.2.2.2.1 hkeep) hS X.2.2.2.1 (am_w X hw rfl args) (fun _ h => h) hd k
    · split at hs
      · rename_i h0
        subst h0
        cases hs
        intro H locs sl hH hS hL
        have k := k H locs sl hH hS hL
        rw [hn1, List.map_cons] at k
        have e4 : am_tr G (.ref 4000000) = h_q G := rfl
        rw [e4] at k
        exact va_gets X.1 X.2.1 (va_Z.kept X.2.2.2.2.1.2.2.2.2.2.1 hkeep) hS X.2.2.2.1 (am_w X hw rfl args) (fun _ h => h) hd k
      · cases hs
  | _ => cases hk
theorem am_s_getf (X : am_X G p l s m meth c y) {n : Nat} (hi : (am_code y)[i]? = some (.getfield n)) {i' : Nat} {ls' st' : List Value} {σ' : am_St} (hs : am_get n i ls st σ = some (i', ls', st', σ'))
    (k : am_V G p l e R s m args below meth c c0 z0 Q y i' ls' st' σ') : am_V G p l e R s m args below meth c c0 z0 Q y i ls st σ := by
  unfold am_get at hs
  split at hs
  · rename_i a r
    split at hs
    · rename_i hn9
      split at hs
      · rename_i hc
        simp only [am_ok, Bool.and_eq_true, decide_eq_true_eq] at hc
        obtain ⟨⟨⟨ha6, ha1, ha2⟩, hf⟩, hkd⟩ := hc
        obtain ⟨v, hv, he⟩ := Option.map_eq_some_iff.mp hs
        cases he
        exact am_s_get X hi ha6 ha1 ha2 hf hn9 hkd hv k
      · cases hs
    · split at hs
      · rename_i ha
        obtain ⟨b, hb0⟩ := Nat.exists_eq_add_of_le ha.1
        subst hb0
        have hb : b < 55 := by have h2 : 2000000 + b < 2000055 := ha.2; omega
        obtain ⟨real, len, h, -, hd, hn, hk⟩ := am_fact X hi
        have hn1 := hn rfl
        clear hn
        unfold am_chkI at hk
        cases real with
        | getfield idx =>
          simp only [Bool.and_eq_true, decide_eq_true_eq] at hk
          obtain ⟨rfl, hw⟩ := hk
          split at hs
          · rename_i h0
            subst h0
            cases hs
            intro H locs sl hH hS hL
            have k := k H locs sl hH hS hL
            have e2 : 2000000 + b + 1000000 = 3000000 + b := by omega
            rw [hn1, List.map_cons, e2, am_tr_byt hb] at k
            rw [List.map_cons, am_tr_str hb]
            exact vk_getf X.1 X.2.1 (am_strT X hb).2.2.1 hS X.2.2.2.1 (am_w X hw rfl args) (fun _ h => h) hd k
          · split at hs
            · rename_i h0
              subst h0
              cases hs
              intro H locs sl hH hS hL
              have k := k H locs sl hH hS hL
              rw [hn1, List.map_cons] at k
              rw [List.map_cons, am_tr_str hb]
              exact vk_getf X.1 X.2.1 (am_strT X hb).2.1 hS X.2.2.2.1 (am_w X hw rfl args) (fun _ h => h) hd k
            · cases hs
        | _ => cases hk
      · cases hs
  · cases hs
theorem am_s_putf (X : am_X G p l s m meth c y) {n : Nat} (hi : (am_code y)[i]? = some (.putfield n)) {i' : Nat} {ls' st' : List Value} {σ' : am_St} (hs : am_put n i ls st σ = some (i', ls', st', σ'))
    (k : am_V G p l e R s m args below meth c c0 z0 Q y i' ls' st' σ') : am_V G p l e R s m args below meth c c0 z0 Q y i ls st σ := by
  unfold am_put at hs
  split at hs
  · rename_i v a r
    split at hs
    · rename_i hc
      simp only [am_ok, Bool.and_eq_true, decide_eq_true_eq] at hc
      obtain ⟨⟨⟨ha6, ha1, ha2⟩, hf⟩, hkd⟩ := hc
      obtain ⟨τ, hv, he⟩ := Option.map_eq_some_iff.mp hs
      cases he
      exact am_s_put X hi ha6 ha1 ha2 hf hkd hv k
    · cases hs
  · cases hs
end Steps4
