/-! the other instructions -/
section Steps3
variable {G : am_G} {p : Program} {l : Launch} {e : Env} {R : Room} {s : State} {m : MethodId} {args : Array Value} {below : List Frame} {meth : Method} {c : Code} {c0 z0 : Nat} {Q : State → Prop} {y i : Nat} {ls st : List Value} {σ : am_St}
theorem am_tau_6 {k : Nat} {t n : Nat} (h : am_tau k = (t, n)) (ht : t < 99) : k < 1000000 := by
  rcases Nat.lt_or_ge k 146 with q | q
  · omega
  · exfalso
    have e : am_tau k = (99, 0) := by
      unfold am_tau
      rw [List.getD_eq_getElem?_getD, List.getElem?_eq_none (by exact q)]
      rfl
    rw [e] at h
    have h9 := congrArg Prod.fst h
    dsimp only at h9
    omega
theorem am_s_anew (X : am_X G p l s m meth c y) {u : Nat} (hi : (am_code y)[i]? = some (.anewarray u)) {n : Int32} {r : List Value} {τ : am_St} (hn0 : ¬ n < 0) (hm : am_mk σ 4 n.toNatClampNeg n.toNatClampNeg = some τ)
    (hs0 : s.heap.size ≤ h_n G + c0) (hc0 : c0 ≤ g_C σ) (hz0 : z0 ≤ g_Z σ) (hRc : g_C τ - c0 ≤ R.cells) (hRs : g_Z τ - z0 ≤ R.slots) (k : am_V G p l e R s m args below meth c c0 z0 Q y (i + 1) ls (.ref (g_N σ) :: r) τ) : am_V G p l e R s m args below meth c c0 z0 Q y i ls (.int n :: r) σ := by
  obtain ⟨real, len, h, -, hd, hn, hk⟩ := am_fact X hi
  have hn1 := hn rfl
  clear hn
  unfold am_chkI at hk
  cases real with
  | anewarray idx =>
    simp only [Bool.and_eq_true, decide_eq_true_eq] at hk
    obtain ⟨rfl, hw⟩ := hk
    unfold am_mk at hm
    split at hm
    · rename_i hc
      cases hm
      obtain ⟨hNC, htau⟩ := hc
      intro H locs sl hH hS hL T hT XX
      have hsz := am_size X XX hT hH hS hs0 hc0 hNC
      suffices hW : W p l e R s m args below meth c H locs (g_C σ - c0) (g_Z σ - z0) Q (F0 m (am_pc y i) sl (.int n :: r.map (am_tr G))) from hW T hT XX
      clear XX hT
      have hN6 : g_N σ < 1000000 := am_tau_6 htau (by decide)
      have hle : n.toNatClampNeg ≤ 20451 := by have := am_tau_le (g_N σ); rw [htau] at this; exact this
      have hC : g_C (p_N σ n.toNatClampNeg) - c0 = g_C σ - c0 + 1 := by show g_C σ + 1 - c0 = _; omega
      have hZ : g_Z (p_N σ n.toNatClampNeg) - z0 = g_Z σ - z0 + n.toNatClampNeg := by show g_Z σ + n.toNatClampNeg - z0 = _; omega
      obtain ⟨kA0, comp0, -, -, -, hRA2⟩ := (X.2.2.2.2.1.2.1.2 4 _ rfl).2
      refine W.anew X.1 X.2.1 X.2.2.2.1 (am_w X hw rfl args) (am_wt X am_wao rfl args) rfl hd rfl hn0 (by omega) (by rw [← hC]; exact hRc) (by rw [← hZ]; exact hRs) fun cA kA comp f1 f2 f3 f4 => ?_
      cases Option.some.inj (hRA2.symm.trans f1)
      generalize hH1 : H.push ({ cls := h_c G 4, slots := Array.replicate n.toNatClampNeg .null, vm := .none } : Cell) = H1
      have z1 : H1.size = h_n G + g_N σ + 1 := by rw [← hH1, Array.size_push, hsz]
      have e1 : H1[h_n G + g_N σ]? = some (arrV (h_c G 4) n.toNatClampNeg (fun _ => .null)) := by rw [← hH1, ← hsz, Array.getElem?_push_size, ← arrV_new]
      have o1 : ∀ q : Nat, q < h_n G + g_N σ → H1[q]? = H[q]? := fun q hq => by rw [← hH1, Array.getElem?_push, if_neg (by omega)]
      have hH2 := am_alloc (n := n.toNatClampNeg) hH hsz z1 o1 (by rw [am_E_arr4 (by rw [htau]), g_S_N, htau]; exact e1.trans rfl)
      have hS1 : va_S (fun q => h_n G ≤ q) s.heap H1 locs := ⟨by have := hS.1; omega, fun q h1 h2 => (o1 q (by have := hS.1; omega)).trans (hS.2.1 q h1 h2), hS.2.2⟩
      have kk := k H1 locs sl hH2 hS1 hL
      rw [hn1, hC, hZ, List.map_cons, am_tr_obj hN6] at kk
      rw [hsz]
      exact kk
    · cases hm
  | _ => cases hk
theorem am_s_new (X : am_X G p l s m meth c y) {u : Nat} (hi : (am_code y)[i]? = some (.new u)) (hu : u < 13) {τ : am_St} (hm : am_mk σ (10 + u) 0 (am_nf u) = some τ)
    (hs0 : s.heap.size ≤ h_n G + c0) (hc0 : c0 ≤ g_C σ) (hz0 : z0 ≤ g_Z σ) (hRc : g_C τ - c0 ≤ R.cells) (hRs : g_Z τ - z0 ≤ R.slots) (k : am_V G p l e R s m args below meth c c0 z0 Q y (i + 1) ls (.ref (g_N σ) :: st) τ) : am_V G p l e R s m args below meth c c0 z0 Q y i ls st σ := by
  obtain ⟨real, len, h, -, hd, hn, hk⟩ := am_fact X hi
  have hn1 := hn rfl
  clear hn
  unfold am_chkI at hk
  cases real with
  | new idx =>
    simp only [Bool.and_eq_true, decide_eq_true_eq, if_pos hu] at hk
    obtain ⟨rfl, hw⟩ := hk
    unfold am_mk at hm
    split at hm
    · rename_i hc
      cases hm
      obtain ⟨hNC, htau⟩ := hc
      intro H locs sl hH hS hL T hT XX
      have hsz := am_size X XX hT hH hS hs0 hc0 hNC
      suffices hW : W p l e R s m args below meth c H locs (g_C σ - c0) (g_Z σ - z0) Q (F0 m (am_pc y i) sl (st.map (am_tr G))) from hW T hT XX
      clear XX hT
      have hN6 : g_N σ < 1000000 := am_tau_6 htau (by omega)
      have hC : g_C (p_N σ (am_nf u)) - c0 = g_C σ - c0 + 1 := by show g_C σ + 1 - c0 = _; omega
      have hZ : g_Z (p_N σ (am_nf u)) - z0 = g_Z σ - z0 + am_nf u := by show g_Z σ + am_nf u - z0 = _; omega
      obtain ⟨T0, hT0, hTw, hTn, hTy, hTo⟩ := am_cls_at hu
      have hKn := X.2.2.2.2.1.2.1.1 u _ hT0
      refine W.newcK (h := h_n G + g_N σ) X.1 X.2.1 X.2.2.2.1 (am_w X hw rfl args) (am_wt X (am_win hu).1 rfl args) (am_wt X (am_win hu).2 rfl args) rfl hd (by rw [← hC]; exact hRc) (by rw [← hZ]; exact hRs) hKn.2.1 hsz fun H1 kC hkC e1 z1 o1 => ?_
      have hborn := u_born (ws := u_ws (am_on u) T0 (am_nf u)) _ (fun w h => X.2.2.2.2.1.1 w (hTw w h) (am_lays_good w h) args) (fun _ h => h) hKn hkC e1 hTy
      have hH2 := am_alloc (n := am_nf u) hH hsz z1 o1 (by
        rw [am_E_obj (by rw [htau])]
        refine ⟨_, hT0, hborn.to fun j hj => ?_⟩
        have h1 : vp_V ((List.range (am_nf u)).map (am_fw G (p_N σ (am_nf u)) (g_N σ) u)) j = am_fw G (p_N σ (am_nf u)) (g_N σ) u j := by
          unfold vp_V
          rw [List.getD_eq_getElem?_getD, am_fld hj]
          rfl
        rw [h1]
        have hyk := am_yk hj
        unfold am_fw am_fwk
        rw [g_I_N, g_J_N, g_K_N, g_S_N]
        revert hyk
        generalize am_fk u j = d
        intro hyk
        unfold am_ykP at hyk
        split at hyk
        · rw [hyk]; rfl
        · rw [hyk]; rfl
        · rw [hyk]; rfl
        · rcases hyk with ⟨t, hyk⟩ | ⟨t, hyk⟩ <;> (rw [hyk]; rfl)
        · obtain ⟨t, hyk⟩ := hyk; rw [hyk]; rfl
        · cases hyk)
      have hS1 : va_S (fun q => h_n G ≤ q) s.heap H1 locs := ⟨by have := hS.1; omega, fun q h1 h2 => (o1 q (by have := hS.1; omega)).trans (hS.2.1 q h1 h2), hS.2.2⟩
      have kk := k H1 locs sl hH2 hS1 hL
      rw [hn1, hC, hZ, List.map_cons, am_tr_obj hN6] at kk
      exact kk
    · cases hm
  | _ => cases hk
theorem am_s_obj (X : am_X G p l s m meth c y) {z : Nat} (hi : (am_code y)[i]? = some (.invokespecial z)) (hz : ¬ z < 10000) {k : Nat} {r : List Value} (hk6 : k < 1000000) (hr : (r.map fun v => v.category).sum ≤ 8) (hRf : 1 ≤ R.frames) (hRl : 38 ≤ R.locals)
    (kk : am_V G p l e R s m args below meth c c0 z0 Q y (i + 1) ls r σ) : am_V G p l e R s m args below meth c c0 z0 Q y i ls (.ref k :: r) σ := by
  obtain ⟨real, len, h, -, hd, hn, hk⟩ := am_fact X hi
  have hn1 := hn rfl
  clear hn
  unfold am_chkI at hk
  cases real with
  | invokespecial idx =>
    simp only [Bool.and_eq_true, decide_eq_true_eq, if_neg hz] at hk
    obtain ⟨rfl, hw⟩ := hk
    intro H locs sl hH hS hL
    have kk := kk H locs sl hH hS hL
    rw [hn1] at kk
    rw [List.map_cons, am_tr_obj hk6]
    have hcat : (((r.map (am_tr G)).map fun v => v.category).sum) = (r.map fun v => v.category).sum := by
      rw [List.map_map]
      congr 1
      apply List.map_congr_left
      intro v _
      exact am_tr_cat X.2.2.2.2.1.2.2.2.2.2.2.2.2.2.2.2.1 v
    exact W.objInit X.1 X.2.1 X.2.2.2.1 (am_w X hw rfl args) (am_wt X am_wo1 rfl args) (am_wt X am_wo2 rfl args) rfl (hL.1.trans X.2.2.1.symm) rfl hd hRf (by rw [hcat]; show 2 * 0 + _ + 12 ≤ _; omega) kk
  | _ => cases hk
theorem am_sumcat {r : List Value} (hq : (h_q G).category = 1) : (((r.map (am_tr G)).map fun v => v.category).sum) = (r.map fun v => v.category).sum := by
  rw [List.map_map]
  congr 1
  apply List.map_congr_left
  intro v _
  exact am_tr_cat hq v
theorem am_s_max (X : am_X G p l s m meth c y) (hi : (am_code y)[i]? = some (.invokestatic 10001)) {x z : Int32} {r : List Value} (hr : (r.map fun v => v.category).sum ≤ 8) (hRf : 1 ≤ R.frames) (hRl : 38 ≤ R.locals) (hRc : g_C σ - c0 ≤ R.cells) (hRs : g_Z σ - z0 ≤ R.slots)
    (kk : am_V G p l e R s m args below meth c c0 z0 Q y (i + 1) ls (.int (if x < z then z else x) :: r) σ) : am_V G p l e R s m args below meth c c0 z0 Q y i ls (.int z :: .int x :: r) σ := by
  obtain ⟨real, len, h, -, hd, hn, hk⟩ := am_fact X hi
  have hn1 := hn rfl
  clear hn
  unfold am_chkI at hk
  cases real with
  | invokestatic idx =>
    simp only [Bool.and_eq_true, decide_eq_true_eq] at hk
    obtain ⟨rfl, hw⟩ := hk
    have hw : am_word h (.methodLink (am_on (am_own y)) idx Lib.Math.max.name) = true := hw
    intro H locs sl hH hS hL
    have kk := kk H locs sl hH hS hL
    rw [hn1] at kk
    exact va_mmax X.1 X.2.1 (X.2.2.1.trans hL.1.symm) X.2.2.2.1 (am_w X hw rfl args) (am_wt X am_wx1 rfl args) (am_wt X am_wm rfl args) (am_wt X am_wx2 rfl args) hRf (by rw [am_sumcat X.2.2.2.2.1.2.2.2.2.2.2.2.2.2.2.2.1]; omega) hRc hRs hd kk
  | _ => cases hk
theorem am_s_min (X : am_X G p l s m meth c y) (hi : (am_code y)[i]? = some (.invokestatic 10002)) {x z : Int32} {r : List Value} (hr : (r.map fun v => v.category).sum ≤ 8) (hRf : 1 ≤ R.frames) (hRl : 38 ≤ R.locals) (hRc : g_C σ - c0 ≤ R.cells) (hRs : g_Z σ - z0 ≤ R.slots)
    (kk : am_V G p l e R s m args below meth c c0 z0 Q y (i + 1) ls (.int (if z < x then z else x) :: r) σ) : am_V G p l e R s m args below meth c c0 z0 Q y i ls (.int z :: .int x :: r) σ := by
  obtain ⟨real, len, h, -, hd, hn, hk⟩ := am_fact X hi
  have hn1 := hn rfl
  clear hn
  unfold am_chkI at hk
  cases real with
  | invokestatic idx =>
    simp only [Bool.and_eq_true, decide_eq_true_eq] at hk
    obtain ⟨rfl, hw⟩ := hk
    have hw : am_word h (.methodLink (am_on (am_own y)) idx Lib.Math.min.name) = true := hw
    intro H locs sl hH hS hL
    have kk := kk H locs sl hH hS hL
    rw [hn1] at kk
    exact va_mmin X.1 X.2.1 (X.2.2.1.trans hL.1.symm) X.2.2.2.1 (am_w X hw rfl args) (am_wt X am_wn1 rfl args) (am_wt X am_wm rfl args) (am_wt X am_wn2 rfl args) hRf (by rw [am_sumcat X.2.2.2.2.1.2.2.2.2.2.2.2.2.2.2.2.1]; omega) hRc hRs hd kk
  | _ => cases hk
/-- what an object holds is another, at once -/
theorem am_setI {H1 : Heap} {H : Heap} {k : Nat} {f : Nat → Int32} (hH : am_H G σ H) (h1 : va_P (h_D G) am_cls ((am_ws G σ).set k (h_n G + k, am_E G (p_I σ k f) k)) H1) : am_H G (p_I σ k f) H1 := by
  refine ⟨hH.1, hH.2.1, hH.2.2.1, ?_⟩
  rw [am_ws_set (σ := σ) (σ' := p_I σ k f) rfl (fun j hj => am_E_I hj)] at h1
  exact h1
theorem am_setJ {H1 : Heap} {H : Heap} {k : Nat} {f : Nat → Int64} (hH : am_H G σ H) (h1 : va_P (h_D G) am_cls ((am_ws G σ).set k (h_n G + k, am_E G (p_J σ k f) k)) H1) : am_H G (p_J σ k f) H1 := by
  refine ⟨hH.1, hH.2.1, hH.2.2.1, ?_⟩
  rw [am_ws_set (σ := σ) (σ' := p_J σ k f) rfl (fun j hj => am_E_J hj)] at h1
  exact h1
theorem am_setS {H1 : Heap} {H : Heap} {k : Nat} {f : Nat → Option Nat} (hH : am_H G σ H) (h1 : va_P (h_D G) am_cls ((am_ws G σ).set k (h_n G + k, am_E G (p_S σ k f) k)) H1) : am_H G (p_S σ k f) H1 := by
  refine ⟨hH.1, hH.2.1, hH.2.2.1, ?_⟩
  rw [am_ws_set (σ := σ) (σ' := p_S σ k f) rfl (fun j hj => am_E_S hj)] at h1
  exact h1
theorem am_s_copy (X : am_X G p l s m meth c y) (hi : (am_code y)[i]? = some (.invokestatic 10003)) (hr : ((st.drop 5).map fun v => v.category).sum ≤ 8) (hRf : 1 ≤ R.frames) (hRl : 38 ≤ R.locals) {i' : Nat} {ls' st' : List Value} {σ' : am_St} (hs : am_copy i ls st σ = some (i', ls', st', σ'))
    (kk : am_V G p l e R s m args below meth c c0 z0 Q y i' ls' st' σ') : am_V G p l e R s m args below meth c c0 z0 Q y i ls st σ := by
  obtain ⟨real, len, h, -, hd, hn, hk⟩ := am_fact X hi
  have hn1 := hn rfl
  clear hn
  unfold am_chkI at hk
  cases real with
  | invokestatic idx =>
    simp only [Bool.and_eq_true, decide_eq_true_eq] at hk
    obtain ⟨rfl, hw⟩ := hk
    have hw : am_word h (.methodLink (am_on (am_own y)) idx arraycopyName) = true := hw
    unfold am_copy at hs
    split at hs
    · rename_i n dp a sp k r
      split at hs
      · rename_i hc
        simp only [am_ok, Bool.and_eq_true, decide_eq_true_eq, Bool.not_eq_true', decide_eq_false_iff_not] at hc
        obtain ⟨⟨⟨⟨⟨⟨⟨⟨hk6, ha6⟩, hk1, hk2⟩, ha1, ha2⟩, h1⟩, h2⟩, h3⟩, h4⟩, h5⟩ := hc
        cases hs
        intro H locs sl hH hS hL
        have e1 := am_ws_get (G := G) hk1
        have e2 := am_ws_get (G := G) ha1
        rw [am_E_arr hk2] at e1
        rw [am_E_arr ha2] at e2
        simp only [List.map_cons]
        rw [am_tr_obj hk6, am_tr_obj ha6]
        refine va_copyi (ty := .int) X.1 X.2.1 (X.2.2.1.trans hL.1.symm) X.2.2.2.1 (am_w X hw rfl args) (am_wt X am_wc1 rfl args) (am_wt X am_wc2 rfl args) (am_wt X am_wsy rfl args) X.2.2.2.2.1.2.1 hH.2.2.2 am_ws_D hS k a 0 0 e1 e2 rfl rfl rfl h1 h2 h3 h4 h5 (fun _ _ => rfl) hRf ?_ hd (fun H1 locs1 hP1 _ hS1 => ?_)
        · rw [am_sumcat X.2.2.2.2.1.2.2.2.2.2.2.2.2.2.2.2.1]
          simp only [List.drop_succ_cons, List.drop_zero] at hr
          have : nativeFrameWords "java/lang/System" "arraycopy" 5 = 7 := by decide
          omega
        · have hP2 : va_P (h_D G) am_cls ((am_ws G σ).set a (h_n G + a, am_E G (p_I σ a (va_cpy (g_I σ k) (g_I σ a) sp.toNatClampNeg dp.toNatClampNeg n.toNatClampNeg)) a)) H1 := by
            rw [am_E_arr ha2, g_I_same]; exact hP1
          have kk := kk H1 locs1 sl (am_setI hH hP2) hS1 hL
          rw [hn1] at kk
          exact kk
      · cases hs
    · cases hs
  | _ => cases hk
theorem am_s_len (X : am_X G p l s m meth c y) (hi : (am_code y)[i]? = some .arraylength) {i' : Nat} {ls' st' : List Value} {σ' : am_St} (hs : am_len i ls st σ = some (i', ls', st', σ'))
    (kk : am_V G p l e R s m args below meth c c0 z0 Q y i' ls' st' σ') : am_V G p l e R s m args below meth c c0 z0 Q y i ls st σ := by
  obtain ⟨real, len, h, -, hd, hn, hk⟩ := am_fact X hi
  simp only [am_chkI, Bool.and_eq_true, decide_eq_true_eq] at hk
  obtain ⟨rfl, rfl⟩ := hk
  have hn1 := hn rfl
  clear hn
  unfold am_len at hs
  split at hs
  · rename_i k r
    split at hs
    · rename_i hk6
      split at hs
      · rename_i hc
        simp only [am_ok, Bool.and_eq_true, decide_eq_true_eq, and_true] at hc
        cases hs
        intro H locs sl hH hS hL
        have kk := kk H locs sl hH hS hL
        rw [hn1, List.map_cons] at kk
        have e1 := am_ws_get (G := G) hc.1
        rw [List.map_cons, am_tr_obj hk6]
        have h5 : (am_tau k).1 = 0 ∨ (am_tau k).1 = 1 ∨ (am_tau k).1 = 2 ∨ (am_tau k).1 = 3 ∨ (am_tau k).1 = 4 := by have := hc.2; omega
        rcases h5 with h | h | h | h | h
        · rw [am_E_arr h] at e1
          exact va_alen X.1 X.2.1 X.2.2.2.2.1.2.1 hH.2.2.2 k 0 e1 rfl rfl hd kk
        · rw [am_E_arr1 h] at e1
          exact va_alen X.1 X.2.1 X.2.2.2.2.1.2.1 hH.2.2.2 k 1 e1 rfl rfl hd kk
        · rw [am_E_arr2 h] at e1
          exact va_alen X.1 X.2.1 X.2.2.2.2.1.2.1 hH.2.2.2 k 2 e1 rfl rfl hd kk
        · rw [am_E_arr3 h] at e1
          exact va_alen X.1 X.2.1 X.2.2.2.2.1.2.1 hH.2.2.2 k 3 e1 rfl rfl hd kk
        · rw [am_E_arr4 h] at e1
          exact va_alen X.1 X.2.1 X.2.2.2.2.1.2.1 hH.2.2.2 k 4 e1 rfl rfl hd kk
      · cases hs
    · split at hs
      · rename_i hk
        cases hs
        subst hk
        intro H locs sl hH hS hL
        have kk := kk H locs sl hH hS hL
        rw [hn1, List.map_cons, hH.2.1] at kk
        rw [List.map_cons, am_tr_scr]
        have hB := X.2.2.2.2.1.2.2.2.2.2.2.2.2
        exact va_slen X.1 X.2.1 hB.1 (by rw [hB.2.2.1]; exact hB.2.1) (Nat.not_le.mpr hB.2.1) (am_S0 X hS) hd kk
      · split at hs
        · rename_i ha
          cases hs
          obtain ⟨b, hb0⟩ := Nat.exists_eq_add_of_le ha.1
          subst hb0
          have hb : b < 55 := by have h2 : 3000000 + b < 3000055 := ha.2; omega
          rw [Nat.add_sub_cancel_left] at kk
          intro H locs sl hH hS hL
          have kk := kk H locs sl hH hS hL
          rw [hn1, List.map_cons] at kk
          rw [List.map_cons, am_tr_byt hb]
          exact va_tlen X.1 X.2.1 (am_strT X hb).2.2.2 hS rfl hd kk
        · cases hs
  · cases hs
end Steps3
