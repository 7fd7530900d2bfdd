theorem am_wa_int : Cond.arrayClass .int ∈ lw_tbl := List.mem_of_getElem? (i := 207) (by decide +kernel)
theorem am_wa_long : Cond.arrayClass .long ∈ lw_tbl := List.mem_of_getElem? (i := 273) (by decide +kernel)
theorem am_wa_byte : Cond.arrayClass .byte ∈ lw_tbl := List.mem_of_getElem? (i := 206) (by decide +kernel)
theorem am_wa_boolean : Cond.arrayClass .boolean ∈ lw_tbl := List.mem_of_getElem? (i := 1716) (by decide +kernel)
theorem am_wao : Cond.arrayOver (.object "java/lang/String") ∈ lw_tbl := List.mem_of_getElem? (i := 1468) (by decide +kernel)
theorem am_wo1 : Cond.instanceMethod Lib.objectInit ∈ lw_tbl := List.mem_of_getElem? (i := 155) (by decide +kernel)
theorem am_wo2 : Cond.code Lib.objectInit ⟨#[0xb1]⟩ 1 none ∈ lw_tbl := List.mem_of_getElem? (i := 156) (by decide +kernel)
theorem am_wx1 : Cond.static Lib.Math.max.name ∈ lw_tbl := List.mem_of_getElem? (i := 743) (by decide +kernel)
theorem am_wx2 : Cond.code Lib.Math.max.name Lib.Math.max.code 2 (some .int) ∈ lw_tbl := List.mem_of_getElem? (i := 744) (by decide +kernel)
theorem am_wn1 : Cond.static Lib.Math.min.name ∈ lw_tbl := List.mem_of_getElem? (i := 793) (by decide +kernel)
theorem am_wn2 : Cond.code Lib.Math.min.name Lib.Math.min.code 2 (some .int) ∈ lw_tbl := List.mem_of_getElem? (i := 794) (by decide +kernel)
theorem am_wm : Cond.initialized "java/lang/Math" ∈ lw_tbl := List.mem_of_getElem? (i := 145) (by decide +kernel)
theorem am_wsy : Cond.initialized "java/lang/System" ∈ lw_tbl := List.mem_of_getElem? (i := 135) (by decide +kernel)
theorem am_wc1 : Cond.native arraycopyName ∈ lw_tbl := List.mem_of_getElem? (i := 599) (by decide +kernel)
theorem am_wc2 : Cond.static arraycopyName ∈ lw_tbl := List.mem_of_getElem? (i := 598) (by decide +kernel)
theorem am_winq : ((List.range 13).all fun c => decide (lw_tbl[([150, 158, 164, 277, 283, 289, 366, 461, 497, 512, 522, 560, 1462] : List Nat).getD c 0]? = some (.instantiable (am_on c) (am_nf c))) && decide (lw_tbl[([122, 123, 124, 125, 126, 127, 128, 129, 130, 131, 132, 133, 136] : List Nat).getD c 0]? = some (.initialized (am_on c)))) = true := by decide +kernel
theorem am_win {c : Nat} (hc : c < 13) : Cond.instantiable (am_on c) (am_nf c) ∈ lw_tbl ∧ Cond.initialized (am_on c) ∈ lw_tbl := by
  have h := List.all_eq_true.mp am_winq c (List.mem_range.mpr hc)
  simp only [Bool.and_eq_true, decide_eq_true_eq] at h
  exact ⟨List.mem_of_getElem? h.1, List.mem_of_getElem? h.2⟩
theorem am_tau_leq : (am_tauL.all fun q => decide (q.2 ≤ 20451)) = true := by decide +kernel
theorem am_tau_le (k : Nat) : (am_tau k).2 ≤ 20451 := by
  unfold am_tau
  rw [List.getD_eq_getElem?_getD]
  cases h : am_tauL[k]? with
  | none => simp
  | some q =>
    have := List.all_eq_true.mp am_tau_leq q (List.mem_of_getElem? h)
    simpa using this
/-- behind an object more -/
theorem am_E_N {G : am_G} {σ : am_St} {n j : Nat} (h : j ≠ g_N σ) : am_E G (p_N σ n) j = am_E G σ j := by
  have e1 : g_I (p_N σ n) j = g_I σ j := by show (if j = g_N σ then (fun _ => 0) else g_I σ j) = _; rw [if_neg h]
  have e2 : g_J (p_N σ n) j = g_J σ j := by show (if j = g_N σ then (fun _ => 0) else g_J σ j) = _; rw [if_neg h]
  have e3 : g_K (p_N σ n) j = g_K σ j := by show (if j = g_N σ then (fun _ => none) else g_K σ j) = _; rw [if_neg h]
  have e4 : g_S (p_N σ n) j = g_S σ j := by show (if j = g_N σ then (fun _ => none) else g_S σ j) = _; rw [if_neg h]
  have e5 : ∀ c f, am_fw G (p_N σ n) j c f = am_fw G σ j c f := by
    intro c f
    unfold am_fw am_fwk
    rw [e1, e2, e3, e4]
  unfold am_E
  rw [e1, e2, e4]
  simp only [funext (e5 _)]
theorem g_I_N {σ : am_St} {n : Nat} : g_I (p_N σ n) (g_N σ) = fun _ => 0 := by show (if g_N σ = g_N σ then (fun _ => 0) else g_I σ (g_N σ)) = _; rw [if_pos rfl]
theorem g_J_N {σ : am_St} {n : Nat} : g_J (p_N σ n) (g_N σ) = fun _ => 0 := by show (if g_N σ = g_N σ then (fun _ => 0) else g_J σ (g_N σ)) = _; rw [if_pos rfl]
theorem g_K_N {σ : am_St} {n : Nat} : g_K (p_N σ n) (g_N σ) = fun _ => none := by show (if g_N σ = g_N σ then (fun _ => none) else g_K σ (g_N σ)) = _; rw [if_pos rfl]
theorem g_S_N {σ : am_St} {n : Nat} : g_S (p_N σ n) (g_N σ) = fun _ => none := by show (if g_N σ = g_N σ then (fun _ => none) else g_S σ (g_N σ)) = _; rw [if_pos rfl]
theorem am_alloc {G : am_G} {σ : am_St} {n : Nat} {H H1 : Heap} (hH : am_H G σ H) (hsz : H.size = h_n G + g_N σ) (hz : H1.size = h_n G + g_N σ + 1) (ho : ∀ q, q < h_n G + g_N σ → H1[q]? = H[q]?) (he : va_at (h_D G) am_cls (h_n G + g_N σ, am_E G (p_N σ n) (g_N σ)) H1) : am_H G (p_N σ n) H1 := by
  refine ⟨Nat.succ_le_succ hH.1, hH.2.1, hH.2.2.1, fun k q hk => ?_⟩
  by_cases hkN : k < g_N σ
  · rw [am_ws_get (show k < g_N (p_N σ n) from Nat.lt_succ_of_lt hkN)] at hk
    cases hk
    rw [am_E_N (Nat.ne_of_lt hkN)]
    exact (hH.2.2.2 k _ (am_ws_get hkN)).kept (ho _ (Nat.add_lt_add_left hkN _))
  · have hlt : k < g_N σ + 1 := by
      have := (List.getElem?_eq_some_iff.mp hk).1
      have h2 : k < g_N (p_N σ n) := by simpa [am_ws] using this
      exact h2
    have e : k = g_N σ := by omega
    subst e
    rw [am_ws_get (show g_N σ < g_N (p_N σ n) from Nat.lt_succ_self _)] at hk
    cases hk
    exact he
section Steps2
variable {G : am_G} {p : Program} {l : Launch} {e : Env} {R : Room} {s : State} {m : MethodId} {args : Array Value} {below : List Frame} {meth : Method} {c : Code} {c0 z0 : Nat} {Q : State → Prop} {y i : Nat} {ls st : List Value} {σ : am_St}
theorem am_wt (X : am_X G p l s m meth c y) {w : Cond} (hw : w ∈ lw_tbl) (hg : am_lw w = true) (a : Array Value) : w.before a s = true := X.2.2.2.2.1.1 w hw hg a
/-- the heap's size while nothing but the table's objects was made -/
theorem am_size {T : State} {locs : List Loc} {H : Heap} (X : am_X G p l s m meth c y) (XX : Stand p l e R s m args below meth c T locs (g_C σ - c0) (g_Z σ - z0)) (hT : T.heap = H) (hH : am_H G σ H) (hS : va_S (fun q => h_n G ≤ q) s.heap H locs) (hs0 : s.heap.size ≤ h_n G + c0) (hc0 : c0 ≤ g_C σ) (hNC : g_N σ = g_C σ) : H.size = h_n G + g_N σ := by
  have h1 := XX.heapSize
  rw [hT] at h1
  have h2 : h_n G ≤ H.size := Nat.le_trans X.2.2.2.2.2.2.2.2.1 hS.1
  have h3 : h_n G + g_N σ ≤ H.size := by
    rcases Nat.eq_zero_or_pos (g_N σ) with h | h
    · omega
    · have := (hH.2.2.2 (g_N σ - 1) _ (am_ws_get (by omega))).lt
      dsimp only at this
      omega
  omega
theorem am_s_newarray (X : am_X G p l s m meth c y) {t : ArrayType} (hi : (am_code y)[i]? = some (.newarray t)) {n : Int32} {r : List Value} {τ : am_St} (hn0 : ¬ n < 0) (hm : am_mk σ (am_ak t) n.toNatClampNeg n.toNatClampNeg = some τ)
    (hs0 : s.heap.size ≤ h_n G + c0) (hc0 : c0 ≤ g_C σ) (hz0 : z0 ≤ g_Z σ) (hRc : g_C τ - c0 ≤ R.cells) (hRs : g_Z τ - z0 ≤ R.slots) (k : am_V G p l e R s m args below meth c c0 z0 Q y (i + 1) ls (.ref (g_N σ) :: r) τ) : am_V G p l e R s m args below meth c c0 z0 Q y i ls (.int n :: r) σ := by
  obtain ⟨real, len, h, -, hd, hn, hk⟩ := am_fact X hi
  simp only [am_chkI, Bool.and_eq_true, decide_eq_true_eq] at hk
  obtain ⟨⟨rfl, rfl⟩, hak⟩ := hk
  have hn1 := hn rfl
  clear hn
  unfold am_mk at hm
  split at hm
  · rename_i hc
    cases hm
    obtain ⟨hNC, htau⟩ := hc
    intro H locs sl hH hS hL T hT XX
    have hsz := am_size X XX hT hH hS hs0 hc0 hNC
    suffices hW : W p l e R s m args below meth c H locs (g_C σ - c0) (g_Z σ - z0) Q (F0 m (am_pc y i) sl (.int n :: r.map (am_tr G))) from hW T hT XX
    clear XX hT
    have hN6 : g_N σ < 1000000 := by
      rcases Nat.lt_or_ge (g_N σ) 146 with q | q
      · omega
      · exfalso
        have : am_tau (g_N σ) = (99, 0) := by
          unfold am_tau
          rw [List.getD_eq_getElem?_getD, List.getElem?_eq_none (by exact q)]
          rfl
        rw [this] at htau
        have h9 := congrArg Prod.fst htau
        dsimp only at h9
        omega
    have hle : n.toNatClampNeg ≤ 20451 := by have := am_tau_le (g_N σ); rw [htau] at this; exact this
    have hC : g_C (p_N σ n.toNatClampNeg) - c0 = g_C σ - c0 + 1 := by show g_C σ + 1 - c0 = _; omega
    have hZ : g_Z (p_N σ n.toNatClampNeg) - z0 = g_Z σ - z0 + n.toNatClampNeg := by show g_Z σ + n.toNatClampNeg - z0 = _; omega
    cases t with
    | int =>
      have hRA2 : s.vm.findClass ("[" ++ FieldType.int.toString) = some (h_c G 0) := (X.2.2.2.2.1.2.1.2 0 _ rfl).2
      refine va_newaK (atype := .int) (n := n) (N := n.toNatClampNeg) (h := h_n G + g_N σ) X.1 X.2.1 (am_wt X am_wa_int rfl args) rfl hd rfl hn0 rfl ?_ (by rw [← hC]; exact hRc) (by rw [← hZ]; exact hRs) hsz (fun H1 cA a1 a2 a3 a4 a5 => ?_)
      · calc n.toNatClampNeg * componentBytes (newarray.typeOf .int) ≤ 20451 * 8 := Nat.mul_le_mul hle (by decide)
          _ ≤ 536870912 := by omega
      · cases Option.some.inj (hRA2.symm.trans a5)
        have hH1 := am_alloc (n := n.toNatClampNeg) hH hsz a2 a3 (by rw [am_E_arr (by rw [htau]; rfl), g_I_N, htau]; exact a1.trans (congrArg some (vp_cell_i _ _ _).symm))
        have hS1 : va_S (fun q => h_n G ≤ q) s.heap H1 locs := ⟨by have := hS.1; omega, fun q h1 h2 => (a3 q (by have := hS.1; omega)).trans (hS.2.1 q h1 h2), hS.2.2⟩
        have kk := k H1 locs sl hH1 hS1 hL
        rw [hn1, hC, hZ, List.map_cons, am_tr_obj hN6] at kk
        exact kk
    | long =>
      have hRA2 : s.vm.findClass ("[" ++ FieldType.long.toString) = some (h_c G 1) := (X.2.2.2.2.1.2.1.2 1 _ rfl).2
      refine va_newaK (atype := .long) (n := n) (N := n.toNatClampNeg) (h := h_n G + g_N σ) X.1 X.2.1 (am_wt X am_wa_long rfl args) rfl hd rfl hn0 rfl ?_ (by rw [← hC]; exact hRc) (by rw [← hZ]; exact hRs) hsz (fun H1 cA a1 a2 a3 a4 a5 => ?_)
      · calc n.toNatClampNeg * componentBytes (newarray.typeOf .long) ≤ 20451 * 8 := Nat.mul_le_mul hle (by decide)
          _ ≤ 536870912 := by omega
      · cases Option.some.inj (hRA2.symm.trans a5)
        have hH1 := am_alloc (n := n.toNatClampNeg) hH hsz a2 a3 (by rw [am_E_arr1 (by rw [htau]; rfl), g_J_N, htau]; exact a1.trans (congrArg some (vp_cell_l _ _ _).symm))
        have hS1 : va_S (fun q => h_n G ≤ q) s.heap H1 locs := ⟨by have := hS.1; omega, fun q h1 h2 => (a3 q (by have := hS.1; omega)).trans (hS.2.1 q h1 h2), hS.2.2⟩
        have kk := k H1 locs sl hH1 hS1 hL
        rw [hn1, hC, hZ, List.map_cons, am_tr_obj hN6] at kk
        exact kk
    | byte =>
      have hRA2 : s.vm.findClass ("[" ++ FieldType.byte.toString) = some (h_c G 2) := (X.2.2.2.2.1.2.1.2 2 _ rfl).2
      refine va_newaK (atype := .byte) (n := n) (N := n.toNatClampNeg) (h := h_n G + g_N σ) X.1 X.2.1 (am_wt X am_wa_byte rfl args) rfl hd rfl hn0 rfl ?_ (by rw [← hC]; exact hRc) (by rw [← hZ]; exact hRs) hsz (fun H1 cA a1 a2 a3 a4 a5 => ?_)
      · calc n.toNatClampNeg * componentBytes (newarray.typeOf .byte) ≤ 20451 * 8 := Nat.mul_le_mul hle (by decide)
          _ ≤ 536870912 := by omega
      · cases Option.some.inj (hRA2.symm.trans a5)
        have hH1 := am_alloc (n := n.toNatClampNeg) hH hsz a2 a3 (by rw [am_E_arr2 (by rw [htau]; rfl), g_I_N, htau]; exact a1.trans (congrArg some (vp_cell_i _ _ _).symm))
        have hS1 : va_S (fun q => h_n G ≤ q) s.heap H1 locs := ⟨by have := hS.1; omega, fun q h1 h2 => (a3 q (by have := hS.1; omega)).trans (hS.2.1 q h1 h2), hS.2.2⟩
        have kk := k H1 locs sl hH1 hS1 hL
        rw [hn1, hC, hZ, List.map_cons, am_tr_obj hN6] at kk
        exact kk
    | boolean =>
      have hRA2 : s.vm.findClass ("[" ++ FieldType.boolean.toString) = some (h_c G 3) := (X.2.2.2.2.1.2.1.2 3 _ rfl).2
      refine va_newaK (atype := .boolean) (n := n) (N := n.toNatClampNeg) (h := h_n G + g_N σ) X.1 X.2.1 (am_wt X am_wa_boolean rfl args) rfl hd rfl hn0 rfl ?_ (by rw [← hC]; exact hRc) (by rw [← hZ]; exact hRs) hsz (fun H1 cA a1 a2 a3 a4 a5 => ?_)
      · calc n.toNatClampNeg * componentBytes (newarray.typeOf .boolean) ≤ 20451 * 8 := Nat.mul_le_mul hle (by decide)
          _ ≤ 536870912 := by omega
      · cases Option.some.inj (hRA2.symm.trans a5)
        have hH1 := am_alloc (n := n.toNatClampNeg) hH hsz a2 a3 (by rw [am_E_arr3 (by rw [htau]; rfl), g_I_N, htau]; exact a1.trans (congrArg some (vp_cell_i _ _ _).symm))
        have hS1 : va_S (fun q => h_n G ≤ q) s.heap H1 locs := ⟨by have := hS.1; omega, fun q h1 h2 => (a3 q (by have := hS.1; omega)).trans (hS.2.1 q h1 h2), hS.2.2⟩
        have kk := k H1 locs sl hH1 hS1 hL
        rw [hn1, hC, hZ, List.map_cons, am_tr_obj hN6] at kk
        exact kk
    | _ => exact absurd hak (by decide)
  · cases hm
end Steps2
