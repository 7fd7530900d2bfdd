/-! calls -/
section Calls
variable {G : am_G} {p : Program} {l : Launch} {e : Env} {R : Room} {s : State} {m : MethodId} {args : Array Value} {below : List Frame} {meth : Method} {c : Code} {c0 z0 : Nat} {Q : State → Prop} {y i : Nat} {ls st : List Value} {σ : am_St}
theorem am_at_mem {q : Nat} {w : Cond} (h : am_at q w = true) : w ∈ lw_tbl := List.mem_of_getElem? (of_decide_eq_true h)
theorem am_cw_lw (z : Nat) : am_lw (am_cw z) = true := by
  unfold am_cw
  split <;> rfl
theorem am_zB_all {z : Nat} (h : am_zB z = true) : (am_nm z).cls = am_on (am_own z) ∧ plainName (am_nm z).cls = true ∧ am_pcZ z = 0 ∧ am_ml z ≤ 9 ∧ (am_nm z).cls ≠ "java/lang/invoke/MethodHandle" ∧ (am_nm z).cls ≠ "java/lang/invoke/VarHandle" ∧ am_cw z ∈ lw_tbl ∧ Cond.initialized (am_nm z).cls ∈ lw_tbl ∧ am_hok z = true ∧ (match am_rk z, am_rt z with
    | 0, none => true
    | 1, some .int => true
    | 2, some .boolean => true
    | 3, some .byte => true
    | 4, some .char => true
    | 5, some (.object _) => true
    | _, _ => false) = true := by
  unfold am_zB at h
  simp only [Bool.and_eq_true, decide_eq_true_eq] at h
  obtain ⟨⟨⟨⟨⟨⟨⟨⟨⟨h1, h2⟩, h3⟩, h4⟩, h5⟩, h6⟩, h7⟩, h8⟩, h9⟩, h10⟩ := h
  refine ⟨h1, h2, h3, h4, h5, h6, ?_, am_at_mem h8, h9, h10⟩
  unfold am_cw
  cases hh : am_hh z with
  | nil => rw [hh] at h7; exact am_at_mem h7
  | cons a b => rw [hh] at h7; exact am_at_mem h7
theorem am_zB_code {z : Nat} (h : am_zB z = true) : am_cw z ∈ lw_tbl := (am_zB_all h).2.2.2.2.2.2.1
theorem am_zB_init {z : Nat} (h : am_zB z = true) : Cond.initialized (am_nm z).cls ∈ lw_tbl := (am_zB_all h).2.2.2.2.2.2.2.1
theorem am_zB_ne {z : Nat} (h : am_zB z = true) : (am_nm z).cls ≠ "java/lang/invoke/MethodHandle" ∧ (am_nm z).cls ≠ "java/lang/invoke/VarHandle" := ⟨(am_zB_all h).2.2.2.2.1, (am_zB_all h).2.2.2.2.2.1⟩
theorem am_zB_ml {z : Nat} (h : am_zB z = true) : am_ml z ≤ 9 := (am_zB_all h).2.2.2.1
/-- a callee's way back -/
theorem am_back (X : am_X G p l s m meth c y) {z : Nat} {as : List Value} {r : Option Value ⊕ Nat} {σ' : am_St} (hB : am_zB z = true) (hM : am_Met l G z as σ r σ') (hnd : am_nd z < am_nd y) (hRf : am_nd y + 1 ≤ R.frames) (hRl : 38 * (am_nd y + 1) ≤ R.locals) :
    vx_Back l R p e below s args (am_nm z) 3 8 (PreOf R (g_C σ' - g_C σ) (g_Z σ' - g_Z σ) (am_Pc G as σ)) (PostOf (am_Qc G r σ') (g_C σ' - g_C σ) (g_Z σ' - g_Z σ) (fun q => h_n G ≤ q)) (vx_Post (am_Xc G r σ') (g_C σ' - g_C σ) (g_Z σ' - g_Z σ) (fun q => h_n G ≤ q)) := by
  have hml := am_zB_ml hB
  have hw : ∀ w ∈ [am_cw z], ∀ (a' : Array Value) (U : State), s.WarmedH U.vm → w.before a' U = true := by
    intro w hw a' U hW
    rw [List.mem_singleton] at hw
    subst hw
    exact (X.2.2.2.2.1.warm hW).1 _ (am_zB_code hB) (am_cw_lw z) a'
  have hini : ∀ (a' : Array Value) (U : State), s.WarmedH U.vm → (Cond.initialized (am_nm z).cls).before a' U = true := fun a' U hW => (X.2.2.2.2.1.warm hW).1 _ (am_zB_init hB) rfl a'
  have h1 : (am_rm z (g_C σ' - g_C σ) (g_Z σ' - g_Z σ)).frames + 1 ≤ R.frames := by show am_nd z + 1 + 1 ≤ _; omega
  have h2 : 8 + (am_ml z + 11) + (am_rm z (g_C σ' - g_C σ) (g_Z σ' - g_Z σ)).locals ≤ R.locals := by show 8 + (am_ml z + 11) + 38 * (am_nd z + 1) ≤ _; omega
  cases hh : am_hh z with
  | nil =>
    have hc : am_cw z = .code (am_nm z) (am_by z) (am_ml z) (am_rt z) := by unfold am_cw; rw [hh]
    exact vx_back hM am_Pc_blind rfl rfl h1 h2 hw (by rw [← hc]; exact List.mem_singleton.mpr rfl) hini
  | cons a b =>
    have hc : am_cw z = .codeWith (am_nm z) (am_by z) (am_ml z) (am_rt z) (am_hh z) := by unfold am_cw; rw [hh]
    exact vx_backW hM am_Pc_blind rfl rfl h1 h2 hw (by rw [← hc]; exact List.mem_singleton.mpr rfl) hini
/-- behind a call -/
theorem am_after {z n : Nat} {as rest : List Value} {r : Option Value ⊕ Nat} {σ' : am_St} {T : State} {locs : List Loc} {sl : Array Slot} (hn1 : am_pc y (i + 1) = am_pc y i + 3) (hS : va_S (fun q => h_n G ≤ q) s.heap T.heap locs) (hL : am_LH G sl (am_ml y) ls) (hc0 : c0 ≤ g_C σ) (hz0 : z0 ≤ g_Z σ) (hC : g_C σ ≤ g_C σ') (hZ : g_Z σ ≤ g_Z σ') (hsn : h_n G ≤ s.heap.size)
    (kret : ∀ v, r = .inl v → am_V G p l e R s m args below meth c c0 z0 Q y (i + 1) ls (v.toList ++ rest) σ')
    (kthr : ∀ e', r = .inr e' → ∀ (H : Heap) (locs : List Loc) (q : Addr) (ce : Cell), am_H G σ' H → va_S (fun q => h_n G ≤ q) s.heap H locs → H[q]? = some ce → ce.vm = .none → s.vm.findClass (am_en e') = some ce.cls → vx_W p l e R s m args below meth c H locs (g_C σ' - c0) (g_Z σ' - z0) Q (F0 m (am_pc y i) sl (rest.map (am_tr G))) q)
    {g0 : JFrame} {a : Array Value}
    (D : (∃ (v : Option Value) (vm₁ : Vm) (B : Pt), s.WarmedH vm₁ ∧ Stand p l e R s m args below meth c B.U B.locs B.cells B.slots ∧ PostOf (am_Qc G r σ') (g_C σ' - g_C σ) (g_Z σ' - g_Z σ) (fun q => h_n G ≤ q) ⟨T.setVm vm₁, locs, g_C σ - c0, g_Z σ - z0⟩ a v B ∧
        ∀ target, Steps p.tables e below (B.U.setTop { (F0 m (am_pc y i) sl st) with pc := (F0 m (am_pc y i) sl st).pc + 3, stack := v.toList ++ rest.map (am_tr G) }) target → Steps p.tables e below (T.setTop g0) target) ∨
      (∃ (q : Addr) (vm₁ : Vm) (B : Pt), s.WarmedH vm₁ ∧ Stand p l e R s m args below meth c B.U B.locs B.cells B.slots ∧ vx_Post (am_Xc G r σ') (g_C σ' - g_C σ) (g_Z σ' - g_Z σ) (fun q => h_n G ≤ q) ⟨T.setVm vm₁, locs, g_C σ - c0, g_Z σ - z0⟩ a q B ∧
        Steps p.tables e below (T.setTop g0) ((B.U.setTop { (F0 m (am_pc y i) sl st) with stack := rest.map (am_tr G) }).pushFrame (.throwing q)))) :
    ∃ t, Steps p.tables e below (T.setTop g0) t ∧ Q t := by
  have e1 : g_C σ - c0 + (g_C σ' - g_C σ) = g_C σ' - c0 := by omega
  have e2 : g_Z σ - z0 + (g_Z σ' - g_Z σ) = g_Z σ' - z0 := by omega
  have keep : ∀ (H' : Heap) (L : List Loc), (∀ q : Nat, q < h_n G → H'[q]? = T.heap[q]?) → T.heap.size ≤ H'.size → (∀ q ∈ L, h_n G ≤ q.base) → va_S (fun q => h_n G ≤ q) s.heap H' (locs ++ L) := by
    intro H' L h1 h2 h3
    refine ⟨Nat.le_trans hS.1 h2, fun q a1 a2 => ?_, fun q hq => ?_⟩
    · rw [h1 q (Nat.lt_of_not_le a2)]
      exact hS.2.1 q a1 a2
    · rcases List.mem_append.mp hq with h | h
      · exact hS.2.2 q h
      · exact h3 q h
  rcases D with ⟨v, vm₁, ⟨U', l2, c2, s2⟩, hW₁, X', ⟨g', mk, t, L, f1, f2, hq, h1, hL', h2, h3⟩, stp⟩ | ⟨q, vm₁, ⟨U', l2, c2, s2⟩, hW₁, X', ⟨g', mk, t, L, E, ce, f1, f2, hx, hce, hcv, hcl, h1, hL', h2, h3⟩, stp⟩
  · dsimp only at X' f1 f2 h1 h2 h3 stp
    subst h1; subst h2; subst h3
    obtain ⟨v', hr, ho, hH', hlow, hsz⟩ := hq
    cases ho
    rw [e1, e2] at X'
    have hS' := keep U'.heap L (fun q hq => by rw [f1]; exact hlow q hq) (by rw [f1]; exact hsz) hL'
    obtain ⟨t2, a1, b1⟩ := kret v' hr U'.heap _ sl (by rw [f1]; exact hH') hS' hL U' rfl X'
    refine ⟨t2, stp t2 ?_, b1⟩
    have e3 : (v'.map (am_tr G)).toList ++ rest.map (am_tr G) = (v'.toList ++ rest).map (am_tr G) := by cases v' <;> simp
    rw [hn1] at a1
    rw [e3]
    exact a1
  · dsimp only at X' f1 f2 h1 h2 h3 stp
    subst h1; subst h2; subst h3
    obtain ⟨e', hr, rfl, hH', hlow, hsz⟩ := hx
    rw [e1, e2] at X'
    have hS' := keep U'.heap L (fun q hq => by rw [f1]; exact hlow q hq) (by rw [f1]; exact hsz) hL'
    obtain ⟨t2, a1, b1⟩ := kthr e' hr U'.heap _ q ce (by rw [f1]; exact hH') hS' (by rw [f1]; exact hce) hcv (vx_cls hW₁ hcl) U' rfl X'
    exact ⟨t2, stp.trans a1, b1⟩
theorem am_pre (X : am_X G p l s m meth c y) {as : List Value} {T : State} {locs : List Loc} (XX : Stand p l e R s m args below meth c T locs (g_C σ - c0) (g_Z σ - z0)) (hH : am_H G σ T.heap) (hS : va_S (fun q => h_n G ≤ q) s.heap T.heap locs) (hs0 : s.heap.size ≤ h_n G + c0) (hc0 : c0 ≤ g_C σ) {vm₁ : Vm} (hW : s.WarmedH vm₁) : am_Pc G as σ (as.map (am_tr G)).toArray (T.setVm vm₁) := by
  have h1 := XX.heapSize
  refine ⟨rfl, X.2.2.2.2.1.warm hW, hH, Nat.le_trans X.2.2.2.2.2.2.2.2.1 hS.1, by show T.heap.size ≤ _; omega, fun q hq => ?_⟩
  show T.heap[q]? = _
  rw [hS.2.1 q (Nat.lt_of_lt_of_le hq X.2.2.2.2.2.2.2.2.1) (Nat.not_le.mpr hq)]
  exact X.2.2.2.2.2.2.2.2.2.1 q hq
theorem am_call (X : am_X G p l s m meth c y) {ins : Instr} (hi : (am_code y)[i]? = some ins) {z : Nat} (htg : am_tgt ins = some z) {as rest : List Value} (hst : st = as.reverse ++ rest) (hna : as.length = am_na z) (hnd : am_nd z < am_nd y) (hcat : (rest.map fun v => v.category).sum ≤ 8) (hrcv : am_rcv ins z as σ = true)
    (hB : am_zB z = true) {r : Option Value ⊕ Nat} {σ' : am_St} (hM : am_Met l G z as σ r σ') (hRf : am_nd y + 1 ≤ R.frames) (hRl : 38 * (am_nd y + 1) ≤ R.locals) (hs0 : s.heap.size ≤ h_n G + c0) (hc0 : c0 ≤ g_C σ) (hz0 : z0 ≤ g_Z σ) (hC : g_C σ ≤ g_C σ') (hZ : g_Z σ ≤ g_Z σ') (hRc : g_C σ' - c0 ≤ R.cells) (hRs : g_Z σ' - z0 ≤ R.slots)
    (kret : ∀ v, r = .inl v → am_V G p l e R s m args below meth c c0 z0 Q y (i + 1) ls (v.toList ++ rest) σ')
    (kthr : ∀ e', r = .inr e' → ∀ (H : Heap) (locs : List Loc) (sl : Array Slot) (q : Addr) (ce : Cell), am_H G σ' H → va_S (fun q => h_n G ≤ q) s.heap H locs → am_LH G sl (am_ml y) ls → H[q]? = some ce → ce.vm = .none → s.vm.findClass (am_en e') = some ce.cls → vx_W p l e R s m args below meth c H locs (g_C σ' - c0) (g_Z σ' - z0) Q (F0 m (am_pc y i) sl (rest.map (am_tr G))) q) :
    am_V G p l e R s m args below meth c c0 z0 Q y i ls st σ := by
  subst hst
  obtain ⟨real, len, h, -, hd, hn, hk⟩ := am_fact X hi
  intro H locs sl hH hS hL T hT XX
  subst hT
  have hbk := am_back (R := R) (e := e) (below := below) (args := args) X hB hM hnd hRf hRl
  have hq1 : (h_q G).category = 1 := X.2.2.2.2.1.2.2.2.2.2.2.2.2.2.2.2.1
  have hcat' : 2 * (F0 m (am_pc y i) sl ((as.reverse ++ rest).map (am_tr G))).monitorRoom + ((rest.map (am_tr G)).map fun v => v.category).sum ≤ 8 := by rw [am_sumcat hq1]; show 2 * 0 + _ ≤ 8; omega
  have hdg : decode c.code (am_pc y i) = .ok (real, len) := by rw [X.2.1]; exact hd
  have hsize : (F0 m (am_pc y i) sl ((as.reverse ++ rest).map (am_tr G))).locals.size = c.maxLocals := hL.1.trans X.2.2.1.symm
  have hcells : g_C σ - c0 + (g_C σ' - g_C σ) ≤ R.cells := by omega
  have hslots : g_Z σ - z0 + (g_Z σ' - g_Z σ) ≤ R.slots := by omega
  have hcw := X.2.2.2.2.1.1 _ (am_zB_code hB) (am_cw_lw z) args
  have hini := X.2.2.2.2.1.1 _ (am_zB_init hB) rfl args
  have hpre : ∀ vm₁, s.WarmedH vm₁ → PreOf R (g_C σ' - g_C σ) (g_Z σ' - g_Z σ) (am_Pc G as σ) ⟨T.setVm vm₁, locs, g_C σ - c0, g_Z σ - z0⟩ (as.map (am_tr G)).toArray := fun vm₁ hW => ⟨hcells, hslots, am_pre X XX hH hS hs0 hc0 hW⟩
  have kthr' := fun e' he H locs q ce a b => kthr e' he H locs sl q ce a b hL
  have hmap : (as.reverse ++ rest).map (am_tr G) = (as.map (am_tr G)).reverse ++ rest.map (am_tr G) := by rw [List.map_append, List.map_reverse]
  cases ins with
  | invokevirtual z' =>
    cases htg
    have hn1 := hn rfl
    unfold am_chkI at hk
    cases real with
    | invokevirtual idx =>
      simp only [Bool.and_eq_true, decide_eq_true_eq] at hk
      obtain ⟨⟨rfl, hl⟩, hzV⟩ := hk
      have hlink : (Cond.methodLink (am_on (am_own y)) idx (am_nm z)).before args s = true := by
        unfold am_lnV at hl
        split at hl
        · rename_i o k x hx
          simp only [Bool.and_eq_true, decide_eq_true_eq] at hl
          obtain ⟨⟨rfl, rfl⟩, rfl⟩ := hl
          exact X.2.2.2.2.1.1 _ (List.mem_of_getElem? hx) rfl args
        · cases hl
      simp only [am_zV, Bool.and_eq_true, decide_eq_true_eq, List.isEmpty_iff] at hzV
      obtain ⟨⟨⟨⟨hz1, hz2⟩, hz3⟩, hz4⟩, -⟩ := hzV
      have hcw2 : (Cond.code (am_nm z) (am_by z) (am_ml z) (am_rt z)).before args s = true := by
        unfold am_cw at hcw; rw [hz4] at hcw; exact hcw
      match as, hrcv, hna, hpre, hmap, hM, hbk with
      | .ref b :: argsL, hrcv, hna, hpre, hmap, hM, hbk =>
        have hlen : ∀ sig, parseMethodDescriptor (am_nm z).desc = some sig → (argsL.map (am_tr G)).length = sig.parameters.length := by
          intro sig hsig
          rw [List.length_map]
          unfold am_np at hz3
          rw [hsig] at hz3
          simp only [Option.map_some, Option.some.injEq] at hz3
          simp only [List.length_cons] at hna
          omega
        obtain ⟨ab, cell, hab, hcell, hobj, hcls⟩ : ∃ (ab : Addr) (cell : Cell), am_tr G (.ref b) = .ref ab ∧ T.heap[ab]? = some cell ∧ cell.vm.isStatics = false ∧ s.vm.findClass (am_nm z).cls = some cell.cls := by
          have hcl : (am_nm z).cls = am_on (am_own z) := (am_zB_all hB).1
          have hrcv : (if am_own z < 13 then decide (b < 1000000) && am_ok σ b (10 + am_own z) else decide (am_own z = 14) && decide (2000000 ≤ b) && decide (b < 2000055)) = true := hrcv
          split at hrcv
          · rename_i ho
            simp only [am_ok, Bool.and_eq_true, decide_eq_true_eq] at hrcv
            obtain ⟨T0, hT0, -⟩ := am_cls_at ho
            have he := am_ws_get (G := G) hrcv.2.1
            rw [am_E_obj hrcv.2.2] at he
            obtain ⟨cell, g1, g2, g3⟩ := va_recv X.2.2.2.2.1.2.1 hH.2.2.2 hT0 he
            exact ⟨_, cell, am_tr_obj hrcv.1, g1, g2, by rw [hcl]; exact g3⟩
          · simp only [Bool.and_eq_true, decide_eq_true_eq] at hrcv
            obtain ⟨⟨h14, h2a⟩, h2b⟩ := hrcv
            obtain ⟨q, hq0⟩ := Nat.exists_eq_add_of_le h2a
            subst hq0
            have hq : q < 55 := by have h2c : 2000000 + q < 2000055 := h2b; clear hrcv hbk hM hpre hmap hna; omega
            obtain ⟨cell, g1, g2, g3, g4⟩ := (am_strT X hq).1
            have hlt : h_d G q < s.heap.size := (Array.getElem?_eq_some_iff.mp g1).1
            exact ⟨_, cell, am_tr_str hq, (hS.2.1 _ hlt g4).trans g1, g2, by rw [hcl, h14]; exact g3⟩
        simp only [List.map_cons, hab] at hpre hmap
        have D := vx_callV (C := (am_nm z).cls) XX X.1 X.2.2.2.1 hlink (X.2.2.2.2.1.1 _ (am_at_mem hz1) rfl args) (X.2.2.2.2.1.1 _ (am_at_mem hz2) rfl args) hcw2 (am_zB_ne hB) hbk hcell hobj hcls (g := F0 m (am_pc y i) sl _) rfl hsize hlen (rest := rest.map (am_tr G)) (by rw [hmap]; simp) hcat' hdg hpre
        exact am_after (z := z) (n := 0) (as := argsL) hn1 hS hL hc0 hz0 hC hZ X.2.2.2.2.2.2.2.2.1 kret kthr' D
    | _ => cases hk
  | invokestatic z' =>
    have hz : z' = z ∧ z' < 10000 := by
      have htg : (if z' < 10000 then some z' else none) = some z := htg
      split at htg
      · rename_i h9; cases htg; exact ⟨rfl, h9⟩
      · cases htg
    obtain ⟨rfl, hz9⟩ := hz
    have hn1 := hn rfl
    unfold am_chkI at hk
    cases real with
    | invokestatic idx =>
      simp only [Bool.and_eq_true, decide_eq_true_eq, if_pos hz9] at hk
      obtain ⟨rfl, hl, hzS⟩ := hk
      simp only [am_zS, Bool.and_eq_true, decide_eq_true_eq] at hzS
      obtain ⟨⟨hz1, hz3⟩, -⟩ := hzS
      have hlen : ∀ sig, parseMethodDescriptor (am_nm z').desc = some sig → (as.map (am_tr G)).length = sig.parameters.length := by
        intro sig hsig
        rw [List.length_map]
        unfold am_np at hz3
        rw [hsig] at hz3
        simp only [Option.map_some, Option.some.injEq] at hz3
        omega
      have hst := X.2.2.2.2.1.1 _ (am_at_mem hz1) rfl args
      unfold am_lnk at hl
      split at hl
      · rename_i o k x hx
        simp only [Bool.and_eq_true, decide_eq_true_eq] at hl
        obtain ⟨⟨rfl, rfl⟩, rfl⟩ := hl
        have hlink := X.2.2.2.2.1.1 _ (List.mem_of_getElem? hx) rfl args
        cases hh : am_hh z' with
        | nil =>
          have hcw2 : (Cond.code (am_nm z') (am_by z') (am_ml z') (am_rt z')).before args s = true := by
            unfold am_cw at hcw; rw [hh] at hcw; exact hcw
          have D := vx_callS XX X.1 X.2.2.2.1 hlink hst hini hcw2 (am_zB_ne hB) hbk (g := F0 m (am_pc y i) sl _) rfl hsize hlen (rest := rest.map (am_tr G)) hmap hcat' hdg hpre
          exact am_after (z := z') (n := 0) (as := as) hn1 hS hL hc0 hz0 hC hZ X.2.2.2.2.2.2.2.2.1 kret kthr' D
        | cons a b =>
          have hcw2 : (Cond.codeWith (am_nm z') (am_by z') (am_ml z') (am_rt z') (a :: b)).before args s = true := by
            unfold am_cw at hcw; rw [hh] at hcw; exact hcw
          have D := vx_callSX XX X.1 X.2.2.2.1 hlink hst hini hcw2 (am_zB_ne hB) hbk (g := F0 m (am_pc y i) sl _) rfl hsize hlen (rest := rest.map (am_tr G)) hmap hcat' hdg hpre
          exact am_after (z := z') (n := 0) (as := as) hn1 hS hL hc0 hz0 hC hZ X.2.2.2.2.2.2.2.2.1 kret kthr' D
      · rename_i o k x w hx
        simp only [Bool.and_eq_true, decide_eq_true_eq] at hl
        obtain ⟨⟨⟨⟨rfl, rfl⟩, rfl⟩, rfl⟩, hh⟩ := hl
        have hlink := X.2.2.2.2.1.1 _ (List.mem_of_getElem? hx) rfl args
        have hcw2 : (Cond.code (am_nm z') (am_by z') (am_ml z') (am_rt z')).before args s = true := by
          unfold am_cw at hcw
          rw [List.isEmpty_iff.mp hh] at hcw
          exact hcw
        have D := vx_callSN XX X.1 X.2.2.2.1 hlink hst hini hcw2 (am_zB_ne hB) hbk (g := F0 m (am_pc y i) sl _) rfl hsize hlen (rest := rest.map (am_tr G)) hmap hcat' hdg hpre
        exact am_after (z := z') (n := 0) (as := as) hn1 hS hL hc0 hz0 hC hZ X.2.2.2.2.2.2.2.2.1 kret kthr' D
      · cases hl
    | _ => cases hk
  | invokespecial z' =>
    have hz : z' = z ∧ z' < 10000 := by
      have htg : (if z' < 10000 then some z' else none) = some z := htg
      split at htg
      · rename_i h9; cases htg; exact ⟨rfl, h9⟩
      · cases htg
    obtain ⟨rfl, hz9⟩ := hz
    have hn1 := hn rfl
    unfold am_chkI at hk
    cases real with
    | invokespecial idx =>
      simp only [Bool.and_eq_true, decide_eq_true_eq, if_pos hz9] at hk
      obtain ⟨rfl, hl, hzI⟩ := hk
      simp only [am_zI, Bool.and_eq_true, decide_eq_true_eq, List.isEmpty_iff] at hzI
      obtain ⟨⟨⟨⟨⟨hz1, hz2⟩, hz3⟩, hz4⟩, hz5⟩, -⟩ := hzI
      have hcw2 : (Cond.code (am_nm z') (am_by z') (am_ml z') none).before args s = true := by
        unfold am_cw at hcw; rw [hz4, hz5] at hcw; exact hcw
      match as, hrcv, hna, hpre, hmap, hM, hbk with
      | .ref b :: argsL, hrcv, hna, hpre, hmap, hM, hbk =>
        have hb6 : b < 1000000 := of_decide_eq_true hrcv
        have hlen : ∀ sig, parseMethodDescriptor (am_nm z').desc = some sig → (argsL.map (am_tr G)).length = sig.parameters.length := by
          intro sig hsig
          rw [List.length_map]
          unfold am_np at hz3
          rw [hsig] at hz3
          simp only [Option.map_some, Option.some.injEq] at hz3
          simp only [List.length_cons] at hna
          omega
        simp only [List.map_cons, am_tr_obj hb6] at hpre hmap
        unfold am_lnk at hl
        split at hl
        · rename_i o k x hx
          simp only [Bool.and_eq_true, decide_eq_true_eq] at hl
          obtain ⟨⟨rfl, rfl⟩, rfl⟩ := hl
          have hlink := X.2.2.2.2.1.1 _ (List.mem_of_getElem? hx) rfl args
          have D := vx_callI XX X.1 X.2.2.2.1 hz2 hlink (X.2.2.2.2.1.1 _ (am_at_mem hz1) rfl args) hcw2 (am_zB_ne hB) hbk (g := F0 m (am_pc y i) sl _) rfl hsize hlen (rest := rest.map (am_tr G)) (by rw [hmap]; simp) hcat' hdg hpre
          exact am_after (z := z') (n := 0) (as := argsL) hn1 hS hL hc0 hz0 hC hZ X.2.2.2.2.2.2.2.2.1 kret kthr' D
        · rename_i o k x w hx
          simp only [Bool.and_eq_true, decide_eq_true_eq] at hl
          obtain ⟨⟨⟨⟨rfl, rfl⟩, rfl⟩, rfl⟩, -⟩ := hl
          have hlink := X.2.2.2.2.1.1 _ (List.mem_of_getElem? hx) rfl args
          have D := vx_callIN XX X.1 X.2.2.2.1 hz2 hlink (X.2.2.2.2.1.1 _ (am_at_mem hz1) rfl args) hcw2 (am_zB_ne hB) hbk (g := F0 m (am_pc y i) sl _) rfl hsize hlen (rest := rest.map (am_tr G)) (by rw [hmap]; simp) hcat' hdg hpre
          exact am_after (z := z') (n := 0) (as := argsL) hn1 hS hL hc0 hz0 hC hZ X.2.2.2.2.2.2.2.2.1 kret kthr' D
        · cases hl
    | _ => cases hk
  | _ => cases htg
end Calls
