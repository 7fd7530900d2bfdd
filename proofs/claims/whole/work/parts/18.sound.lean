/-! a run of the abstract machine is a run of the machine -/
theorem am_wcast0 : Cond.castable (am_en 0) (am_en 0) ∈ lw_tbl := List.mem_of_getElem? (i := 1129) (by decide +kernel)
theorem am_wcast1 : Cond.castable (am_en 1) (am_en 1) ∈ lw_tbl := List.mem_of_getElem? (i := 836) (by decide +kernel)
section Catch
variable {G : am_G} {p : Program} {l : Launch} {e : Env} {R : Room} {s : State} {m : MethodId} {args : Array Value} {below : List Frame} {meth : Method} {c : Code} {c0 z0 : Nat} {Q : State → Prop} {y i : Nat} {ls st : List Value} {σ : am_St}
/-- a row of the table of handlers takes the exception; its code answers a number -/
theorem am_catch_row (X : am_X G p l s m meth c y) (hown : am_own y = 13) {q : Nat × Nat × Nat × Nat} {r : Nat × Nat} (hrow : am_hrow y q r = true) {ins : Instr} {z : Nat} (hi : (am_code y)[i]? = some ins) (htg : am_tgt ins = some z)
    (pre : List ExceptionTableEntry) (suf : List ExceptionTableEntry) (hsplit : c.exceptionTable.toList = pre ++ ⟨q.1, q.2.1, q.2.2.1, q.2.2.2⟩ :: suf) (hpass : ∀ z ∈ pre, covers z (am_pc y i) = false ∨ (z.catchType ≠ 0 ∧ ∃ nm : String, (Cond.classLink (am_on (am_own y)) z.catchType nm).before args s = true ∧ va_Nc (am_en r.1) nm s))
    {rest : List Value} {H : Heap} {locs : List Loc} {sl : Array Slot} {a : Addr} {ce : Cell} (hH : am_H G σ H) (hS : va_S (fun q => h_n G ≤ q) s.heap H locs) (hL : am_LH G sl (am_ml y) ls) (hce : H[a]? = some ce) (hv : ce.vm = .none) (hcl : s.vm.findClass (am_en r.1) = some ce.cls)
    (kk : ∀ (j : Nat) (ls' : List Value), (am_code y)[j]? = some .ireturn → am_V G p l e R s m args below meth c c0 z0 Q y j ls' [.int (nI r.2)] σ) :
    vx_W p l e R s m args below meth c H locs (g_C σ - c0) (g_Z σ - z0) Q (F0 m (am_pc y i) sl rest) a := by
  unfold am_hrow at hrow
  simp only [Bool.and_eq_true, decide_eq_true_eq] at hrow
  obtain ⟨⟨⟨h1, h2⟩, h3⟩, h4⟩ := hrow
  obtain ⟨j, hj0, hj⟩ := List.any_eq_true.mp h1
  simp only [Bool.and_eq_true, decide_eq_true_eq] at hj
  obtain ⟨hjp, hj⟩ := hj
  obtain ⟨w, hw1, hw2⟩ := List.any_eq_true.mp h3
  have hw3 : w = .classLink "RecordDeskLaw" q.2.2.2 (am_en r.1) := of_decide_eq_true hw2
  subst hw3
  have hil : i < (am_code y).length := (List.getElem?_eq_some_iff.mp hi).1
  have hcov := List.all_eq_true.mp h4 i (List.mem_range.mpr hil)
  rw [hi] at hcov
  simp only [htg, Bool.and_eq_true, decide_eq_true_eq] at hcov
  have hcast : (Cond.castable (am_en r.1) (am_en r.1)).before args s = true := by
    by_cases h : r.1 = 0
    · rw [h]; exact X.2.2.2.2.1.1 _ am_wcast0 rfl args
    · have h9 : am_en r.1 = am_en 1 := by unfold am_en; rw [if_neg h, if_neg (by decide)]
      rw [h9]; exact X.2.2.2.2.1.1 _ am_wcast1 rfl args
  split at hj
  · rename_i k n hc0 hc1 hc2
    simp only [Bool.and_eq_true, decide_eq_true_eq] at hj
    obtain ⟨⟨rfl, hkm⟩, hrk⟩ := hj
    refine vx_catch X.2.2.2.1 pre ⟨q.1, q.2.1, q.2.2.1, q.2.2.2⟩ suf hsplit hpass ?_ h2 (by rw [hown]; exact X.2.2.2.2.1.1 _ hw1 rfl args) hcast hce hv hcl ?_
    · unfold covers
      simp only [Bool.and_eq_true, decide_eq_true_eq]
      exact hcov
    · show W p l e R s m args below meth c H locs (g_C σ - c0) (g_Z σ - z0) Q (F0 m q.2.2.1 sl [.ref a])
      rw [← hjp]
      have key : ∀ sl' : Array Slot, (∃ lv, lv_has sl' (am_ml y) lv) → W p l e R s m args below meth c H locs (g_C σ - c0) (g_Z σ - z0) Q (F0 m (am_pc y (j + 1)) sl' []) := by
        rintro sl' ⟨lv, hlv⟩
        have hU : am_LH G sl' (am_ml y) (List.replicate (am_ml y) am_U) := ⟨hlv.1, hlv.2.1, List.length_replicate, fun i v hi hu => by
          rw [List.getElem?_replicate] at hi
          split at hi
          · cases hi; exact absurd rfl hu
          · cases hi⟩
        exact am_s_ldc_w (st := []) X hc1 (kk (j + 2) (List.replicate (am_ml y) am_U) hc2) H locs sl' hH hS hU
      obtain ⟨real, len, h, -, hd, hn, hk⟩ := am_fact X hc0
      have hn1 := hn rfl
      clear hn
      unfold am_chkI at hk
      cases real with
      | astore q' =>
        simp only [Bool.and_eq_true, decide_eq_true_eq] at hk
        obtain ⟨rfl, rfl⟩ := hk
        refine lv_astore X.1 X.2.1 hd hL.has hkm rfl (fun sl' h' => ?_)
        rw [← hn1]
        exact key sl' ⟨_, h'⟩
      | astore_n q' =>
        simp only [Bool.and_eq_true, decide_eq_true_eq] at hk
        obtain ⟨rfl, h2⟩ := hk
        refine lv_astore_n X.1 X.2.1 hd h2 hL.has hkm rfl (fun sl' h' => ?_)
        rw [← hn1]
        exact key sl' ⟨_, h'⟩
      | _ => cases hk
  · cases hj
theorem am_catch (X : am_X G p l s m meth c y) (hok : am_hok y = true) (htab : c.exceptionTable.toList = tableOf (am_hh y)) {e' k : Nat} (hhd : am_hd y e' = some k) {ins : Instr} {z : Nat} (hi : (am_code y)[i]? = some ins) (htg : am_tgt ins = some z)
    {rest : List Value} {H : Heap} {locs : List Loc} {sl : Array Slot} {a : Addr} {ce : Cell} (hH : am_H G σ H) (hS : va_S (fun q => h_n G ≤ q) s.heap H locs) (hL : am_LH G sl (am_ml y) ls) (hce : H[a]? = some ce) (hv : ce.vm = .none) (hcl : s.vm.findClass (am_en e') = some ce.cls)
    (kk : ∀ (j : Nat) (ls' : List Value), (am_code y)[j]? = some .ireturn → am_V G p l e R s m args below meth c c0 z0 Q y j ls' [.int (nI k)] σ) :
    vx_W p l e R s m args below meth c H locs (g_C σ - c0) (g_Z σ - z0) Q (F0 m (am_pc y i) sl rest) a := by
  unfold am_hok at hok
  unfold am_hd at hhd
  split at hok
  · rename_i h1 h2
    rw [h2] at hhd
    cases hhd
  · rename_i q r h1 h2
    obtain ⟨ra, rb⟩ := r
    rw [h2] at hhd
    simp only [Bool.and_eq_true, decide_eq_true_eq] at hok
    rw [h1] at htab
    simp only [List.lookup_cons, List.lookup_nil] at hhd
    split at hhd
    · rename_i he
      have he : e' = ra := by simpa using he
      subst he
      cases hhd
      exact am_catch_row X hok.1 hok.2 hi htg [] [] htab (fun z hz => by cases hz) hH hS hL hce hv hcl kk
    · cases hhd
  · rename_i q q' r r' h1 h2
    obtain ⟨ra, rb⟩ := r
    obtain ⟨ra', rb'⟩ := r'
    rw [h2] at hhd
    simp only [Bool.and_eq_true, decide_eq_true_eq] at hok
    obtain ⟨⟨⟨⟨ho, hr1⟩, hr2⟩, hr3⟩, hr4⟩ := hok
    rw [h1] at htab
    simp only [List.lookup_cons, List.lookup_nil] at hhd
    split at hhd
    · rename_i he
      have he : e' = ra := by simpa using he
      subst he
      cases hhd
      exact am_catch_row X ho hr1 hi htg [] _ htab (fun z hz => by cases hz) hH hS hL hce hv hcl kk
    · split at hhd
      · rename_i he
        have he : e' = ra' := by simpa using he
        subst he
        cases hhd
        refine am_catch_row X ho hr2 hi htg [⟨q.1, q.2.1, q.2.2.1, q.2.2.2⟩] [] htab (fun z hz => ?_) hH hS hL hce hv hcl kk
        rw [List.mem_singleton] at hz
        subst hz
        refine Or.inr ?_
        unfold am_hrow at hr1
        simp only [Bool.and_eq_true, decide_eq_true_eq] at hr1
        obtain ⟨⟨⟨-, g2⟩, g3⟩, -⟩ := hr1
        obtain ⟨w, hw1, hw2⟩ := List.any_eq_true.mp g3
        have hw3 : w = .classLink "RecordDeskLaw" q.2.2.2 (am_en ra) := of_decide_eq_true hw2
        subst hw3
        refine ⟨g2, am_en ra, by rw [ho]; exact X.2.2.2.2.1.1 _ hw1 rfl args, ?_⟩
        dsimp only at hr3 hr4 ⊢
        rw [hr3, hr4]
        exact X.2.2.2.2.1.2.2.2.2.2.2.2.2.2.2.2.2.2
      · cases hhd
  · cases hok
end Catch
def am_retAt (y j : Nat) (v : Option Value) (σ : am_St) : Prop := ∃ ins, (am_code y)[j]? = some ins ∧ am_tgt ins = none ∧ am_end ins y v.toList σ = some (.inl v, σ)
/-- the statement, for runs of at most so many instructions -/
def am_Snd (G : am_G) (l : Launch) (n : Nat) : Prop := ∀ (y i : Nat) (ls st : List Value) (σ : am_St) (r : Option Value ⊕ Nat) (σ' : am_St), am_run n y i ls st σ = some (r, σ') →
  ∀ (p : Program) (e : Env) (R : Room) (s : State) (m : MethodId) (args : Array Value) (below : List Frame) (meth : Method) (c : Code) (c0 z0 : Nat) (Q : State → Prop), am_X G p l s m meth c y → am_hok y = true → (am_hh y ≠ [] → c.exceptionTable.toList = tableOf (am_hh y)) → am_nd y + 1 ≤ R.frames → 38 * (am_nd y + 1) ≤ R.locals → s.heap.size ≤ h_n G + c0 → c0 ≤ g_C σ → z0 ≤ g_Z σ → g_C σ' - c0 ≤ R.cells → g_Z σ' - z0 ≤ R.slots →
  (∀ v, r = .inl v → ∀ (j : Nat) (ls' : List Value), am_retAt y j v σ' → am_V G p l e R s m args below meth c c0 z0 Q y j ls' v.toList σ') →
  (∀ e', r = .inr e' → (am_hdL.getD y []).isEmpty = true → ∀ (H : Heap) (locs : List Loc) (sl : Array Slot) (pc : Nat) (rest : List Value) (q : Addr) (ce : Cell), am_H G σ' H → va_S (fun q => h_n G ≤ q) s.heap H locs → H[q]? = some ce → ce.vm = .none → s.vm.findClass (am_en e') = some ce.cls → vx_W p l e R s m args below meth c H locs (g_C σ' - c0) (g_Z σ' - z0) Q (F0 m pc sl rest) q) →
  (∀ (e' j : Nat) (st' ls' : List Value) (σ1 : am_St), r = .inr e' → σ' = p_E σ1 → (am_code y)[j]? = some (.new (1000 + e')) → e' < 2 → 8 ≤ am_nd y → (st'.map fun v => v.category).sum ≤ 8 → c0 ≤ g_C σ1 → z0 ≤ g_Z σ1 → am_V G p l e R s m args below meth c c0 z0 Q y j ls' st' σ1) →
  am_V G p l e R s m args below meth c c0 z0 Q y i ls st σ
/-- all methods of the table but the law's are as the tables say -/
def am_All : Prop := ∀ z, z < 291 → am_zB z = true ∧ am_chkR (am_own z) (am_ini z) (am_by z) (am_dc z) (am_code z) (am_dc z) = true
theorem am_met_of {G : am_G} {l : Launch} (hall : am_All) (hlt : l.stackTraces = false) {n : Nat} (IH : am_Snd G l n) {z : Nat} (hz : z < 291) {as : List Value} (hlay : (am_lay as).length ≤ am_ml z) {σ σ' : am_St} {r : Option Value ⊕ Nat} (hrun : am_run n z 0 (am_l0 z as) [] σ = some (r, σ')) : am_Met l G z as σ r σ' := by
  obtain ⟨hB, hchk⟩ := hall z hz
  obtain ⟨hcls, hplain, hpc0, hml9, -, -, -, -, hok, hrk⟩ := am_zB_all hB
  have hmono := am_run_mono hrun
  have body : ∀ (p : Program) (e : Env) (s : State) (m : MethodId) (args : Array Value) (below : List Frame) (meth : Method) (c : Code) (s₁ : State), BodyLoose p l (am_nm z) (headSpec [am_cw z] (am_rm z (g_C σ' - g_C σ) (g_Z σ' - g_Z σ))) (am_by z) (am_ml z) (am_rt z) e s m args below meth c s₁ → c.maxLocals = am_ml z → c.exceptionTable.toList = tableOf (am_hh z) → am_Pc G as σ args s →
      W p l e (headSpec [am_cw z] (am_rm z (g_C σ' - g_C σ) (g_Z σ' - g_Z σ))).room s m args below meth c s.heap [] 0 0 (vx_MQ below (am_Qc G r σ') (am_Xc G r σ') args s (g_C σ' - g_C σ) (g_Z σ' - g_Z σ) (fun q => h_n G ≤ q)) (entryFrame m args (am_ml z)) := by
    intro p e s m args below meth c s₁ B hml htab hP
    obtain ⟨rfl, hBs, hHs, hns, hsc, hlow⟩ := hP
    have hown : s.vm.findClass (am_on (am_own z)) = some m.cls := by rw [← hcls]; exact findClass_of_methodNamed B.named
    have X : am_X G p l s m meth c z := ⟨B.exec, B.bytes, hml, hown, hBs, fun h => (name_of_methodNamed B.named B.method).1.trans (of_decide_eq_true h), B.notSynchronized, hlt, hns, hlow, hchk⟩
    have hq1 : (h_q G).category = 1 := hBs.2.2.2.2.2.2.2.2.2.2.2.1
    have hr := B.returns
    have hV := IH z 0 (am_l0 z as) [] σ r σ' hrun p e (am_rm z (g_C σ' - g_C σ) (g_Z σ' - g_Z σ)) s m (as.map (am_tr G)).toArray below meth c (g_C σ) (g_Z σ) (vx_MQ below (am_Qc G r σ') (am_Xc G r σ') (as.map (am_tr G)).toArray s (g_C σ' - g_C σ) (g_Z σ' - g_Z σ) (fun q => h_n G ≤ q)) X hok (fun _ => htab) (Nat.le_refl _) (Nat.le_refl _) hsc (Nat.le_refl _) (Nat.le_refl _) (Nat.le_refl _) (Nat.le_refl _) ?_ ?_ ?_
    · have h0 := hV s.heap [] _ hHs va_S.rf (am_entry hq1 hlay)
      rw [Nat.sub_self, Nat.sub_self] at h0
      rw [lg_entry_eq]
      have e0 : am_pc z 0 = 0 := hpc0
      rw [e0] at h0
      exact h0
    · intro v hv j ls' hat H locs sl hH hS hL
      obtain ⟨ins, hi, htg, hend⟩ := hat
      have hQ : ∀ t : State, t.heap = H → s.WarmedH t.vm → am_Qc G r σ' (as.map (am_tr G)).toArray s (.returned (v.map (am_tr G))) t := by
        intro t ht _
        refine ⟨v, hv, rfl, by rw [ht]; exact hH, fun q hq => ?_, by rw [ht]; exact hS.1⟩
        rw [ht]
        exact hS.2.1 q (Nat.lt_of_lt_of_le hq hns) (Nat.not_le.mpr hq)
      obtain ⟨real, len, h, -, hd, -, hk⟩ := am_fact X hi
      refine vx_ret ?_
      unfold am_end at hend
      split at hend
      · simp only [am_chkI, Bool.and_eq_true, decide_eq_true_eq] at hk
        obtain ⟨rfl, rfl⟩ := hk
        split at hend
        · rename_i x hx
          split at hend
          · rename_i hc
            cases hend
            obtain ⟨hc1, hc2, hc3⟩ := hc
            have hrt : am_rt z = some (am_rty (am_rk z)) := by
              revert hrk hc1 hc2
              generalize am_rk z = d
              generalize am_rt z = t
              intro hrk hc1 hc2
              split at hrk <;> first | rfl | omega | cases hrk
            exact W.zret X.1 X.2.1 (hr.trans hrt) hc3 hQ hS.2.2 hd
          · cases hend
        · cases hend
      · simp only [am_chkI, Bool.and_eq_true, decide_eq_true_eq] at hk
        obtain ⟨rfl, rfl⟩ := hk
        split at hend
        · rename_i a ha
          split at hend
          · rename_i hc
            cases hend
            have hrt : ∃ nm, am_rt z = some (.object nm) := by
              revert hrk
              rw [hc.1]
              generalize am_rt z = t
              intro hrk
              split at hrk <;> first | exact ⟨_, rfl⟩ | omega | cases hrk
            obtain ⟨nm, hrt⟩ := hrt
            have hQ2 := hQ
            simp only [Option.map_some, am_tr_ref hc.2] at hQ2
            simp only [Option.toList_some, List.map_cons, List.map_nil, am_tr_ref hc.2]
            exact W.aret X.1 X.2.1 (hr.trans hrt) (Or.inl ⟨nm, rfl⟩) (Or.inr ⟨_, rfl⟩) hQ2 hS.2.2 hd
          · cases hend
        · cases hend
      · simp only [am_chkI, Bool.and_eq_true, decide_eq_true_eq] at hk
        obtain ⟨rfl, rfl⟩ := hk
        split at hend
        · rename_i hx
          split at hend
          · rename_i hc
            cases hend
            have hrt : am_rt z = none := by
              revert hrk
              rw [hc]
              generalize am_rt z = t
              intro hrk
              split at hrk <;> first | rfl | omega | cases hrk
            exact W.vret X.1 X.2.1 (hr.trans hrt) hQ hS.2.2 hd
          · cases hend
        · cases hend
      · split at hend <;> cases hend
      · cases hend
    · intro e' he hemp H locs sl pc rest q ce hH hS hce hv hcl
      have hhh : am_hh z = [] := by
        unfold am_hok at hok
        split at hok
        · assumption
        · rename_i h2; rw [h2] at hemp; cases hemp
        · rename_i h2; rw [h2] at hemp; cases hemp
        · cases hok
      rw [hhh] at htab
      refine vx_out (fun x hx => ?_) B.notSynchronized hce hv hcl (fun t ht _ => ?_) hS.2.2 (Nat.le_refl _) (Nat.le_refl _)
      · rw [htab] at hx; cases hx
      · refine ⟨e', he, rfl, by rw [ht]; exact hH, fun q hq => ?_, by rw [ht]; exact hS.1⟩
        rw [ht]
        exact hS.2.1 q (Nat.lt_of_lt_of_le hq hns) (Nat.not_le.mpr hq)
    · intro e' j st' ls' σ1 he hσ hi he2 hnd hcat hc1 hz1 H locs sl hH hS hL
      subst he
      subst hσ
      have hout : ∀ x ∈ c.exceptionTable.toList, False := by
        have hhh : am_hh z = [] := by
          have hk := am_fact X hi
          obtain ⟨real, len, h, -, hd, -, hk⟩ := hk
          unfold am_chkI at hk
          have h0 : am_own z = 0 := by
            cases real with
            | new idx =>
              simp only [Bool.and_eq_true, decide_eq_true_eq, if_neg (show ¬ 1000 + e' < 13 by omega)] at hk
              have hthr := hk.2.2
              unfold am_thr at hthr
              split at hthr
              · simp only [Bool.and_eq_true, decide_eq_true_eq] at hthr
                exact hthr.1.1.1.1.1.1
              · cases hthr
            | _ => cases hk
          unfold am_hok at hok
          split at hok
          · assumption
          · simp only [Bool.and_eq_true, decide_eq_true_eq] at hok
            omega
          · simp only [Bool.and_eq_true, decide_eq_true_eq] at hok
            omega
          · cases hok
        intro x hx
        rw [htab, hhh] at hx
        cases hx
      exact am_throw X hi he2 hnd hcat hout (Nat.le_refl _) (Nat.le_refl _) hsc hc1 hz1 (Nat.le_refl _) (Nat.le_refl _) hH hS hL
  cases hh : am_hh z with
  | nil =>
    have hc : am_cw z = .code (am_nm z) (am_by z) (am_ml z) (am_rt z) := by unfold am_cw; rw [hh]
    refine vx_ofW (cc := am_by z) (maxL := am_ml z) (ret := am_rt z) hplain (by rw [hc]) ?_
    intro p e s m args below meth c s₁ B hml ht hP
    refine body p e s m args below meth c s₁ B hml ?_ hP
    rw [hh]
    cases hx : c.exceptionTable.toList with
    | nil => rfl
    | cons a b => exact (ht a (by rw [hx]; exact List.mem_cons_self)).elim
  | cons a b =>
    have hc : am_cw z = .codeWith (am_nm z) (am_by z) (am_ml z) (am_rt z) (am_hh z) := by unfold am_cw; rw [hh]
    refine vx_ofWH (cc := am_by z) (maxL := am_ml z) (ret := am_rt z) (hh := am_hh z) hplain (by rw [hc]) ?_
    intro p e s m args below meth c s₁ B hml hP
    refine body p e s m args below meth c s₁ B hml ?_ hP
    exact vx_table (x := am_nm z) B (atoms_spec (ws := [am_cw z]) B.pre _ (by rw [hc]; exact List.mem_singleton.mpr rfl))
