/-! how a method ends -/
theorem am_chk_dec {own : Nat} {ini : Bool} {by_ : ByteArray} {d : List am_Dr} : ∀ (c : List Instr) (nx : List am_Dr), am_chkR own ini by_ d c nx = true → ∀ q ∈ nx, decode by_ q.1 = .ok (q.2.1, q.2.2.1)
  | [], [], _, q, hq => by simp at hq
  | [], _ :: _, h, _, _ => by simp [am_chkR] at h
  | _ :: _, [], _, q, hq => by simp at hq
  | ins0 :: c, (pc, real, len, hh) :: nx, h, q, hq => by
    simp only [am_chkR, Bool.and_eq_true, decide_eq_true_eq] at h
    rcases List.mem_cons.mp hq with rfl | hq
    · exact h.1.1.1
    · exact am_chk_dec c nx h.2 q hq
theorem am_srok : (am_srL.all fun q => decide (lw_tbl[q.2.2.2]? = some (.stringRef q.1 q.2.1 q.2.2.1))) = true := by decide +kernel
def am_enm : List String := ["java/lang/RuntimeException", "java/lang/Exception"]
theorem am_tw0 : ((Cond.classLink "RecordDesk" 201 th_N :: Cond.initialized th_N :: th_at "RecordDesk" 205).all fun w => decide (w ∈ lw_tbl) && am_lw w && vx_ot w) = true := by decide +kernel
theorem am_tw1 : ((Cond.classLink "RecordDesk" 105 "java/lang/IllegalArgumentException" :: Cond.initialized "java/lang/IllegalArgumentException" :: vx_atS "RecordDesk" 109 "java/lang/IllegalArgumentException" am_enm).all fun w => decide (w ∈ lw_tbl) && am_lw w && vx_ot w) = true := by decide +kernel
theorem am_tfit : Bundle.fit "java/lang/IllegalArgumentException" = true ∧ ∀ n ∈ am_enm, Bundle.fit n = true := by decide +kernel
section Ends
variable {G : am_G} {p : Program} {l : Launch} {e : Env} {R : Room} {s : State} {m : MethodId} {args : Array Value} {below : List Frame} {meth : Method} {c : Code} {c0 z0 : Nat} {Q : State → Prop} {y i : Nat} {ls st : List Value} {σ : am_St}
/-- an exception of its own leaves the method -/
theorem am_throw (X : am_X G p l s m meth c y) {e' : Nat} (hi : (am_code y)[i]? = some (.new (1000 + e'))) (he2 : e' < 2) (hnd : 8 ≤ am_nd y) (hcat : (st.map fun v => v.category).sum ≤ 8) (hout : ∀ x ∈ c.exceptionTable.toList, False) (hRf : am_nd y + 1 ≤ R.frames) (hRl : 38 * (am_nd y + 1) ≤ R.locals)
    (hs0 : s.heap.size ≤ h_n G + c0) (hc0 : c0 ≤ g_C σ) (hz0 : z0 ≤ g_Z σ) (hRc : g_C (p_E σ) - c0 ≤ R.cells) (hRs : g_Z (p_E σ) - z0 ≤ R.slots) {Qc : Array Value → State → Outcome → State → Prop}
    {H : Heap} {locs : List Loc} {sl : Array Slot} (hH : am_H G σ H) (hS : va_S (fun q => h_n G ≤ q) s.heap H locs) (hL : am_LH G sl (am_ml y) ls) :
    W p l e R s m args below meth c H locs (g_C σ - c0) (g_Z σ - z0) (vx_MQ below Qc (am_Xc G (.inr e') (p_E σ)) args s (g_C (p_E σ) - c0) (g_Z (p_E σ) - z0) (fun q => h_n G ≤ q)) (F0 m (am_pc y i) sl (st.map (am_tr G))) := by
  obtain ⟨real, len, h, hrow, hd, hn, hk⟩ := am_fact X hi
  have hdec := am_chk_dec _ _ X.2.2.2.2.2.2.2.2.2.2
  unfold am_chkI at hk
  cases real with
  | new idx =>
    simp only [Bool.and_eq_true, decide_eq_true_eq, if_neg (show ¬ 1000 + e' < 13 by omega), Nat.add_sub_cancel_left] at hk
    obtain ⟨rfl, hidx, hthr⟩ := hk
    have hC : g_C (p_E σ) - c0 = g_C σ - c0 + 1 := by show g_C σ + 1 - c0 = _; omega
    have hZ : g_Z (p_E σ) - z0 = g_Z σ - z0 + 6 := by show g_Z σ + 6 - z0 = _; omega
    have hq1 : (h_q G).category = 1 := X.2.2.2.2.1.2.2.2.2.2.2.2.2.2.2.2.1
    have hnH : (h_H G).size = h_n G := X.2.2.2.2.1.2.2.2.2.2.2.2.2.2.2.1
    have hkeep : ∀ a : Nat, a < (h_H G).size → ¬ h_n G ≤ a → s.heap[a]? = (h_H G)[a]? := fun a h1 _ => X.2.2.2.2.2.2.2.2.2.1 a (by rw [← hnH]; exact h1)
    have hU := X.2.2.2.2.1.2.2.2.2.2.2.1.kept hkeep
    have hN := X.2.2.2.2.1.2.2.2.2.2.2.2.1.kept hkeep
    have hxc : ∀ t : State, s.vm.Alike t.vm → H.size ≤ t.heap.size → (∀ q : Nat, q < H.size → t.heap[q]? = H[q]?) → am_Xc G (.inr e') (p_E σ) (am_en e') s t := by
      intro t _ h1 h2
      refine ⟨e', rfl, rfl, ⟨Nat.le_succ_of_le hH.1, hH.2.1, hH.2.2.1, fun k q hk => ?_⟩, fun q hq => ?_, Nat.le_trans hS.1 h1⟩
      · exact (hH.2.2.2 k q hk).kept (h2 _ (hH.2.2.2 k q hk).lt)
      · have h3 := X.2.2.2.2.2.2.2.2.1
        rw [h2 q (Nat.lt_of_lt_of_le hq (Nat.le_trans h3 hS.1))]
        exact hS.2.1 q (Nat.lt_of_lt_of_le hq h3) (Nat.not_le.mpr hq)
    have key : ∀ L : List Cond, (L.all fun w => decide (w ∈ lw_tbl) && am_lw w && vx_ot w) = true → (∀ w ∈ L, w.before args s = true) ∧ ∀ w ∈ L, vx_ot w = true := by
      intro L hL
      have h2 : ∀ w ∈ L, w.before args s = true ∧ vx_ot w = true := by
        intro w hw
        have h1 := List.all_eq_true.mp hL w hw
        simp only [Bool.and_eq_true, decide_eq_true_eq] at h1
        exact ⟨X.2.2.2.2.1.1 w h1.1.1 h1.1.2 args, h1.2⟩
      exact ⟨fun w hw => (h2 w hw).1, fun w hw => (h2 w hw).2⟩
    obtain ⟨t0, t0'⟩ := key _ am_tw0
    obtain ⟨t1, t1'⟩ := key _ am_tw1
    have hmem : ∀ q ∈ (am_dc y).drop (i + 1), decode (am_by y) q.1 = .ok (q.2.1, q.2.2.1) := fun q hq => hdec q (List.mem_of_mem_drop hq)
    unfold am_thr at hthr
    split at hthr
    · rename_i p1 u1 p2 i2 n2 h2 p3 cx u3 p4 u4 u5 hnx
      simp only [Bool.and_eq_true, decide_eq_true_eq] at hthr
      obtain ⟨⟨⟨⟨⟨⟨ho, rfl⟩, rfl⟩, rfl⟩, rfl⟩, rfl⟩, hstr⟩ := hthr
      rw [hnx] at hmem
      have d3 := hmem (am_pc y i + 3, .dup, 1, u1) (by simp)
      have d4 := hmem (am_pc y i + 4, i2, n2, h2) (by simp)
      have d6 := hmem (am_pc y i + 4 + n2, .invokespecial (am_ec e'), 3, u3) (by simp)
      have d9 := hmem (am_pc y i + 4 + n2 + 3, .athrow, 1, u4) (by simp)
      have hstrR : ∀ x : Nat, (match lw_tbl[h2.headD 0]? with
          | some (.stringRef o k _) => decide (o = "RecordDesk") && decide (k = x) && (am_srL.any fun q => q.2.2.2 == h2.headD 0)
          | _ => false) = true → ∃ tx sa, vk_R "RecordDesk" x tx sa s := by
        intro x hx
        split at hx
        · rename_i o k tx hq
          simp only [Bool.and_eq_true, decide_eq_true_eq] at hx
          obtain ⟨⟨rfl, rfl⟩, hany⟩ := hx
          obtain ⟨q, hq1, hq2⟩ := List.any_eq_true.mp hany
          have hq3 : q.2.2.2 = h2.headD 0 := by simpa using hq2
          have h5 := List.all_eq_true.mp am_srok q hq1
          have h6 := of_decide_eq_true h5
          rw [hq3, hq] at h6
          have h6' := Option.some.inj h6
          injection h6' with e1 e2 e3
          obtain ⟨jj, hjj⟩ := List.getElem?_of_mem hq1
          have h7 := X.2.2.2.2.1.2.2.1 q hq1 jj hjj
          rw [← e1, ← e2] at h7
          exact ⟨_, _, h7⟩
        · cases hx
      have hrl : (((st.map (am_tr G)).map fun v => v.category).sum) + (13 * (am_enm.length + 1) + 43) ≤ R.locals := by
        rw [am_sumcat hq1]
        have : am_enm.length = 2 := rfl
        omega
      have hownR : s.vm.findClass "RecordDesk" = some m.cls := by
        have h9 := X.2.2.2.1
        rw [ho] at h9
        exact h9
      cases i2 with
      | ldc x =>
        simp only [Bool.and_eq_true, decide_eq_true_eq] at hstr
        obtain ⟨rfl, hstr⟩ := hstr
        obtain ⟨tx, sa, hR⟩ := hstrR x hstr
        subst hidx
        rcases (show e' = 0 ∨ e' = 1 by omega) with rfl | rfl
        · exact th_throwS X.1 X.2.1 X.2.2.2.2.2.2.2.1 hownR (t0 _ List.mem_cons_self) (t0 _ (List.mem_cons_of_mem _ List.mem_cons_self)) hR (fun w hw => t0 w (List.mem_cons_of_mem _ (List.mem_cons_of_mem _ hw))) t0' hU hN hS (hL.1.trans X.2.2.1.symm) hd d3 d4 d6 d9 (fun x hx => (hout x hx).elim) (by omega) hrl (by rw [← hC]; exact hRc) (by rw [← hZ]; exact hRs) X.2.2.2.2.2.2.1 hxc hS.2.2 (by rw [hC]; exact Nat.le_refl _) (by rw [hZ]; exact Nat.le_refl _)
        · exact vx_throwS X.1 X.2.1 X.2.2.2.2.2.2.2.1 hownR am_tfit.1 am_tfit.2 (t1 _ List.mem_cons_self) (t1 _ (List.mem_cons_of_mem _ List.mem_cons_self)) hR (fun w hw => t1 w (List.mem_cons_of_mem _ (List.mem_cons_of_mem _ hw))) t1' hU hN hS (hL.1.trans X.2.2.1.symm) hd d3 d4 d6 d9 (fun x hx => (hout x hx).elim) (by show 2 + 3 < _; omega) hrl (by rw [← hC]; exact hRc) (by rw [← hZ]; exact hRs) X.2.2.2.2.2.2.1 hxc hS.2.2 (by rw [hC]; exact Nat.le_refl _) (by rw [hZ]; exact Nat.le_refl _)
      | ldc_w x =>
        simp only [Bool.and_eq_true, decide_eq_true_eq] at hstr
        obtain ⟨rfl, hstr⟩ := hstr
        obtain ⟨tx, sa, hR⟩ := hstrR x hstr
        subst hidx
        rcases (show e' = 0 ∨ e' = 1 by omega) with rfl | rfl
        · exact th_throwSW X.1 X.2.1 X.2.2.2.2.2.2.2.1 hownR (t0 _ List.mem_cons_self) (t0 _ (List.mem_cons_of_mem _ List.mem_cons_self)) hR (fun w hw => t0 w (List.mem_cons_of_mem _ (List.mem_cons_of_mem _ hw))) t0' hU hN hS (hL.1.trans X.2.2.1.symm) hd d3 d4 d6 d9 (fun x hx => (hout x hx).elim) (by omega) hrl (by rw [← hC]; exact hRc) (by rw [← hZ]; exact hRs) X.2.2.2.2.2.2.1 hxc hS.2.2 (by rw [hC]; exact Nat.le_refl _) (by rw [hZ]; exact Nat.le_refl _)
        · exact vx_throwSW X.1 X.2.1 X.2.2.2.2.2.2.2.1 hownR am_tfit.1 am_tfit.2 (t1 _ List.mem_cons_self) (t1 _ (List.mem_cons_of_mem _ List.mem_cons_self)) hR (fun w hw => t1 w (List.mem_cons_of_mem _ (List.mem_cons_of_mem _ hw))) t1' hU hN hS (hL.1.trans X.2.2.1.symm) hd d3 d4 d6 d9 (fun x hx => (hout x hx).elim) (by show 2 + 3 < _; omega) hrl (by rw [← hC]; exact hRc) (by rw [← hZ]; exact hRs) X.2.2.2.2.2.2.1 hxc hS.2.2 (by rw [hC]; exact Nat.le_refl _) (by rw [hZ]; exact Nat.le_refl _)
      | _ => cases hstr
    · cases hthr
  | _ => cases hk
end Ends
