/-! contracts: what a method of the abstract machine promises of the machine -/
theorem am_B.warm {G : am_G} {s U : State} (hW : s.WarmedH U.vm) (h : am_B G s) : am_B G U := by
  obtain ⟨h1, h2, h3, h4, h5, h6, h7, h8, h9, g1, g2, g3, g4, g5⟩ := h
  have hal := hW.alike
  refine ⟨fun w hw hl a => ?_, va_K.moved hal h2, fun q hq j hj => (h3 q hq j hj).warm hW, fun j hj => (h4 j hj).moved hal, h5.moved hal, h6.moved hal, h7.moved hal, h8.moved hal, h9.moved hal, g1, g2, g3, g4, g5.moved hal⟩
  have hb := h1 w hw hl #[]
  unfold am_lw at hl
  split at hl
  · exact (va_Nw.warmM hW (va_Nw.of rfl hb)).use rfl
  · exact (va_Nw.warmC hW (va_Nw.of rfl hb)).use rfl
  · exact (va_Nw.warmD hW (va_Nw.of rfl hb)).use rfl
  · exact (va_AO.of hb).moved hal
  · exact word_at hW (good_of_word hl) hb
def am_Pc (G : am_G) (as : List Value) (σ : am_St) : Array Value → State → Prop := fun a U => a = (as.map (am_tr G)).toArray ∧ am_B G U ∧ am_H G σ U.heap ∧ h_n G ≤ U.heap.size ∧ U.heap.size ≤ h_n G + g_C σ ∧ ∀ q : Nat, q < h_n G → U.heap[q]? = (h_H G)[q]?
def am_Qc (G : am_G) (r : Option Value ⊕ Nat) (σ' : am_St) : Array Value → State → Outcome → State → Prop := fun _ st o t => ∃ v, r = .inl v ∧ o = .returned (v.map (am_tr G)) ∧ am_H G σ' t.heap ∧ (∀ q : Nat, q < h_n G → t.heap[q]? = st.heap[q]?) ∧ st.heap.size ≤ t.heap.size
def am_Xc (G : am_G) (r : Option Value ⊕ Nat) (σ' : am_St) : String → State → State → Prop := fun E st t => ∃ e, r = .inr e ∧ E = am_en e ∧ am_H G σ' t.heap ∧ (∀ q : Nat, q < h_n G → t.heap[q]? = st.heap[q]?) ∧ st.heap.size ≤ t.heap.size
def am_rm (y mc ms : Nat) : Room := { frames := am_nd y + 1, cells := mc, slots := ms, locals := 38 * (am_nd y + 1) }
def am_cw (z : Nat) : Cond := match am_hh z with
  | [] => .code (am_nm z) (am_by z) (am_ml z) (am_rt z)
  | _ :: _ => .codeWith (am_nm z) (am_by z) (am_ml z) (am_rt z) (am_hh z)
theorem am_Pc_blind {G : am_G} {as : List Value} {σ : am_St} : FrameBlind (am_Pc G as σ) := fun _ U g mk h => ⟨h.1, h.2.1.warm (s := U) (U := U.calling g mk _) (State.WarmedH.refl U), h.2.2⟩
/-- what a method of the abstract machine promises -/
def am_Met (l : Launch) (G : am_G) (z : Nat) (as : List Value) (σ : am_St) (r : Option Value ⊕ Nat) (σ' : am_St) : Prop :=
  vx_Met l (am_nm z) [am_cw z] (am_rm z (g_C σ' - g_C σ) (g_Z σ' - g_Z σ)) (am_Pc G as σ) (am_Qc G r σ') (am_Xc G r σ') (g_C σ' - g_C σ) (g_Z σ' - g_Z σ) (fun q => h_n G ≤ q)
/-- the locals at a method's beginning -/
theorem am_args_mem {G : am_G} (hq : (h_q G).category = 1) : ∀ (as : List Value) (k : Nat) (i : Nat) (v : Value), (am_lay as)[i]? = some v → v ≠ am_U → (k + i, am_tr G v) ∈ lv_args k (as.map (am_tr G))
  | [], k, i, v, h, _ => by simp [am_lay] at h
  | a :: as, k, i, v, h, hu => by
    simp only [List.map_cons, lv_args, am_tr_cat hq]
    unfold am_lay at h
    by_cases hc : a.category = 2
    · have hl : am_isL a = true := by simp [am_isL, hc]
      rw [if_pos hl] at h
      rw [if_pos hc]
      match i, h with
      | 0, h => simp at h; subst h; exact List.mem_cons_self
      | 1, h => simp at h; exact absurd h.symm hu
      | i + 2, h =>
        simp at h
        have := am_args_mem hq as (k + 2) i v h hu
        rw [show k + 2 + i = k + (i + 2) by omega] at this
        exact List.mem_cons_of_mem _ this
    · have hl : ¬ am_isL a = true := by simp [am_isL, hc]
      rw [if_neg hl] at h
      rw [if_neg hc]
      match i, h with
      | 0, h => simp at h; subst h; exact List.mem_cons_self
      | i + 1, h =>
        simp at h
        have := am_args_mem hq as (k + 1) i v h hu
        rw [show k + 1 + i = k + (i + 1) by omega] at this
        exact List.mem_cons_of_mem _ this
theorem am_lay_len {G : am_G} (hq : (h_q G).category = 1) : ∀ as : List Value, (lg_sl (as.map (am_tr G))).length = (am_lay as).length
  | [] => rfl
  | a :: as => by
    have ih := am_lay_len hq as
    unfold lg_sl at ih ⊢
    unfold am_lay
    simp only [List.map_cons, List.flatMap_cons, List.length_append, am_tr_cat hq]
    by_cases hc : a.category = 2
    · have hl : am_isL a = true := by simp [am_isL, hc]
      rw [if_pos hc, if_pos hl, ih]
      simp only [List.length_cons, List.length_nil]
      omega
    · have hl : ¬ am_isL a = true := by simp [am_isL, hc]
      rw [if_neg hc, if_neg hl, ih]
      simp only [List.length_cons, List.length_nil]
      omega
theorem am_entry {G : am_G} (hq : (h_q G).category = 1) {z : Nat} {as : List Value} (hlen : (am_lay as).length ≤ am_ml z) : am_LH G ((lg_sl (as.map (am_tr G)) ++ List.replicate (am_ml z - (lg_sl (as.map (am_tr G))).length) Slot.unset).toArray) (am_ml z) (am_l0 z as) := by
  have h := lv_entry (as.map (am_tr G)) (n := am_ml z) (by rw [am_lay_len hq]; exact hlen)
  refine ⟨h.1, h.2.1, by simp [am_l0]; omega, fun i v hi hu => ?_⟩
  unfold am_l0 at hi
  by_cases hl : i < (am_lay as).length
  · rw [List.getElem?_append_left hl] at hi
    have := am_args_mem hq as 0 i v hi hu
    rw [Nat.zero_add] at this
    exact h.2.2 _ this
  · rw [List.getElem?_append_right (Nat.le_of_not_lt hl), List.getElem?_replicate] at hi
    split at hi
    · cases hi; exact absurd rfl hu
    · cases hi
