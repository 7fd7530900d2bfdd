/-! the abstract heap and the machine's heap -/
/-- the classes and slots; the arrays' classes; the first address; the script's; the Strings', their bytes'; what a static of the JDK's holds; the heap at first; the script -/
abbrev am_G : Type := va_G × (Nat → ClassId) × Nat × Nat × (Nat → Nat) × (Nat → Nat) × Value × Heap × Nat × (Nat → Int32)
abbrev h_D (G : am_G) : va_G := G.1
abbrev h_c (G : am_G) : Nat → ClassId := G.2.1
abbrev h_n (G : am_G) : Nat := G.2.2.1
abbrev h_b (G : am_G) : Nat := G.2.2.2.1
abbrev h_d (G : am_G) : Nat → Nat := G.2.2.2.2.1
abbrev h_v (G : am_G) : Nat → Nat := G.2.2.2.2.2.1
abbrev h_q (G : am_G) : Value := G.2.2.2.2.2.2.1
abbrev h_H (G : am_G) : Heap := G.2.2.2.2.2.2.2.1
abbrev h_L (G : am_G) : Nat := G.2.2.2.2.2.2.2.2.1
abbrev h_x (G : am_G) : Nat → Int32 := G.2.2.2.2.2.2.2.2.2
def am_ad (G : am_G) (a : Nat) : Nat := if a < 1000000 then h_n G + a else if a < 2000000 then h_b G else if a < 3000000 then h_d G (a - 2000000) else h_v G (a - 3000000)
def am_tr (G : am_G) : Value → Value
  | .ref a => if a < 4000000 then .ref (am_ad G a) else h_q G
  | v => v
theorem am_tr_obj {G : am_G} {k : Nat} (h : k < 1000000) : am_tr G (.ref k) = .ref (h_n G + k) := by
  simp only [am_tr, am_ad]; rw [if_pos (show k < 4000000 by omega), if_pos h]
theorem am_tr_scr {G : am_G} : am_tr G (.ref 1000000) = .ref (h_b G) := by
  rfl
theorem am_tr_str {G : am_G} {k : Nat} (h : k < 55) : am_tr G (.ref (2000000 + k)) = .ref (h_d G k) := by
  simp only [am_tr, am_ad]; rw [if_pos (show 2000000 + k < 4000000 by omega), if_neg (show ¬ 2000000 + k < 1000000 by omega), if_neg (show ¬ 2000000 + k < 2000000 by omega), if_pos (show 2000000 + k < 3000000 by omega), Nat.add_sub_cancel_left]
theorem am_tr_byt {G : am_G} {k : Nat} (h : k < 55) : am_tr G (.ref (3000000 + k)) = .ref (h_v G k) := by
  simp only [am_tr, am_ad]; rw [if_pos (show 3000000 + k < 4000000 by omega), if_neg (show ¬ 3000000 + k < 1000000 by omega), if_neg (show ¬ 3000000 + k < 2000000 by omega), if_neg (show ¬ 3000000 + k < 3000000 by omega), Nat.add_sub_cancel_left]
theorem am_tr_ref {G : am_G} {k : Nat} (h : k < 4000000) : am_tr G (.ref k) = .ref (am_ad G k) := by
  simp only [am_tr]; rw [if_pos h]
theorem am_tr_cat {G : am_G} (hq : (h_q G).category = 1) (v : Value) : (am_tr G v).category = v.category := by
  cases v <;> simp only [am_tr]
  split
  · rfl
  · rw [hq]; rfl
/-- what a field holds in the machine -/
def am_fwk (G : am_G) (σ : am_St) (k f d : Nat) : Value := match d with
  | 1 => .long (g_J σ k f)
  | 2 => va_rf ((g_K σ k f).map (fun a => h_n G + a))
  | 3 => va_rf ((g_S σ k f).map (h_d G))
  | _ => .int (g_I σ k f)
def am_fw (G : am_G) (σ : am_St) (k c f : Nat) : Value := am_fwk G σ k f (am_fk c f)
def am_E (G : am_G) (σ : am_St) (k : Nat) : va_E := match (am_tau k).1 with
  | 0 => .inl (h_c G 0, (am_tau k).2, .inl (g_I σ k))
  | 1 => .inl (h_c G 1, (am_tau k).2, .inr (.inl (g_J σ k)))
  | 2 => .inl (h_c G 2, (am_tau k).2, .inl (g_I σ k))
  | 3 => .inl (h_c G 3, (am_tau k).2, .inl (g_I σ k))
  | 4 => .inl (h_c G 4, (am_tau k).2, .inr (.inr (.inr (.inr (fun j => (g_S σ k j).map (h_d G))))))
  | t => .inr (t - 10, (List.range (am_nf (t - 10))).map (am_fw G σ k (t - 10)))
def am_ws (G : am_G) (σ : am_St) : va_W := (List.range (g_N σ)).map (fun k => (h_n G + k, am_E G σ k))
theorem am_ws_get {G : am_G} {σ : am_St} {k : Nat} (h : k < g_N σ) : (am_ws G σ)[k]? = some (h_n G + k, am_E G σ k) := by
  simp [am_ws, h]
theorem am_ws_set {G : am_G} {σ σ' : am_St} {k : Nat} (hN : g_N σ' = g_N σ) (h : ∀ j, j ≠ k → am_E G σ' j = am_E G σ j) : (am_ws G σ).set k (h_n G + k, am_E G σ' k) = am_ws G σ' := by
  apply List.ext_getElem?
  intro j
  rw [List.getElem?_set]
  by_cases hj : j < g_N σ
  · rw [am_ws_get (σ := σ') (by rw [hN]; exact hj), am_ws_get (σ := σ) hj]
    by_cases hk : k = j
    · subst hk
      simp [am_ws, hj]
    · rw [if_neg hk, h j (Ne.symm hk)]
  · by_cases hk : k = j
    · subst hk
      simp [am_ws, hj, hN]
    · rw [if_neg hk]
      simp [am_ws, hj, hN]
theorem am_ws_D {G : am_G} {σ : am_St} : va_D (fun q => h_n G ≤ q) (am_ws G σ) := by
  have key : ∀ (k : Nat) (q : Nat × va_E), (am_ws G σ)[k]? = some q → q.1 = h_n G + k := by
    intro k q h
    by_cases hk : k < g_N σ
    · rw [am_ws_get hk] at h; cases h; rfl
    · simp [am_ws, hk] at h
  refine ⟨fun i j p q h1 h2 he => ?_, fun k q h => ?_⟩
  · rw [key i p h1, key j q h2] at he; omega
  · rw [key k q h]; exact Nat.le_add_right _ _
/-- the heap holds what the abstract heap says -/
def am_H (G : am_G) (σ : am_St) (H : Heap) : Prop := g_N σ ≤ g_C σ ∧ g_L σ = h_L G ∧ g_X σ = h_x G ∧ va_P (h_D G) am_cls (am_ws G σ) H
theorem am_E_I {G : am_G} {σ : am_St} {k j : Nat} {f : Nat → Int32} (h : j ≠ k) : am_E G (p_I σ k f) j = am_E G σ j := by
  have e : g_I (p_I σ k f) j = g_I σ j := by show (if j = k then f else g_I σ j) = _; rw [if_neg h]
  unfold am_E am_fw am_fwk
  rw [e]; rfl
theorem am_E_J {G : am_G} {σ : am_St} {k j : Nat} {f : Nat → Int64} (h : j ≠ k) : am_E G (p_J σ k f) j = am_E G σ j := by
  have e : g_J (p_J σ k f) j = g_J σ j := by show (if j = k then f else g_J σ j) = _; rw [if_neg h]
  unfold am_E am_fw am_fwk
  rw [e]; rfl
theorem am_E_K {G : am_G} {σ : am_St} {k j : Nat} {f : Nat → Option Nat} (h : j ≠ k) : am_E G (p_K σ k f) j = am_E G σ j := by
  have e : g_K (p_K σ k f) j = g_K σ j := by show (if j = k then f else g_K σ j) = _; rw [if_neg h]
  unfold am_E am_fw am_fwk
  rw [e]; rfl
theorem am_E_S {G : am_G} {σ : am_St} {k j : Nat} {f : Nat → Option Nat} (h : j ≠ k) : am_E G (p_S σ k f) j = am_E G σ j := by
  have e : g_S (p_S σ k f) j = g_S σ j := by show (if j = k then f else g_S σ j) = _; rw [if_neg h]
  unfold am_E am_fw am_fwk
  rw [e]; rfl
theorem g_I_same {σ : am_St} {k : Nat} {f : Nat → Int32} : g_I (p_I σ k f) k = f := by show (if k = k then f else g_I σ k) = _; rw [if_pos rfl]
theorem g_I_ne {σ : am_St} {k j : Nat} {f : Nat → Int32} (h : j ≠ k) : g_I (p_I σ k f) j = g_I σ j := by show (if j = k then f else g_I σ j) = _; rw [if_neg h]
theorem g_J_same {σ : am_St} {k : Nat} {f : Nat → Int64} : g_J (p_J σ k f) k = f := by show (if k = k then f else g_J σ k) = _; rw [if_pos rfl]
theorem g_J_ne {σ : am_St} {k j : Nat} {f : Nat → Int64} (h : j ≠ k) : g_J (p_J σ k f) j = g_J σ j := by show (if j = k then f else g_J σ j) = _; rw [if_neg h]
theorem g_K_same {σ : am_St} {k : Nat} {f : Nat → Option Nat} : g_K (p_K σ k f) k = f := by show (if k = k then f else g_K σ k) = _; rw [if_pos rfl]
theorem g_S_same {σ : am_St} {k : Nat} {f : Nat → Option Nat} : g_S (p_S σ k f) k = f := by show (if k = k then f else g_S σ k) = _; rw [if_pos rfl]
/-- the locals: what the list tells is held -/
def am_LH (G : am_G) (sl : Array Slot) (n : Nat) (ls : List Value) : Prop := sl.size = n ∧ lv_wf sl ∧ ls.length = n ∧ ∀ (i : Nat) (v : Value), ls[i]? = some v → v ≠ am_U → sl[i]? = some (.val (am_tr G v))
/-- the same as pairs -/
def am_lp (G : am_G) (ls : List Value) : List (Nat × Value) := (List.range ls.length).filterMap (fun i => if ls.getD i am_U = am_U then none else some (i, am_tr G (ls.getD i am_U)))
theorem am_lp_mem {G : am_G} {ls : List Value} {q : Nat × Value} : q ∈ am_lp G ls ↔ ∃ v, ls[q.1]? = some v ∧ v ≠ am_U ∧ q.2 = am_tr G v := by
  constructor
  · intro h
    obtain ⟨i, hi, he⟩ := List.mem_filterMap.mp h
    have hl : i < ls.length := List.mem_range.mp hi
    have hg : ls.getD i am_U = ls[i] := by simp [hl]
    by_cases hu : ls.getD i am_U = am_U
    · rw [if_pos hu] at he; cases he
    · rw [if_neg hu] at he
      cases he
      exact ⟨ls[i], List.getElem?_eq_getElem hl, by rw [← hg]; exact hu, by rw [hg]⟩
  · rintro ⟨v, h1, h2, h3⟩
    have hl : q.1 < ls.length := (List.getElem?_eq_some_iff.mp h1).1
    have hg : ls.getD q.1 am_U = v := by simp [List.getD, h1]
    refine List.mem_filterMap.mpr ⟨q.1, List.mem_range.mpr hl, ?_⟩
    rw [hg, if_neg h2, ← h3]
theorem am_LH.has {G : am_G} {sl : Array Slot} {n : Nat} {ls : List Value} (h : am_LH G sl n ls) : lv_has sl n (am_lp G ls) := by
  refine ⟨h.1, h.2.1, fun q hq => ?_⟩
  obtain ⟨v, h1, h2, h3⟩ := am_lp_mem.mp hq
  rw [h3]; exact h.2.2.2 q.1 v h1 h2
theorem am_LH.at {G : am_G} {sl : Array Slot} {n : Nat} {ls : List Value} (h : am_LH G sl n ls) {k : Nat} {v : Value} (hv : ls.getD k am_U = v) (hu : v ≠ am_U) : sl[k]? = some (.val (am_tr G v)) := by
  refine h.2.2.2 k v ?_ hu
  cases hk : ls[k]? with
  | some w => simp [List.getD, hk] at hv; rw [hv]
  | none => simp [List.getD, hk] at hv; exact absurd hv.symm hu
/-- behind a store of one slot -/
theorem am_LH.sto {G : am_G} (hq : (h_q G).category = 1) {sl sl' : Array Slot} {n k : Nat} {ls ls' : List Value} {v : Value} (h : am_LH G sl n ls) (hs : am_sto ls k v = some ls')
    (h' : lv_has sl' n ((k, am_tr G v) :: (am_lp G ls).filter (fun q => !(q.1 == k) && !(q.1 + 1 == k && q.2.category == 2)))) : am_LH G sl' n ls' := by
  unfold am_sto at hs
  split at hs
  · rename_i hc
    cases hs
    refine ⟨h'.1, h'.2.1, by rw [List.length_set]; exact h.2.2.1, fun i w hi hu => ?_⟩
    rw [List.getElem?_set] at hi
    by_cases hk : k = i
    · subst hk
      rw [if_pos rfl, if_pos hc.1] at hi
      cases hi
      exact h'.2.2 (k, am_tr G v) List.mem_cons_self
    · rw [if_neg hk] at hi
      refine h'.2.2 (i, am_tr G w) (List.mem_cons_of_mem _ (List.mem_filter.mpr ⟨am_lp_mem.mpr ⟨w, hi, hu, rfl⟩, ?_⟩))
      have h1 : ¬ i = k := Ne.symm hk
      by_cases h2 : i + 1 = k
      · have h3 : am_isL (ls.getD (k - 1) am_U) = false := hc.2.resolve_left (by omega)
        have h4 : ls.getD (k - 1) am_U = w := by rw [show k - 1 = i by omega]; simp [List.getD, hi]
        rw [h4] at h3
        have h5 : ¬ w.category = 2 := by
          intro h6
          simp [am_isL, h6] at h3
        simp [h1, h2, am_tr_cat hq, h5]
      · simp [h1, h2]
  · cases hs
/-- behind a store of two slots -/
theorem am_LH.sto2 {G : am_G} (hq : (h_q G).category = 1) {sl sl' : Array Slot} {n k : Nat} {ls ls' : List Value} {v : Value} (h : am_LH G sl n ls) (hs : am_sto ls k v = some ls')
    (h' : lv_has sl' n ((k, am_tr G v) :: (am_lp G ls).filter (fun q => !(q.1 == k) && (!(q.1 == k + 1) && !(q.1 + 1 == k && q.2.category == 2))))) : am_LH G sl' n (ls'.set (k + 1) am_U) := by
  unfold am_sto at hs
  split at hs
  · rename_i hc
    cases hs
    refine ⟨h'.1, h'.2.1, by rw [List.length_set, List.length_set]; exact h.2.2.1, fun i w hi hu => ?_⟩
    rw [List.getElem?_set] at hi
    by_cases hk1 : k + 1 = i
    · rw [if_pos hk1] at hi
      split at hi
      · cases hi; exact absurd rfl hu
      · cases hi
    · rw [if_neg hk1, List.getElem?_set] at hi
      by_cases hk : k = i
      · subst hk
        rw [if_pos rfl, if_pos hc.1] at hi
        cases hi
        exact h'.2.2 (k, am_tr G v) List.mem_cons_self
      · rw [if_neg hk] at hi
        refine h'.2.2 (i, am_tr G w) (List.mem_cons_of_mem _ (List.mem_filter.mpr ⟨am_lp_mem.mpr ⟨w, hi, hu, rfl⟩, ?_⟩))
        have h1 : ¬ i = k := Ne.symm hk
        have h7 : ¬ i = k + 1 := Ne.symm hk1
        by_cases h2 : i + 1 = k
        · have h3 : am_isL (ls.getD (k - 1) am_U) = false := hc.2.resolve_left (by omega)
          have h4 : ls.getD (k - 1) am_U = w := by rw [show k - 1 = i by omega]; simp [List.getD, hi]
          rw [h4] at h3
          have h5 : ¬ w.category = 2 := by
            intro h6
            simp [am_isL, h6] at h3
          simp [h1, h2, h7, am_tr_cat hq, h5]
        · simp [h1, h2, h7]
  · cases hs
theorem am_inc_eq {n : Int} (h : am_inc 0 n = Int32.ofInt n) (x : Int32) : x + Int32.ofInt n = am_inc x n := by
  rw [← h]
  unfold am_inc
  split
  · rw [Int32.zero_add]
  · rw [Int32.zero_sub, Int32.sub_eq_add_neg]
theorem am_look_eq {f : Nat → Nat} {pc d o x : Int} : ∀ (ps qs : List (Int × Int)), ps.map Prod.fst = qs.map Prod.fst → (∀ q ∈ ps.zip qs, pc + q.2.2 = (f q.1.2.toNat : Int)) → pc + o = (f d.toNat : Int) → pc + Op.lookupswitch.offset qs o x = (f ((ps.lookup x).getD d).toNat : Int)
  | [], [], _, _, h => h
  | [], _ :: _, h, _, _ => by simp at h
  | _ :: _, [], h, _, _ => by simp at h
  | (a, t) :: ps, (a', t') :: qs, h, hz, hd => by
    simp only [List.map_cons, List.cons.injEq] at h
    obtain ⟨rfl, h2⟩ := h
    rw [Op.lookupswitch.offset_cons]
    by_cases hx : a = x
    · subst hx
      simp only [List.lookup_cons, beq_self_eq_true, if_true, Option.getD_some]
      exact hz _ List.mem_cons_self
    · rw [if_neg hx, List.lookup_cons, show (x == a) = false by simpa using Ne.symm hx]
      exact am_look_eq ps qs h2 (fun q hq => hz q (List.mem_cons_of_mem _ hq)) hd
