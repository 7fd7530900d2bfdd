/-! what a step does to the abstract heap -/
def am_chg (σ τ : am_St) : Prop := τ = σ ∨ (∃ k f, τ = p_I σ k f) ∨ (∃ k f, τ = p_J σ k f) ∨ (∃ k f a, am_kk k f = some a ∧ τ = p_K σ k (am_upO (g_K σ k) f (some a))) ∨ (∃ k f, τ = p_S σ k f) ∨ ∃ z, τ = p_N σ z
theorem am_chg_pv {σ τ : am_St} {k f d : Nat} {v : Value} (h : am_pv σ k f d v = some τ) : am_chg σ τ := by
  unfold am_pv at h
  split at h
  · split at h
    · cases h; exact Or.inr (Or.inl ⟨_, _, rfl⟩)
    · cases h
  · split at h
    · split at h
      · cases h; exact Or.inr (Or.inl ⟨_, _, rfl⟩)
      · cases h
    · cases h
  · split at h
    · cases h; exact Or.inr (Or.inr (Or.inl ⟨_, _, rfl⟩))
    · cases h
  · split at h
    · split at h
      · rename_i hc
        cases h; exact Or.inr (Or.inr (Or.inr (Or.inl ⟨_, _, _, hc.1, rfl⟩)))
      · cases h
    · cases h
  · split at h
    · split at h
      · cases h; exact Or.inr (Or.inr (Or.inr (Or.inr (Or.inl ⟨_, _, rfl⟩))))
      · cases h
    · cases h
  · cases h
theorem am_chg_es {σ τ : am_St} {k f d : Nat} {v : Value} (h : am_es σ k f d v = some τ) : am_chg σ τ := by
  unfold am_es at h
  split at h
  · split at h
    · cases h; exact Or.inr (Or.inl ⟨_, _, rfl⟩)
    · cases h
  · split at h
    · cases h; exact Or.inr (Or.inr (Or.inl ⟨_, _, rfl⟩))
    · cases h
  · split at h
    · cases h; exact Or.inr (Or.inl ⟨_, _, rfl⟩)
    · cases h
  · split at h
    · cases h; exact Or.inr (Or.inl ⟨_, _, rfl⟩)
    · cases h
  · split at h
    · split at h
      · cases h; exact Or.inr (Or.inr (Or.inr (Or.inr (Or.inl ⟨_, _, rfl⟩))))
      · cases h
    · cases h
  · cases h
theorem am_chg_mk {σ τ : am_St} {t n z : Nat} (h : am_mk σ t n z = some τ) : am_chg σ τ := by
  unfold am_mk at h
  split at h
  · cases h; exact Or.inr (Or.inr (Or.inr (Or.inr (Or.inr ⟨_, rfl⟩))))
  · cases h
theorem am_chg_st {ins : Instr} {i i' : Nat} {ls st ls' st' : List Value} {σ σ' : am_St} (hs : am_step ins i ls st σ = some (i', ls', st', σ')) : am_chg σ σ' := by
  cases ins with
  | ldc_w n =>
    cases hs
    exact Or.inl rfl
  | iconst n =>
    cases hs
    exact Or.inl rfl
  | ldc2_w n =>
    cases hs
    exact Or.inl rfl
  | lconst n =>
    cases hs
    exact Or.inl rfl
  | goto t =>
    cases hs
    exact Or.inl rfl
  | ldc n =>
    simp only [am_step] at hs
    split at hs
    · cases hs
      exact Or.inl rfl
    · cases hs
  | iload q =>
    simp only [am_step] at hs
    split at hs
    · cases hs
      exact Or.inl rfl
    · cases hs
  | lload q =>
    simp only [am_step] at hs
    split at hs
    · cases hs
      exact Or.inl rfl
    · cases hs
  | lcmp =>
    simp only [am_step] at hs
    split at hs
    · cases hs
      exact Or.inl rfl
    · cases hs
  | l2i =>
    simp only [am_step] at hs
    split at hs
    · cases hs
      exact Or.inl rfl
    · cases hs
  | tableswitch d lo up ts =>
    simp only [am_step] at hs
    split at hs
    · cases hs
      exact Or.inl rfl
    · cases hs
  | lookupswitch d ps =>
    simp only [am_step] at hs
    split at hs
    · cases hs
      exact Or.inl rfl
    · cases hs
  | ifCond o t =>
    simp only [am_step] at hs
    split at hs
    · simp only [Option.some.injEq, Prod.mk.injEq] at hs
      obtain ⟨rfl, rfl, rfl, rfl⟩ := hs
      exact Or.inl rfl
    · cases hs
  | if_icmp o t =>
    simp only [am_step] at hs
    split at hs
    · simp only [Option.some.injEq, Prod.mk.injEq] at hs
      obtain ⟨rfl, rfl, rfl, rfl⟩ := hs
      exact Or.inl rfl
    · cases hs
  | aload q =>
    simp only [am_step] at hs
    split at hs
    · split at hs
      · cases hs
        exact Or.inl rfl
      · cases hs
    · cases hs
  | dup =>
    simp only [am_step] at hs
    split at hs
    · split at hs
      · cases hs
        exact Or.inl rfl
      · cases hs
    · cases hs
  | pop =>
    simp only [am_step] at hs
    split at hs
    · split at hs
      · cases hs
        exact Or.inl rfl
      · cases hs
    · cases hs
  | dup2 =>
    simp only [am_step] at hs
    split at hs
    · split at hs
      · cases hs
        exact Or.inl rfl
      · cases hs
    · cases hs
  | istore q =>
    simp only [am_step] at hs
    split at hs
    · obtain ⟨v, hv, he⟩ := Option.map_eq_some_iff.mp hs
      cases he
      exact Or.inl rfl
    · cases hs
  | iinc q n =>
    simp only [am_step] at hs
    split at hs
    · obtain ⟨v, hv, he⟩ := Option.map_eq_some_iff.mp hs
      cases he
      exact Or.inl rfl
    · cases hs
  | astore q =>
    simp only [am_step] at hs
    split at hs
    · split at hs
      · obtain ⟨v, hv, he⟩ := Option.map_eq_some_iff.mp hs
        cases he
        exact Or.inl rfl
      · cases hs
    · cases hs
  | lstore q =>
    simp only [am_step] at hs
    split at hs
    · split at hs
      · obtain ⟨v, hv, he⟩ := Option.map_eq_some_iff.mp hs
        cases he
        exact Or.inl rfl
      · cases hs
    · cases hs
  | getfield n =>
    simp only [am_step, am_get] at hs
    split at hs
    · split at hs
      · split at hs
        · obtain ⟨v, hv, he⟩ := Option.map_eq_some_iff.mp hs
          cases he
          exact Or.inl rfl
        · cases hs
      · split at hs
        · split at hs
          · cases hs
            exact Or.inl rfl
          · split at hs
            · cases hs
              exact Or.inl rfl
            · cases hs
        · cases hs
    · cases hs
  | putfield n =>
    simp only [am_step, am_put] at hs
    split at hs
    · split at hs
      · obtain ⟨v, hv, he⟩ := Option.map_eq_some_iff.mp hs
        cases he
        exact am_chg_pv hv
      · cases hs
    · cases hs
  | getstatic n =>
    simp only [am_step] at hs
    split at hs
    · cases hs
      exact Or.inl rfl
    · split at hs
      · cases hs
        exact Or.inl rfl
      · cases hs
  | arraylength =>
    simp only [am_step, am_len] at hs
    split at hs
    · split at hs
      · split at hs
        · cases hs
          exact Or.inl rfl
        · cases hs
      · split at hs
        · cases hs
          exact Or.inl rfl
        · split at hs
          · cases hs
            exact Or.inl rfl
          · cases hs
    · cases hs
  | newarray t =>
    simp only [am_step] at hs
    split at hs
    · split at hs
      · cases hs
      · obtain ⟨v, hv, he⟩ := Option.map_eq_some_iff.mp hs
        cases he
        exact am_chg_mk hv
    · cases hs
  | anewarray t =>
    simp only [am_step] at hs
    split at hs
    · split at hs
      · cases hs
      · obtain ⟨v, hv, he⟩ := Option.map_eq_some_iff.mp hs
        cases he
        exact am_chg_mk hv
    · cases hs
  | new n =>
    simp only [am_step] at hs
    split at hs
    · obtain ⟨v, hv, he⟩ := Option.map_eq_some_iff.mp hs
      cases he
      exact am_chg_mk hv
    · cases hs
  | invokespecial z =>
    simp only [am_step] at hs
    split at hs
    · split at hs
      · cases hs
        exact Or.inl rfl
      · cases hs
    · cases hs
  | invokestatic z =>
    simp only [am_step] at hs
    split at hs
    · split at hs
      · unfold am_copy at hs
        split at hs
        · split at hs
          · cases hs
            exact Or.inr (Or.inl ⟨_, _, rfl⟩)
          · cases hs
        · cases hs
      · cases hs
    · split at hs
      · split at hs
        · split at hs
          · cases hs
            exact Or.inl rfl
          · split at hs
            · cases hs
              exact Or.inl rfl
            · cases hs
        · cases hs
      · cases hs
  | iaload =>
    simp only [am_step, am_ald] at hs
    split at hs
    · split at hs
      · split at hs
        · obtain ⟨v, hv, he⟩ := Option.map_eq_some_iff.mp hs
          cases he
          exact Or.inl rfl
        · cases hs
      · split at hs
        · split at hs
          · cases hs
            exact Or.inl rfl
          · cases hs
        · split at hs
          · split at hs
            · cases hs
              exact Or.inl rfl
            · cases hs
          · cases hs
    · cases hs
  | laload =>
    simp only [am_step, am_ald] at hs
    split at hs
    · split at hs
      · split at hs
        · obtain ⟨v, hv, he⟩ := Option.map_eq_some_iff.mp hs
          cases he
          exact Or.inl rfl
        · cases hs
      · split at hs
        · split at hs
          · cases hs
            exact Or.inl rfl
          · cases hs
        · split at hs
          · split at hs
            · cases hs
              exact Or.inl rfl
            · cases hs
          · cases hs
    · cases hs
  | baload =>
    simp only [am_step, am_ald] at hs
    split at hs
    · split at hs
      · split at hs
        · obtain ⟨v, hv, he⟩ := Option.map_eq_some_iff.mp hs
          cases he
          exact Or.inl rfl
        · cases hs
      · split at hs
        · split at hs
          · cases hs
            exact Or.inl rfl
          · cases hs
        · split at hs
          · split at hs
            · cases hs
              exact Or.inl rfl
            · cases hs
          · cases hs
    · cases hs
  | aaload =>
    simp only [am_step, am_ald] at hs
    split at hs
    · split at hs
      · split at hs
        · obtain ⟨v, hv, he⟩ := Option.map_eq_some_iff.mp hs
          cases he
          exact Or.inl rfl
        · cases hs
      · split at hs
        · split at hs
          · cases hs
            exact Or.inl rfl
          · cases hs
        · split at hs
          · split at hs
            · cases hs
              exact Or.inl rfl
            · cases hs
          · cases hs
    · cases hs
  | iastore =>
    simp only [am_step, am_ast] at hs
    split at hs
    · split at hs
      · split at hs
        · obtain ⟨v, hv, he⟩ := Option.map_eq_some_iff.mp hs
          cases he
          exact am_chg_es hv
        · cases hs
      · cases hs
    · cases hs
  | lastore =>
    simp only [am_step, am_ast] at hs
    split at hs
    · split at hs
      · split at hs
        · obtain ⟨v, hv, he⟩ := Option.map_eq_some_iff.mp hs
          cases he
          exact am_chg_es hv
        · cases hs
      · cases hs
    · cases hs
  | bastore =>
    simp only [am_step, am_ast] at hs
    split at hs
    · split at hs
      · split at hs
        · obtain ⟨v, hv, he⟩ := Option.map_eq_some_iff.mp hs
          cases he
          exact am_chg_es hv
        · cases hs
      · cases hs
    · cases hs
  | aastore =>
    simp only [am_step, am_ast] at hs
    split at hs
    · split at hs
      · split at hs
        · obtain ⟨v, hv, he⟩ := Option.map_eq_some_iff.mp hs
          cases he
          exact am_chg_es hv
        · cases hs
      · cases hs
    · cases hs
  | iadd =>
    simp only [am_step, am_bi] at hs
    split at hs
    · obtain ⟨v, hv, he⟩ := Option.map_eq_some_iff.mp hs
      cases he
      exact Or.inl rfl
    · cases hs
  | isub =>
    simp only [am_step, am_bi] at hs
    split at hs
    · obtain ⟨v, hv, he⟩ := Option.map_eq_some_iff.mp hs
      cases he
      exact Or.inl rfl
    · cases hs
  | imul =>
    simp only [am_step, am_bi] at hs
    split at hs
    · obtain ⟨v, hv, he⟩ := Option.map_eq_some_iff.mp hs
      cases he
      exact Or.inl rfl
    · cases hs
  | iand =>
    simp only [am_step, am_bi] at hs
    split at hs
    · obtain ⟨v, hv, he⟩ := Option.map_eq_some_iff.mp hs
      cases he
      exact Or.inl rfl
    · cases hs
  | ior =>
    simp only [am_step, am_bi] at hs
    split at hs
    · obtain ⟨v, hv, he⟩ := Option.map_eq_some_iff.mp hs
      cases he
      exact Or.inl rfl
    · cases hs
  | ixor =>
    simp only [am_step, am_bi] at hs
    split at hs
    · obtain ⟨v, hv, he⟩ := Option.map_eq_some_iff.mp hs
      cases he
      exact Or.inl rfl
    · cases hs
  | ishl =>
    simp only [am_step, am_bi] at hs
    split at hs
    · obtain ⟨v, hv, he⟩ := Option.map_eq_some_iff.mp hs
      cases he
      exact Or.inl rfl
    · cases hs
  | ishr =>
    simp only [am_step, am_bi] at hs
    split at hs
    · obtain ⟨v, hv, he⟩ := Option.map_eq_some_iff.mp hs
      cases he
      exact Or.inl rfl
    · cases hs
  | iushr =>
    simp only [am_step, am_bi] at hs
    split at hs
    · obtain ⟨v, hv, he⟩ := Option.map_eq_some_iff.mp hs
      cases he
      exact Or.inl rfl
    · cases hs
  | idiv =>
    simp only [am_step, am_bi] at hs
    split at hs
    · obtain ⟨v, hv, he⟩ := Option.map_eq_some_iff.mp hs
      cases he
      exact Or.inl rfl
    · cases hs
  | irem =>
    simp only [am_step, am_bi] at hs
    split at hs
    · obtain ⟨v, hv, he⟩ := Option.map_eq_some_iff.mp hs
      cases he
      exact Or.inl rfl
    · cases hs
  | ladd =>
    simp only [am_step, am_bl] at hs
    split at hs
    · obtain ⟨v, hv, he⟩ := Option.map_eq_some_iff.mp hs
      cases he
      exact Or.inl rfl
    · cases hs
  | lsub =>
    simp only [am_step, am_bl] at hs
    split at hs
    · obtain ⟨v, hv, he⟩ := Option.map_eq_some_iff.mp hs
      cases he
      exact Or.inl rfl
    · cases hs
  | land =>
    simp only [am_step, am_bl] at hs
    split at hs
    · obtain ⟨v, hv, he⟩ := Option.map_eq_some_iff.mp hs
      cases he
      exact Or.inl rfl
    · cases hs
  | lor =>
    simp only [am_step, am_bl] at hs
    split at hs
    · obtain ⟨v, hv, he⟩ := Option.map_eq_some_iff.mp hs
      cases he
      exact Or.inl rfl
    · cases hs
  | lshl =>
    simp only [am_step, am_bs] at hs
    split at hs
    · obtain ⟨v, hv, he⟩ := Option.map_eq_some_iff.mp hs
      cases he
      exact Or.inl rfl
    · cases hs
  | lshr =>
    simp only [am_step, am_bs] at hs
    split at hs
    · obtain ⟨v, hv, he⟩ := Option.map_eq_some_iff.mp hs
      cases he
      exact Or.inl rfl
    · cases hs
  | lushr =>
    simp only [am_step, am_bs] at hs
    split at hs
    · obtain ⟨v, hv, he⟩ := Option.map_eq_some_iff.mp hs
      cases he
      exact Or.inl rfl
    · cases hs
  | ineg =>
    simp only [am_step, am_un] at hs
    split at hs
    · obtain ⟨v, hv, he⟩ := Option.map_eq_some_iff.mp hs
      cases he
      exact Or.inl rfl
    · cases hs
  | i2l =>
    simp only [am_step, am_un] at hs
    split at hs
    · obtain ⟨v, hv, he⟩ := Option.map_eq_some_iff.mp hs
      cases he
      exact Or.inl rfl
    · cases hs
  | i2b =>
    simp only [am_step, am_un] at hs
    split at hs
    · obtain ⟨v, hv, he⟩ := Option.map_eq_some_iff.mp hs
      cases he
      exact Or.inl rfl
    · cases hs
  | i2c =>
    simp only [am_step, am_un] at hs
    split at hs
    · obtain ⟨v, hv, he⟩ := Option.map_eq_some_iff.mp hs
      cases he
      exact Or.inl rfl
    · cases hs
  | _ => cases hs
theorem am_chg.mono {σ τ : am_St} (h : am_chg σ τ) : g_C σ ≤ g_C τ ∧ g_Z σ ≤ g_Z τ ∧ g_N σ ≤ g_N τ := by
  rcases h with rfl | ⟨k, f, rfl⟩ | ⟨k, f, rfl⟩ | ⟨k, f, a, -, rfl⟩ | ⟨k, f, rfl⟩ | ⟨z, rfl⟩
  · exact ⟨Nat.le_refl _, Nat.le_refl _, Nat.le_refl _⟩
  · exact ⟨Nat.le_refl _, Nat.le_refl _, Nat.le_refl _⟩
  · exact ⟨Nat.le_refl _, Nat.le_refl _, Nat.le_refl _⟩
  · exact ⟨Nat.le_refl _, Nat.le_refl _, Nat.le_refl _⟩
  · exact ⟨Nat.le_refl _, Nat.le_refl _, Nat.le_refl _⟩
  · exact ⟨Nat.le_succ _, Nat.le_add_right _ _, Nat.le_succ _⟩
theorem am_end_chg {ins : Instr} {y : Nat} {st : List Value} {σ σ' : am_St} {r : Option Value ⊕ Nat} (h : am_end ins y st σ = some (r, σ')) : σ' = σ ∨ σ' = p_E σ := by
  unfold am_end at h
  split at h
  · split at h
    · split at h
      · cases h; exact Or.inl rfl
      · cases h
    · cases h
  · split at h
    · split at h
      · cases h; exact Or.inl rfl
      · cases h
    · cases h
  · split at h
    · split at h
      · cases h; exact Or.inl rfl
      · cases h
    · cases h
  · split at h
    · cases h; exact Or.inr rfl
    · cases h
  · cases h
/-- a relation between heaps that every change keeps is kept by a run -/
theorem am_run_rel {P : am_St → am_St → Prop} (hr : ∀ σ, P σ σ) (ht : ∀ a b c, P a b → P b c → P a c) (hc : ∀ σ τ, am_chg σ τ → P σ τ) (he : ∀ σ, P σ (p_E σ)) : ∀ (n y i : Nat) (ls st : List Value) (σ : am_St) (r : Option Value ⊕ Nat) (σ' : am_St), am_run n y i ls st σ = some (r, σ') → P σ σ' := by
  intro n
  induction n with
  | zero => intro y i ls st σ r σ' h; cases h
  | succ n ih =>
    intro y i ls st σ r σ' h
    unfold am_run at h
    split at h
    · cases h
    · split at h
      · split at h
        · split at h
          · cases h
          · rename_i v σ1 h1
            exact ht _ _ _ (ih _ _ _ _ _ _ _ h1) (ih _ _ _ _ _ _ _ h)
          · rename_i e1 σ1 h1
            split at h
            · cases h; exact ih _ _ _ _ _ _ _ h1
            · split at h
              · cases h; exact ih _ _ _ _ _ _ _ h1
              · cases h
        · cases h
      · split at h
        · rename_i h1
          cases h
          rcases am_end_chg h1 with rfl | rfl
          · exact hr _
          · exact he _
        · split at h
          · cases h
          · rename_i h1
            exact ht _ _ _ (hc _ _ (am_chg_st h1)) (ih _ _ _ _ _ _ _ h)
theorem am_run_mono {n y i : Nat} {ls st : List Value} {σ σ' : am_St} {r : Option Value ⊕ Nat} (h : am_run n y i ls st σ = some (r, σ')) : g_C σ ≤ g_C σ' ∧ g_Z σ ≤ g_Z σ' ∧ g_N σ ≤ g_N σ' :=
  am_run_rel (P := fun a b => g_C a ≤ g_C b ∧ g_Z a ≤ g_Z b ∧ g_N a ≤ g_N b) (fun _ => ⟨Nat.le_refl _, Nat.le_refl _, Nat.le_refl _⟩) (fun _ _ _ h1 h2 => ⟨Nat.le_trans h1.1 h2.1, Nat.le_trans h1.2.1 h2.2.1, Nat.le_trans h1.2.2 h2.2.2⟩) (fun _ _ h => h.mono) (fun σ => ⟨Nat.le_succ _, Nat.le_add_right _ _, Nat.le_refl _⟩) n y i ls st σ r σ' h
