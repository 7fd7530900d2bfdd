/-! all instructions together -/
section Steps5
variable {G : am_G} {p : Program} {l : Launch} {e : Env} {R : Room} {s : State} {m : MethodId} {args : Array Value} {below : List Frame} {meth : Method} {c : Code} {c0 z0 : Nat} {Q : State → Prop} {y i : Nat} {ls st : List Value} {σ : am_St}
set_option maxHeartbeats 4000000 in
theorem am_s_all (X : am_X G p l s m meth c y) {ins : Instr} (hi : (am_code y)[i]? = some ins) (htg : am_tgt ins = none) {i' : Nat} {ls' st' : List Value} {σ' : am_St} (hs : am_step ins i ls st σ = some (i', ls', st', σ'))
    (hs0 : s.heap.size ≤ h_n G + c0) (hc0 : c0 ≤ g_C σ) (hz0 : z0 ≤ g_Z σ) (hRf : 1 ≤ R.frames) (hRl : 38 ≤ R.locals) (hRc : g_C σ' - c0 ≤ R.cells) (hRs : g_Z σ' - z0 ≤ R.slots)
    (k : am_V G p l e R s m args below meth c c0 z0 Q y i' ls' st' σ') : am_V G p l e R s m args below meth c c0 z0 Q y i ls st σ := by
  cases ins with
  | ldc_w n =>
    cases hs
    exact am_s_ldc_w X hi k
  | iconst n =>
    cases hs
    exact am_s_iconst X hi k
  | ldc2_w n =>
    cases hs
    exact am_s_ldc2_w X hi k
  | lconst n =>
    cases hs
    exact am_s_lconst X hi k
  | ldc n =>
    simp only [am_step] at hs
    split at hs
    · rename_i h5
      cases hs
      exact am_s_ldc X hi h5 k
    · cases hs
  | iload q =>
    simp only [am_step] at hs
    split at hs
    · rename_i x hx
      cases hs
      exact am_s_iload X hi hx k
    · cases hs
  | lload q =>
    simp only [am_step] at hs
    split at hs
    · rename_i x hx
      cases hs
      exact am_s_lload X hi hx k
    · cases hs
  | aload q =>
    simp only [am_step] at hs
    split at hs
    · rename_i x hx
      split at hs
      · rename_i h4
        cases hs
        exact am_s_aload X hi hx h4 k
      · cases hs
    · cases hs
  | istore q =>
    simp only [am_step] at hs
    split at hs
    · obtain ⟨v, hv, he⟩ := Option.map_eq_some_iff.mp hs
      cases he
      exact am_s_istore X hi hv k
    · cases hs
  | astore q =>
    simp only [am_step] at hs
    split at hs
    · split at hs
      · rename_i h4
        obtain ⟨v, hv, he⟩ := Option.map_eq_some_iff.mp hs
        cases he
        exact am_s_astore X hi h4 hv k
      · cases hs
    · cases hs
  | lstore q =>
    simp only [am_step] at hs
    split at hs
    · split at hs
      · rename_i h4
        obtain ⟨v, hv, he⟩ := Option.map_eq_some_iff.mp hs
        cases he
        exact am_s_lstore X hi h4 hv k
      · cases hs
    · cases hs
  | iinc q n =>
    simp only [am_step] at hs
    split at hs
    · rename_i x hx
      obtain ⟨v, hv, he⟩ := Option.map_eq_some_iff.mp hs
      cases he
      exact am_s_iinc X hi hx hv k
    · cases hs
  | dup =>
    simp only [am_step] at hs
    split at hs
    · split at hs
      · rename_i h4
        cases hs
        exact am_s_dup X hi h4 k
      · cases hs
    · cases hs
  | pop =>
    simp only [am_step] at hs
    split at hs
    · split at hs
      · rename_i h4
        cases hs
        exact am_s_pop X hi h4 k
      · cases hs
    · cases hs
  | dup2 =>
    simp only [am_step] at hs
    split at hs
    · split at hs
      · rename_i h4
        cases hs
        exact am_s_dup2 X hi h4.1 h4.2 k
      · cases hs
    · cases hs
  | lcmp =>
    simp only [am_step] at hs
    split at hs
    · cases hs
      exact am_s_lcmp X hi k
    · cases hs
  | l2i =>
    simp only [am_step] at hs
    split at hs
    · cases hs
      exact am_s_l2i X hi k
    · cases hs
  | ifCond o t =>
    simp only [am_step] at hs
    split at hs
    · simp only [Option.some.injEq, Prod.mk.injEq] at hs
      obtain ⟨rfl, rfl, rfl, rfl⟩ := hs
      exact am_s_ifCond X hi (fun q => by rw [q, if_pos rfl] at k; exact k) (fun q => by rw [q, if_neg (by decide)] at k; exact k)
    · cases hs
  | if_icmp o t =>
    simp only [am_step] at hs
    split at hs
    · simp only [Option.some.injEq, Prod.mk.injEq] at hs
      obtain ⟨rfl, rfl, rfl, rfl⟩ := hs
      exact am_s_if_icmp X hi (fun q => by rw [q, if_pos rfl] at k; exact k) (fun q => by rw [q, if_neg (by decide)] at k; exact k)
    · cases hs
  | goto t =>
    cases hs
    exact am_s_goto X hi k
  | tableswitch d lo up ts =>
    simp only [am_step] at hs
    split at hs
    · cases hs
      exact am_s_table X hi k
    · cases hs
  | lookupswitch d ps =>
    simp only [am_step] at hs
    split at hs
    · cases hs
      exact am_s_lookup X hi k
    · cases hs
  | getfield n =>
    exact am_s_getf X hi hs k
  | putfield n =>
    exact am_s_putf X hi hs k
  | getstatic n =>
    exact am_s_static X hi hs k
  | arraylength =>
    exact am_s_len X hi hs k
  | newarray t =>
    simp only [am_step] at hs
    split at hs
    · split at hs
      · cases hs
      · rename_i h4
        obtain ⟨v, hv, he⟩ := Option.map_eq_some_iff.mp hs
        cases he
        exact am_s_newarray X hi h4 hv hs0 hc0 hz0 hRc hRs k
    · cases hs
  | anewarray t =>
    simp only [am_step] at hs
    split at hs
    · split at hs
      · cases hs
      · rename_i h4
        obtain ⟨v, hv, he⟩ := Option.map_eq_some_iff.mp hs
        cases he
        exact am_s_anew X hi h4 hv hs0 hc0 hz0 hRc hRs k
    · cases hs
  | new n =>
    simp only [am_step] at hs
    split at hs
    · rename_i h4
      obtain ⟨v, hv, he⟩ := Option.map_eq_some_iff.mp hs
      cases he
      exact am_s_new X hi h4 hv hs0 hc0 hz0 hRc hRs k
    · cases hs
  | invokespecial z =>
    have hz : ¬ z < 10000 := by
      intro h
      simp [am_tgt, h] at htg
    simp only [am_step] at hs
    split at hs
    · split at hs
      · rename_i h4
        cases hs
        exact am_s_obj X hi hz h4.1 h4.2 hRf hRl k
      · cases hs
    · cases hs
  | invokestatic z =>
    simp only [am_step] at hs
    split at hs
    · rename_i h3
      subst h3
      split at hs
      · rename_i h8
        exact am_s_copy X hi h8 hRf hRl hs k
      · cases hs
    · split at hs
      · split at hs
        · rename_i h8
          split at hs
          · rename_i h1
            subst h1
            cases hs
            exact am_s_max X hi h8 hRf hRl hRc hRs k
          · split at hs
            · rename_i h1
              subst h1
              cases hs
              exact am_s_min X hi h8 hRf hRl hRc hRs k
            · cases hs
        · cases hs
      · cases hs
  | invokevirtual z =>
    cases htg
  | iaload =>
    exact am_s_ald X hi (by simp) hs k
  | laload =>
    exact am_s_ald X hi (by simp) hs k
  | baload =>
    exact am_s_ald X hi (by simp) hs k
  | aaload =>
    exact am_s_ald X hi (by simp) hs k
  | iastore =>
    exact am_s_ast X hi (by simp) hs k
  | lastore =>
    exact am_s_ast X hi (by simp) hs k
  | bastore =>
    exact am_s_ast X hi (by simp) hs k
  | aastore =>
    exact am_s_ast X hi (by simp) hs k
  | iadd =>
    simp only [am_step, am_bi] at hs
    split at hs
    · cases hs
      exact am_s_iadd X hi k
    · cases hs
  | isub =>
    simp only [am_step, am_bi] at hs
    split at hs
    · cases hs
      exact am_s_isub X hi k
    · cases hs
  | imul =>
    simp only [am_step, am_bi] at hs
    split at hs
    · cases hs
      exact am_s_imul X hi k
    · cases hs
  | iand =>
    simp only [am_step, am_bi] at hs
    split at hs
    · cases hs
      exact am_s_iand X hi k
    · cases hs
  | ior =>
    simp only [am_step, am_bi] at hs
    split at hs
    · cases hs
      exact am_s_ior X hi k
    · cases hs
  | ixor =>
    simp only [am_step, am_bi] at hs
    split at hs
    · cases hs
      exact am_s_ixor X hi k
    · cases hs
  | ishl =>
    simp only [am_step, am_bi] at hs
    split at hs
    · cases hs
      exact am_s_ishl X hi k
    · cases hs
  | ishr =>
    simp only [am_step, am_bi] at hs
    split at hs
    · cases hs
      exact am_s_ishr X hi k
    · cases hs
  | iushr =>
    simp only [am_step, am_bi] at hs
    split at hs
    · cases hs
      exact am_s_iushr X hi k
    · cases hs
  | idiv =>
    simp only [am_step, am_bi] at hs
    split at hs
    · obtain ⟨v, hv, he⟩ := Option.map_eq_some_iff.mp hs
      cases he
      simp only [am_i2] at hv
      split at hv
      · cases hv
      · rename_i h4
        cases hv
        exact am_s_idiv X hi h4 k
    · cases hs
  | irem =>
    simp only [am_step, am_bi] at hs
    split at hs
    · obtain ⟨v, hv, he⟩ := Option.map_eq_some_iff.mp hs
      cases he
      simp only [am_i2] at hv
      split at hv
      · cases hv
      · rename_i h4
        cases hv
        exact am_s_irem X hi h4 k
    · cases hs
  | ladd =>
    simp only [am_step, am_bl] at hs
    split at hs
    · cases hs
      exact am_s_ladd X hi k
    · cases hs
  | lsub =>
    simp only [am_step, am_bl] at hs
    split at hs
    · cases hs
      exact am_s_lsub X hi k
    · cases hs
  | land =>
    simp only [am_step, am_bl] at hs
    split at hs
    · cases hs
      exact am_s_land X hi k
    · cases hs
  | lor =>
    simp only [am_step, am_bl] at hs
    split at hs
    · cases hs
      exact am_s_lor X hi k
    · cases hs
  | lshl =>
    simp only [am_step, am_bs] at hs
    split at hs
    · cases hs
      exact am_s_lshl X hi k
    · cases hs
  | lshr =>
    simp only [am_step, am_bs] at hs
    split at hs
    · cases hs
      exact am_s_lshr X hi k
    · cases hs
  | lushr =>
    simp only [am_step, am_bs] at hs
    split at hs
    · cases hs
      exact am_s_lushr X hi k
    · cases hs
  | ineg =>
    simp only [am_step, am_un] at hs
    split at hs
    · cases hs
      exact am_s_ineg X hi k
    · cases hs
  | i2l =>
    simp only [am_step, am_un] at hs
    split at hs
    · cases hs
      exact am_s_i2l X hi k
    · cases hs
  | i2b =>
    simp only [am_step, am_un] at hs
    split at hs
    · cases hs
      exact am_s_i2b X hi k
    · cases hs
  | i2c =>
    simp only [am_step, am_un] at hs
    split at hs
    · cases hs
      exact am_s_i2c X hi k
    · cases hs
  | _ => cases hs
end Steps5
