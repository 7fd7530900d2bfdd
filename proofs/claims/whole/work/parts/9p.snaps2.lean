/-! snapshots: the reference; costs -/
theorem m226 {E : am_Ev} {I : Nat → Nat → Int32} {J : Nat → Nat → Int64} {S : Nat → Nat → Option Nat} {Q : am_Qt} {N : Nat} {F : Nat → Nat} (eN : I 99 42 = nI N) (hN : 3 ≤ N) (hN9 : N ≤ 9) (ha : ar (I 125) N F) (hs : ∀ a b, a < b → b < N → F a < F b) (hx : ∀ j, j < N → F j ≤ 416) (h : ∀ I', fr I I' [99, 125] → I' 99 = upd (I 99) 42 (nI (N - 1)) → ar (I' 125) (N - 1) (drp F (clo F (N - 3) 2 1)) → Q (.inl none) E I' J S) : am_cl 226 [.ref 99] E I J S Q := by
  show am_ww 226 0 [.ref 99, am_U, am_U] [] E I J S Q
  apply g226_0
  have cb := clo_in F (N - 3) 2 1 (by omega) (by omega)
  have l2 : ∀ b, 1 ≤ b → b < N - 1 → (∀ I', fr I I' [99, 125] → I' 99 = upd (I 99) 42 (nI (N - 1)) → ar (I' 125) (N - 1) (drp F b) → Q (.inl none) E I' J S) → ∀ m i (I1 : Nat → Nat → Int32), i + m = N - 1 → b ≤ i → fr I I1 [99, 125] → I1 99 = upd (I 99) 42 (nI (N - 1)) → mdr (I1 125) N F b i → am_ww 226 49 [.ref 99, .int (nI b), .int (nI i)] [] E I1 J S Q := by
    intro b hb hbN h m
    induction m with
    | zero =>
      intro i I1 ei hbi f1 e1 m1
      apply g226_49 rfl
      rw [e1, upd_eq, nI_leI (by omega) (by omega)]
      exact ⟨fun _ => h I1 f1 e1 (fun j hj => m1.1 j (by omega)), fun q => absurd (by omega) q⟩
    | succ m ih =>
      intro i I1 ei hbi f1 e1 m1
      apply g226_49 rfl
      rw [e1, upd_eq, nI_leI (by omega) (by omega), nI_add, nI_clamp (by omega), nI_clamp (by omega)]
      refine ⟨fun q => absurd q (by omega), fun _ => ⟨vp_in_nI (by omega) (by omega), vp_in_nI (by omega) (by omega), ih (i + 1) _ (by omega) (by omega) (fun k hk => ?_) ?_ ?_⟩⟩
      · have hk' := hk
        simp only [List.mem_cons, List.not_mem_nil, or_false, not_or] at hk'
        rw [u_I_ne hk'.2]; exact f1 k hk
      · rw [u_I_ne (by decide)]; exact e1
      · rw [u_I_eq]
        exact mdr_s hbi (by omega) m1
  have l : ∀ m i b, i + m = N - 1 → 1 ≤ b → b < i → clo F m i b = clo F (N - 3) 2 1 → am_ww 226 4 [.ref 99, .int (nI b), .int (nI i)] [] E I J S Q := by
    intro m
    induction m with
    | zero =>
      intro i b ei hb hbi hc
      apply g226_4
      rw [eN, nI_subI (by omega), nI_leI (by omega) (by omega)]
      refine ⟨fun _ => ?_, fun q => absurd (by omega) q⟩
      have hc' : b = clo F (N - 3) 2 1 := hc
      rw [← hc'] at h
      refine l2 b hb (by omega) h (N - 1 - b) b _ (by omega) (Nat.le_refl _) (fun k hk => ?_) (by rw [u_I_eq]) ?_
      · simp only [List.mem_cons, List.not_mem_nil, or_false, not_or] at hk
        rw [u_I_ne hk.1]
      · rw [u_I_ne (by decide)]
        exact mdr_0 (by omega) ha
    | succ m ih =>
      intro i b ei hb hbi hc
      apply g226_4
      rw [eN, nI_subI (by omega), nI_leI (by omega) (by omega), nI_add, nI_add, nI_subI (by omega), nI_subI (by omega), nI_clamp (by omega), nI_clamp (by omega), nI_clamp (by omega), nI_clamp (by omega)]
      refine ⟨fun q => absurd q (by omega), fun _ => ⟨vp_in_nI (by omega) (by omega), vp_in_nI (by omega) (by omega), vp_in_nI (by omega) (by omega), vp_in_nI (by omega) (by omega), fun w6 e6 => ?_⟩⟩
      have g := gap ha hs hx hb hbi (by omega)
      have hc' : clo F m (i + 1) (if F (b + 1) - F (b - 1) ≤ F (i + 1) - F (i - 1) then b else i) = clo F (N - 3) 2 1 := hc
      by_cases c : F (b + 1) - F (b - 1) ≤ F (i + 1) - F (i - 1)
      · rw [if_pos (g.mpr c)] at e6
        rw [if_pos c] at hc'
        subst e6
        exact ih (i + 1) b (by omega) hb (by omega) hc'
      · rw [if_neg (fun q => c (g.mp q))] at e6
        rw [if_neg c] at hc'
        subst e6
        exact ih (i + 1) i (by omega) (by omega) (by omega) hc'
  exact l (N - 3) 2 1 (by omega) (by omega) (by omega) rfl
theorem m225 {E : am_Ev} {I : Nat → Nat → Int32} {J : Nat → Nat → Int64} {S : Nat → Nat → Option Nat} {Q : am_Qt} {T s : Nat} (eT : I 99 12 = nI T) (es : I 103 3 = nI s) (hT : T ≤ 400) (hs : 2 ≤ s) (hs8 : s ≤ 8) (h : ∀ I', fr I I' [99, 125] → (∀ f, f ≠ 42 → I' 99 f = I 99 f) → I' 99 42 = nI (sn s (T / 16) 16 1 (fun _ => 0)).1 → ar (I' 125) (sn s (T / 16) 16 1 (fun _ => 0)).1 (sn s (T / 16) 16 1 (fun _ => 0)).2 → Q (.inl none) E I' J S) : am_cl 225 [.ref 99] E I J S Q := by
  show am_ww 225 0 [.ref 99, am_U] [] E I J S Q
  apply g225_0
  have l : ∀ m x n F (I1 : Nat → Nat → Int32), x / 16 + m = T / 16 + 1 → x % 16 = 0 → 16 ≤ x → SI s n F x → fr I I1 [99, 125] → (∀ f, f ≠ 42 → I1 99 f = I 99 f) → I1 99 42 = nI n → ar (I1 125) n F → (∀ I', fr I I' [99, 125] → (∀ f, f ≠ 42 → I' 99 f = I 99 f) → I' 99 42 = nI (sn s m x n F).1 → ar (I' 125) (sn s m x n F).1 (sn s m x n F).2 → Q (.inl none) E I' J S) → am_ww 225 10 [.ref 99, .int (nI x)] [] E I1 J S Q := by
    intro m
    induction m with
    | zero =>
      intro x n F I1 ex x0 x16 hS f1 g1 e1 a1 h
      apply g225_10
      rw [g1 12 (by omega), eT, nI_ltI (by omega) (by omega)]
      exact ⟨fun _ => h I1 f1 g1 e1 a1, fun q => absurd (by omega) q⟩
    | succ m ih =>
      intro x n F I1 ex x0 x16 hS f1 g1 e1 a1 h
      apply g225_10
      have hn := hS.1
      rw [g1 12 (by omega), eT, nI_ltI (by omega) (by omega), e1, f1 103 (by decide), es, nI_add, nI_add, nI_clamp (by omega), nI_leI (by omega) (by omega)]
      refine ⟨fun q => absurd q (by omega), fun _ => ⟨vp_in_nI (by omega) (by omega), ?_⟩⟩
      have hS' := SI_add hs hS
      have z86 : u_I (u_I I1 125 (upd (I1 125) n (nI x))) 99 (upd (I1 99) 42 (nI (n + 1))) 125 = upd (I1 125) n (nI x) := by rw [u_I_ne (by decide), u_I_eq]
      have z85 : u_I (u_I I1 125 (upd (I1 125) n (nI x))) 99 (upd (I1 99) 42 (nI (n + 1))) 99 42 = nI (n + 1) := by rw [u_I_eq, upd_eq]
      have zf : ∀ f, f ≠ 42 → u_I (u_I I1 125 (upd (I1 125) n (nI x))) 99 (upd (I1 99) 42 (nI (n + 1))) 99 f = I 99 f := fun f hf => by rw [u_I_eq, upd_ne hf]; exact g1 f hf
      have zo : fr I (u_I (u_I I1 125 (upd (I1 125) n (nI x))) 99 (upd (I1 99) 42 (nI (n + 1)))) [99, 125] := fun k hk => by
        have hk' := hk
        simp only [List.mem_cons, List.not_mem_nil, or_false, not_or] at hk'
        rw [u_I_ne hk'.1, u_I_ne hk'.2]; exact f1 k hk
      generalize u_I (u_I I1 125 (upd (I1 125) n (nI x))) 99 (upd (I1 99) 42 (nI (n + 1))) = I2 at z86 z85 zf zo ⊢
      have a2 : ar (I2 125) (n + 1) (put1 F n x) := by rw [z86]; exact ar_put a1
      refine ⟨fun c => ?_, fun c => ?_⟩
      · have es : sadd s n F x = (n + 1, put1 F n x) := by unfold sadd; rw [if_pos c]
        have h' : ∀ I', fr I I' [99, 125] → (∀ f, f ≠ 42 → I' 99 f = I 99 f) → I' 99 42 = nI (sn s m (x + 16) (sadd s n F x).1 (sadd s n F x).2).1 → ar (I' 125) (sn s m (x + 16) (sadd s n F x).1 (sadd s n F x).2).1 (sn s m (x + 16) (sadd s n F x).1 (sadd s n F x).2).2 → Q (.inl none) E I' J S := h
        rw [es] at h' hS'
        exact ih (x + 16) (n + 1) _ I2 (by omega) (by omega) (by omega) hS' zo zf z85 a2 h'
      · have es : sadd s n F x = (n, drp (put1 F n x) (clo (put1 F n x) (n - 2) 2 1)) := by unfold sadd; rw [if_neg c]
        have h' : ∀ I', fr I I' [99, 125] → (∀ f, f ≠ 42 → I' 99 f = I 99 f) → I' 99 42 = nI (sn s m (x + 16) (sadd s n F x).1 (sadd s n F x).2).1 → ar (I' 125) (sn s m (x + 16) (sadd s n F x).1 (sadd s n F x).2).1 (sn s m (x + 16) (sadd s n F x).1 (sadd s n F x).2).2 → Q (.inl none) E I' J S := h
        rw [es] at h' hS'
        obtain ⟨p1, p2, p3⟩ := put_s hS
        refine m226 (N := n + 1) (F := put1 F n x) z85 (by omega) (by omega) a2 p2 (fun j hj => by have := p3 j hj; omega) (fun I3 f3 e3 a3 => q_mkV ?_)
        rw [show n + 1 - 3 = n - 2 by omega, show n + 1 - 1 = n by omega] at a3
        exact ih (x + 16) n _ I3 (by omega) (by omega) (by omega) hS' (fun k hk => by rw [f3 k hk, zo k hk]) (fun f hf => by rw [e3, upd_ne hf]; exact zf f hf) (by rw [e3, upd_eq, show n + 1 - 1 = n by omega]) a3 h'
  refine l (T / 16) 16 1 (fun _ => 0) _ (by omega) (by omega) (by omega) (SI_0 hs) (fun k hk => ?_) (fun f hf => by rw [u_I_eq, upd_ne hf]) ?_ (fun j hj => ?_) h
  · simp only [List.mem_cons, List.not_mem_nil, or_false, not_or] at hk
    rw [u_I_ne hk.1, u_I_ne hk.2]
  · rw [u_I_eq, upd_eq]
  · rw [u_I_ne (by decide), u_I_eq, show j = 0 by omega, upd_eq]
/-- the nearest one at or ahead of x -/
def pr (F : Nat → Nat) (x : Nat) : Nat → Nat → Nat → Nat
  | 0, _, l => l
  | m + 1, j, l => if x < F j then l else pr F x m (j + 1) (F j)
theorem pr_le {F : Nat → Nat} {x : Nat} : ∀ m j l, l ≤ x → pr F x m j l ≤ x := by
  intro m
  induction m with
  | zero => intro j l h; exact h
  | succ m ih =>
    intro j l h
    show (if x < F j then l else pr F x m (j + 1) (F j)) ≤ x
    by_cases c : x < F j
    · rw [if_pos c]; exact h
    · rw [if_neg c]; exact ih (j + 1) (F j) (by omega)
/-- what it is: one of them, the next is behind x -/
theorem pr_sp {F : Nat → Nat} {x n : Nat} : ∀ m j, j + m = n → 1 ≤ j → F (j - 1) ≤ x → ∃ i, i < n ∧ pr F x m j (F (j - 1)) = F i ∧ F i ≤ x ∧ (i + 1 = n ∨ x < F (i + 1)) := by
  intro m
  induction m with
  | zero => intro j e h1 h2; exact ⟨j - 1, by omega, rfl, h2, Or.inl (by omega)⟩
  | succ m ih =>
    intro j e h1 h2
    show ∃ i, i < n ∧ (if x < F j then F (j - 1) else pr F x m (j + 1) (F j)) = F i ∧ _
    by_cases c : x < F j
    · rw [if_pos c]
      exact ⟨j - 1, by omega, rfl, h2, Or.inr (by rw [show j - 1 + 1 = j by omega]; exact c)⟩
    · rw [if_neg c]
      have := ih (j + 1) (by omega) (by omega) (by rw [Nat.add_sub_cancel]; omega)
      rw [Nat.add_sub_cancel] at this
      exact this
theorem pr_0 {F : Nat → Nat} {x n : Nat} (hn : 1 ≤ n) (h0 : F 0 = 0) : ∃ i, i < n ∧ pr F x n 0 0 = F i ∧ F i ≤ x ∧ (i + 1 = n ∨ x < F (i + 1)) := by
  obtain ⟨m, rfl⟩ : ∃ m, n = m + 1 := ⟨n - 1, by omega⟩
  have : pr F x (m + 1) 0 0 = pr F x m 1 (F 0) := by
    show (if x < F 0 then 0 else pr F x m 1 (F 0)) = _
    rw [if_neg (by rw [h0]; omega)]
  rw [this]
  exact pr_sp m 1 (by omega) (by omega) (by rw [h0]; omega)
theorem c106 {E : am_Ev} {I : Nat → Nat → Int32} {J : Nat → Nat → Int64} {S : Nat → Nat → Option Nat} {Q : am_Qt} {n x : Nat} {F : Nat → Nat} (en : I 85 1 = nI n) (hn : n ≤ 9) (ha : ar (I 86) n F) (hF : ∀ j, j < n → F j ≤ 416) (hx : x ≤ 400) (h : Q (.inl (some (.int (nI (x - pr F x n 0 0))))) E I J S) : am_cl 106 [.ref 85, .int (nI x)] E I J S Q := by
  show am_ww 106 0 [.ref 85, .int (nI x), am_U, am_U] [] E I J S Q
  apply g106_0
  have l : ∀ m j l, j + m = n → l ≤ x → Q (.inl (some (.int (nI (x - pr F x m j l))))) E I J S → am_ww 106 4 [.ref 85, .int (nI x), .int (nI l), .int (nI j)] [] E I J S Q := by
    intro m
    induction m with
    | zero =>
      intro j l ej hl h
      apply g106_4
      rw [en, nI_leI (by omega) (by omega), nI_subI hl]
      exact ⟨fun _ => h, fun q => absurd (by omega) q⟩
    | succ m ih =>
      intro j l ej hl h
      apply g106_4
      have := hF j (by omega)
      rw [en, nI_leI (by omega) (by omega), nI_clamp (by omega), ha j (by omega), nI_ltI (by omega) (by omega), nI_subI hl, nI_add]
      have h' : Q (.inl (some (.int (nI (x - (if x < F j then l else pr F x m (j + 1) (F j))))))) E I J S := h
      refine ⟨fun q => absurd q (by omega), fun _ => ⟨vp_in_nI (by omega) (by omega), fun c => ?_, fun c => ?_⟩⟩
      · rw [if_pos c] at h'; exact h'
      · rw [if_neg c] at h'; exact ih (j + 1) (F j) (by omega) (by omega) h'
  exact l n 0 0 (by omega) (by omega) h
theorem m228 {E : am_Ev} {I : Nat → Nat → Int32} {J : Nat → Nat → Int64} {S : Nat → Nat → Option Nat} {Q : am_Qt} {n x : Nat} {F : Nat → Nat} (en : I 99 42 = nI n) (hn : n ≤ 9) (ha : ar (I 125) n F) (hs : ∀ a b, a < b → b < n → F a < F b) (hF : ∀ j, j < n → F j ≤ 416) (hx : x ≤ 400) (h : Q (.inl (some (.int (nI (x - pr F x n 0 0))))) E I J S) : am_cl 228 [.ref 99, .int (nI x)] E I J S Q := by
  show am_ww 228 0 [.ref 99, .int (nI x), am_U, am_U] [] E I J S Q
  apply g228_0
  -- all the rest is behind x
  have out : ∀ m j l, j + m = n → l ≤ x → (∀ i, j ≤ i → i < n → x < F i) → Q (.inl (some (.int (nI (x - l))))) E I J S → am_ww 228 4 [.ref 99, .int (nI x), .int (nI l), .int (nI j)] [] E I J S Q := by
    intro m
    induction m with
    | zero =>
      intro j l ej hl _ h
      apply g228_4
      rw [en, nI_leI (by omega) (by omega), nI_subI hl]
      exact ⟨fun _ => h, fun q => absurd (by omega) q⟩
    | succ m ih =>
      intro j l ej hl hb h
      apply g228_4
      have := hF j (by omega)
      have c := hb j (Nat.le_refl _) (by omega)
      rw [en, nI_leI (by omega) (by omega), nI_clamp (by omega), ha j (by omega), nI_add]
      refine ⟨fun q => absurd q (by omega), fun _ => ⟨vp_in_nI (by omega) (by omega), fun w3 e3 => ?_⟩⟩
      rw [if_pos ((nI_ltI (by omega) (by omega)).mpr c)] at e3
      subst e3
      exact ih (j + 1) l (by omega) hl (fun i a b => hb i (by omega) b) h
  have l : ∀ m j l, j + m = n → l ≤ x → Q (.inl (some (.int (nI (x - pr F x m j l))))) E I J S → am_ww 228 4 [.ref 99, .int (nI x), .int (nI l), .int (nI j)] [] E I J S Q := by
    intro m
    induction m with
    | zero =>
      intro j l ej hl h
      apply g228_4
      rw [en, nI_leI (by omega) (by omega), nI_subI hl]
      exact ⟨fun _ => h, fun q => absurd (by omega) q⟩
    | succ m ih =>
      intro j l ej hl h
      have h' : Q (.inl (some (.int (nI (x - (if x < F j then l else pr F x m (j + 1) (F j))))))) E I J S := h
      by_cases c : x < F j
      · rw [if_pos c] at h'
        refine out (m + 1) j l ej hl (fun i a b => ?_) h'
        by_cases ci : i = j
        · rw [ci]; exact c
        · have := hs j i (by omega) b
          omega
      · rw [if_neg c] at h'
        apply g228_4
        have := hF j (by omega)
        rw [en, nI_leI (by omega) (by omega), nI_clamp (by omega), ha j (by omega), nI_add]
        refine ⟨fun q => absurd q (by omega), fun _ => ⟨vp_in_nI (by omega) (by omega), fun w3 e3 => ?_⟩⟩
        rw [if_neg (fun q => c ((nI_ltI (by omega) (by omega)).mp q))] at e3
        subst e3
        exact ih (j + 1) (F j) (by omega) (by omega) h'
  exact l n 0 0 (by omega) (by omega) h
/-- the greatest cost, by gaps and by steps -/
def gA (F : Nat → Nat) : Nat → Nat → Nat → Nat
  | 0, _, v => v
  | m + 1, i, v => gA F m (i + 1) (max v (F i - 1 - F (i - 1)))
def gB (c : Nat → Nat) : Nat → Nat → Nat → Nat
  | 0, _, v => v
  | m + 1, x, v => gB c m (x + 1) (max v (c x))
theorem gA_le {F : Nat → Nat} {w : Nat} : ∀ m i v, v ≤ w → (∀ j, i ≤ j → j < i + m → F j - 1 - F (j - 1) ≤ w) → gA F m i v ≤ w := by
  intro m
  induction m with
  | zero => intro i v h _; exact h
  | succ m ih =>
    intro i v h hj
    exact ih (i + 1) _ (Nat.max_le.mpr ⟨h, hj i (Nat.le_refl _) (by omega)⟩) (fun j a b => hj j (by omega) (by omega))
theorem gA_ge {F : Nat → Nat} : ∀ m i v, v ≤ gA F m i v ∧ (∀ j, i ≤ j → j < i + m → F j - 1 - F (j - 1) ≤ gA F m i v) := by
  intro m
  induction m with
  | zero => intro i v; exact ⟨Nat.le_refl _, fun j a b => absurd b (by omega)⟩
  | succ m ih =>
    intro i v
    obtain ⟨a, b⟩ := ih (i + 1) (max v (F i - 1 - F (i - 1)))
    refine ⟨Nat.le_trans (Nat.le_max_left _ _) a, fun j h1 h2 => ?_⟩
    by_cases c : j = i
    · rw [c]; exact Nat.le_trans (Nat.le_max_right _ _) a
    · exact b j (by omega) (by omega)
theorem gB_le {c : Nat → Nat} {w : Nat} : ∀ m i v, v ≤ w → (∀ j, i ≤ j → j < i + m → c j ≤ w) → gB c m i v ≤ w := by
  intro m
  induction m with
  | zero => intro i v h _; exact h
  | succ m ih =>
    intro i v h hj
    exact ih (i + 1) _ (Nat.max_le.mpr ⟨h, hj i (Nat.le_refl _) (by omega)⟩) (fun j a b => hj j (by omega) (by omega))
theorem gB_ge {c : Nat → Nat} : ∀ m i v, v ≤ gB c m i v ∧ (∀ j, i ≤ j → j < i + m → c j ≤ gB c m i v) := by
  intro m
  induction m with
  | zero => intro i v; exact ⟨Nat.le_refl _, fun j a b => absurd b (by omega)⟩
  | succ m ih =>
    intro i v
    obtain ⟨a, b⟩ := ih (i + 1) (max v (c i))
    refine ⟨Nat.le_trans (Nat.le_max_left _ _) a, fun j h1 h2 => ?_⟩
    by_cases cc : j = i
    · rw [cc]; exact Nat.le_trans (Nat.le_max_right _ _) a
    · exact b j (by omega) (by omega)
theorem gAB {F : Nat → Nat} {n T : Nat} (hn : 1 ≤ n) (h0 : F 0 = 0) (hs : ∀ a b, a < b → b < n → F a < F b) (hT : ∀ j, j < n → F j ≤ T) : gA F (n - 1) 1 (T - pr F T n 0 0) = gB (fun x => x - pr F x n 0 0) (T + 1) 0 0 := by
  obtain ⟨a1, a2⟩ := gA_ge (F := F) (n - 1) 1 (T - pr F T n 0 0)
  obtain ⟨b1, b2⟩ := gB_ge (c := fun x => x - pr F x n 0 0) (T + 1) 0 0
  apply Nat.le_antisymm
  · refine gA_le _ _ _ (b2 T (by omega) (by omega)) (fun j h1 h2 => ?_)
    have hj := hs (j - 1) j (by omega) (by omega)
    have hjT := hT j (by omega)
    have := b2 (F j - 1) (by omega) (by omega)
    obtain ⟨i, i1, i2, i3, i4⟩ := pr_0 (F := F) (x := F j - 1) hn h0
    rw [i2] at this
    have ij : i = j - 1 := by
      rcases Nat.lt_trichotomy i (j - 1) with c | c | c
      · rcases i4 with i4 | i4
        · omega
        · have : F (i + 1) ≤ F (j - 1) := by
            by_cases cc : i + 1 = j - 1
            · rw [cc]; exact Nat.le_refl _
            · exact Nat.le_of_lt (hs (i + 1) (j - 1) (by omega) (by omega))
          omega
      · exact c
      · have : F j ≤ F i := by
          by_cases cc : i = j
          · rw [cc]; exact Nat.le_refl _
          · exact Nat.le_of_lt (hs j i (by omega) i1)
        omega
    rw [ij] at this
    exact this
  · refine gB_le _ _ _ (Nat.zero_le _) (fun x _ hx => ?_)
    show x - pr F x n 0 0 ≤ _
    obtain ⟨i, i1, i2, i3, i4⟩ := pr_0 (F := F) (x := x) hn h0
    rw [i2]
    rcases i4 with i4 | i4
    · obtain ⟨k, k1, k2, k3, k4⟩ := pr_0 (F := F) (x := T) hn h0
      rw [k2] at a1
      have : k = i := by
        rcases k4 with k4 | k4
        · omega
        · by_cases ck : k + 1 < n
          · have := hT (k + 1) ck
            omega
          · omega
      rw [k2, this] at a2 ⊢
      rw [this] at a1
      omega
    · by_cases c : i + 1 < n
      · have := a2 (i + 1) (by omega) (by omega)
        rw [Nat.add_sub_cancel] at this
        omega
      · have hi : i + 1 = n := by omega
        obtain ⟨k, k1, k2, k3, k4⟩ := pr_0 (F := F) (x := T) hn h0
        rw [k2] at a1
        have : k = i := by
          rcases k4 with k4 | k4
          · omega
          · by_cases ck : k + 1 < n
            · have := hT (k + 1) ck
              omega
            · omega
        rw [k2, this] at a2 ⊢
        rw [this] at a1
        omega
