/-! snapshots: what both make -/
def clo (F : Nat → Nat) : Nat → Nat → Nat → Nat
  | 0, _, b => b
  | m + 1, i, b => clo F m (i + 1) (if F (b + 1) - F (b - 1) ≤ F (i + 1) - F (i - 1) then b else i)
def drp (F : Nat → Nat) (b j : Nat) : Nat := if j < b then F j else F (j + 1)
def sadd (s n : Nat) (F : Nat → Nat) (x : Nat) : Nat × (Nat → Nat) := if n + 1 ≤ s then (n + 1, put1 F n x) else (n, drp (put1 F n x) (clo (put1 F n x) (n - 2) 2 1))
def sn (s : Nat) : Nat → Nat → Nat → (Nat → Nat) → Nat × (Nat → Nat)
  | 0, _, n, F => (n, F)
  | m + 1, x, n, F => sn s m (x + 16) (sadd s n F x).1 (sadd s n F x).2
/-- sorted, from 0 on, below x -/
def SI (s n : Nat) (F : Nat → Nat) (x : Nat) : Prop := (1 ≤ n ∧ n ≤ s) ∧ F 0 = 0 ∧ (∀ a b, a < b → b < n → F a < F b) ∧ (∀ j, j < n → F j < x)
theorem clo_in (F : Nat → Nat) : ∀ m i b, 1 ≤ b → b < i → 1 ≤ clo F m i b ∧ clo F m i b < i + m := by
  intro m
  induction m with
  | zero => intro i b h1 h2; exact ⟨h1, by show b < i + 0; omega⟩
  | succ m ih =>
    intro i b h1 h2
    show 1 ≤ clo F m (i + 1) (if F (b + 1) - F (b - 1) ≤ F (i + 1) - F (i - 1) then b else i) ∧ _
    have := ih (i + 1) (if F (b + 1) - F (b - 1) ≤ F (i + 1) - F (i - 1) then b else i) (by split <;> omega) (by split <;> omega)
    refine ⟨this.1, ?_⟩
    show clo F m (i + 1) (if F (b + 1) - F (b - 1) ≤ F (i + 1) - F (i - 1) then b else i) < i + (m + 1)
    omega
theorem put_s {s n x : Nat} {F : Nat → Nat} (h : SI s n F x) : put1 F n x 0 = 0 ∧ (∀ a b, a < b → b < n + 1 → put1 F n x a < put1 F n x b) ∧ (∀ j, j < n + 1 → put1 F n x j ≤ x) := by
  obtain ⟨h1, h2, h3, h4⟩ := h
  unfold put1
  refine ⟨by rw [if_neg (by omega)]; exact h2, fun a b hab hb => ?_, fun j hj => ?_⟩
  · rw [if_neg (by omega)]
    by_cases c : b = n
    · rw [if_pos c]; exact h4 a (by omega)
    · rw [if_neg c]; exact h3 a b hab (by omega)
  · by_cases c : j = n
    · rw [if_pos c]; exact Nat.le_refl _
    · rw [if_neg c]
      have := h4 j (by omega)
      omega
theorem SI_add {s n x : Nat} {F : Nat → Nat} (hs : 2 ≤ s) (h : SI s n F x) : SI s (sadd s n F x).1 (sadd s n F x).2 (x + 16) := by
  obtain ⟨p1, p2, p3⟩ := put_s h
  obtain ⟨h1, h2, h3, h4⟩ := h
  unfold sadd
  by_cases c : n + 1 ≤ s
  · rw [if_pos c]
    exact ⟨⟨by omega, c⟩, p1, p2, fun j hj => by have := p3 j hj; show put1 F n x j < x + 16; omega⟩
  · rw [if_neg c]
    have b := clo_in (put1 F n x) (n - 2) 2 1 (by omega) (by omega)
    generalize clo (put1 F n x) (n - 2) 2 1 = best at b
    refine ⟨⟨by show 1 ≤ n; omega, by show n ≤ s; omega⟩, ?_, fun a b' hab hb => ?_, fun j hj => ?_⟩
    · show drp (put1 F n x) best 0 = 0
      unfold drp
      rw [if_pos (by omega)]
      exact p1
    · have hb' : b' < n := hb
      show drp (put1 F n x) best a < drp (put1 F n x) best b'
      unfold drp
      by_cases c1 : a < best
      · rw [if_pos c1]
        by_cases c2 : b' < best
        · rw [if_pos c2]; exact p2 a b' hab (by omega)
        · rw [if_neg c2]; exact p2 a (b' + 1) (by omega) (by omega)
      · rw [if_neg c1, if_neg (by omega)]
        exact p2 (a + 1) (b' + 1) (by omega) (by omega)
    · have hj' : j < n := hj
      show drp (put1 F n x) best j < x + 16
      unfold drp
      by_cases c1 : j < best
      · rw [if_pos c1]; have := p3 j (by omega); omega
      · rw [if_neg c1]; have := p3 (j + 1) (by omega); omega
theorem SI_0 {s : Nat} (hs : 2 ≤ s) : SI s 1 (fun _ => 0) 16 := ⟨⟨by omega, by omega⟩, rfl, fun a b h1 h2 => absurd h1 (by omega), fun j _ => show (0 : Nat) < 16 by omega⟩
theorem sn_SI {s : Nat} (hs : 2 ≤ s) : ∀ m x n F, SI s n F x → SI s (sn s m x n F).1 (sn s m x n F).2 (x + 16 * m) := by
  intro m
  induction m with
  | zero => intro x n F h; exact h
  | succ m ih =>
    intro x n F h
    have := ih (x + 16) _ _ (SI_add hs h)
    rw [show x + 16 + 16 * m = x + 16 * (m + 1) by omega] at this
    exact this
/-- an array holds the first n -/
def ar (f : Nat → Int32) (n : Nat) (F : Nat → Nat) : Prop := ∀ j, j < n → f j = nI (F j)
theorem ar_put {f : Nat → Int32} {n x : Nat} {F : Nat → Nat} (h : ar f n F) : ar (upd f n (nI x)) (n + 1) (put1 F n x) := by
  intro j hj
  unfold put1
  by_cases c : j = n
  · rw [c, upd_eq, if_pos rfl]
  · rw [upd_ne c, if_neg c]; exact h j (by omega)
/-- in the middle of a drop -/
def mdr (f : Nat → Int32) (n : Nat) (F : Nat → Nat) (b i : Nat) : Prop := (∀ j, j < i → f j = nI (drp F b j)) ∧ (∀ j, i ≤ j → j < n → f j = nI (F j))
theorem mdr_0 {f : Nat → Int32} {n b : Nat} {F : Nat → Nat} (hb : b < n) (h : ar f n F) : mdr f n F b b := ⟨fun j hj => by unfold drp; rw [if_pos hj]; exact h j (by omega), fun j _ hj => h j hj⟩
theorem mdr_s {f : Nat → Int32} {n b i : Nat} {F : Nat → Nat} (hi : b ≤ i) (hn : i + 1 < n) (h : mdr f n F b i) : mdr (upd f i (f (i + 1))) n F b (i + 1) := by
  refine ⟨fun j hj => ?_, fun j h1 h2 => ?_⟩
  · by_cases c : j = i
    · rw [c, upd_eq, h.2 (i + 1) (by omega) hn]
      unfold drp
      rw [if_neg (by omega)]
    · rw [upd_ne c]; exact h.1 j (by omega)
  · rw [upd_ne (by omega)]; exact h.2 j (by omega) h2
/-- the comparison of two gaps -/
theorem gap {f : Nat → Int32} {n b i : Nat} {F : Nat → Nat} (h : ar f n F) (hs : ∀ a b, a < b → b < n → F a < F b) (hx : ∀ j, j < n → F j ≤ 416) (hb : 1 ≤ b) (hbi : b < i) (hi : i + 1 < n) : ((f (b + 1) - f (b - 1) ≤ f (i + 1) - f (i - 1)) ↔ F (b + 1) - F (b - 1) ≤ F (i + 1) - F (i - 1)) := by
  have a1 := hs (b - 1) (b + 1) (by omega) (by omega)
  have a2 := hs (i - 1) (i + 1) (by omega) (by omega)
  have x1 := hx (b + 1) (by omega)
  have x2 := hx (i + 1) (by omega)
  rw [h (b + 1) (by omega), h (b - 1) (by omega), h (i + 1) (by omega), h (i - 1) (by omega), nI_subI (by omega), nI_subI (by omega), nI_leI (by omega) (by omega)]
theorem c103 {E : am_Ev} {I : Nat → Nat → Int32} {J : Nat → Nat → Int64} {S : Nat → Nat → Option Nat} {Q : am_Qt} {N : Nat} {F : Nat → Nat} (eN : I 85 1 = nI N) (hN : 3 ≤ N) (hN9 : N ≤ 9) (ha : ar (I 86) N F) (hs : ∀ a b, a < b → b < N → F a < F b) (hx : ∀ j, j < N → F j ≤ 416) (h : Q (.inl (some (.int (nI (clo F (N - 3) 2 1))))) E I J S) : am_cl 103 [.ref 85] E I J S Q := by
  show am_ww 103 0 [.ref 85, am_U, am_U] [] E I J S Q
  apply g103_0
  have l : ∀ m i b, i + m = N - 1 → 1 ≤ b → b < i → Q (.inl (some (.int (nI (clo F m i b))))) E I J S → am_ww 103 4 [.ref 85, .int (nI b), .int (nI i)] [] E I J S Q := by
    intro m
    induction m with
    | zero =>
      intro i b ei hb hbi h
      apply g103_4
      rw [eN, nI_subI (by omega), nI_leI (by omega) (by omega)]
      exact ⟨fun _ => h, fun q => absurd (by omega) q⟩
    | succ m ih =>
      intro i b ei hb hbi h
      apply g103_4
      rw [eN, nI_subI (by omega), nI_leI (by omega) (by omega), nI_add, nI_add, nI_subI (by omega), nI_subI (by omega), nI_clamp (by omega), nI_clamp (by omega), nI_clamp (by omega), nI_clamp (by omega)]
      refine ⟨fun q => absurd q (by omega), fun _ => ⟨vp_in_nI (by omega) (by omega), vp_in_nI (by omega) (by omega), vp_in_nI (by omega) (by omega), vp_in_nI (by omega) (by omega), fun w6 e6 => ?_⟩⟩
      have g := gap ha hs hx hb hbi (by omega)
      have h' : Q (.inl (some (.int (nI (clo F m (i + 1) (if F (b + 1) - F (b - 1) ≤ F (i + 1) - F (i - 1) then b else i)))))) E I J S := h
      by_cases c : F (b + 1) - F (b - 1) ≤ F (i + 1) - F (i - 1)
      · rw [if_pos (g.mpr c)] at e6
        rw [if_pos c] at h'
        subst e6
        exact ih (i + 1) b (by omega) hb (by omega) h'
      · rw [if_neg (fun q => c (g.mp q))] at e6
        rw [if_neg c] at h'
        subst e6
        exact ih (i + 1) i (by omega) (by omega) (by omega) h'
  exact l (N - 3) 2 1 (by omega) (by omega) (by omega) h
theorem c104 {E : am_Ev} {I : Nat → Nat → Int32} {J : Nat → Nat → Int64} {S : Nat → Nat → Option Nat} {Q : am_Qt} {N b : Nat} {F : Nat → Nat} (eN : I 85 1 = nI N) (hN : 3 ≤ N) (hN9 : N ≤ 9) (hb : 1 ≤ b) (hbN : b < N - 1) (ha : ar (I 86) N F) (h : ∀ I', fr I I' [85, 86] → I' 85 1 = nI (N - 1) → ar (I' 86) (N - 1) (drp F b) → Q (.inl none) E I' J S) : am_cl 104 [.ref 85, .int (nI b)] E I J S Q := by
  show am_ww 104 0 [.ref 85, .int (nI b), am_U] [] E I J S Q
  apply g104_0
  have l : ∀ m i (I1 : Nat → Nat → Int32), i + m = N - 1 → b ≤ i → fr I I1 [86] → mdr (I1 86) N F b i → am_ww 104 2 [.ref 85, .int (nI b), .int (nI i)] [] E I1 J S Q := by
    intro m
    induction m with
    | zero =>
      intro i I1 ei hbi f1 m1
      apply g104_2 rfl
      rw [f1 85 (by decide), eN, nI_subI (by omega), nI_leI (by omega) (by omega)]
      refine ⟨fun _ => h _ (fun k hk => ?_) ?_ (fun j hj => ?_), fun q => absurd (by omega) q⟩
      · simp only [List.mem_cons, List.not_mem_nil, or_false, not_or] at hk
        rw [u_I_ne hk.1]; exact f1 k (by simp [hk.2])
      · rw [u_I_eq, upd_eq]
      · rw [u_I_ne (by decide)]; exact m1.1 j (by omega)
    | succ m ih =>
      intro i I1 ei hbi f1 m1
      apply g104_2 rfl
      rw [f1 85 (by decide), eN, nI_subI (by omega), nI_leI (by omega) (by omega), nI_add, nI_clamp (by omega), nI_clamp (by omega)]
      refine ⟨fun q => absurd q (by omega), fun _ => ⟨vp_in_nI (by omega) (by omega), vp_in_nI (by omega) (by omega), ih (i + 1) _ (by omega) (by omega) (fun k hk => ?_) ?_⟩⟩
      · simp only [List.mem_singleton] at hk
        rw [u_I_ne hk]; exact f1 k (by simp [hk])
      · rw [u_I_eq]
        exact mdr_s hbi (by omega) m1
  exact l (N - 1 - b) b I (by omega) (Nat.le_refl _) fr_id (mdr_0 (by omega) ha)
theorem c102 {E : am_Ev} {I : Nat → Nat → Int32} {J : Nat → Nat → Int64} {S : Nat → Nat → Option Nat} {Q : am_Qt} {T s : Nat} (hT : T ≤ 400) (hs : 2 ≤ s) (hs8 : s ≤ 8) (h : ∀ I', fr I I' [85, 86] → I' 85 1 = nI (sn s (T / 16) 16 1 (fun _ => 0)).1 → ar (I' 86) (sn s (T / 16) 16 1 (fun _ => 0)).1 (sn s (T / 16) 16 1 (fun _ => 0)).2 → Q (.inl none) E I' J S) : am_cl 102 [.ref 85, .int (nI T), .int (nI s)] E I J S Q := by
  show am_ww 102 0 [.ref 85, .int (nI T), .int (nI s), am_U] [] E I J S Q
  apply g102_0
  have l : ∀ m x n F (I1 : Nat → Nat → Int32), x / 16 + m = T / 16 + 1 → x % 16 = 0 → 16 ≤ x → SI s n F x → fr I I1 [85, 86] → I1 85 1 = nI n → ar (I1 86) n F → (∀ I', fr I I' [85, 86] → I' 85 1 = nI (sn s m x n F).1 → ar (I' 86) (sn s m x n F).1 (sn s m x n F).2 → Q (.inl none) E I' J S) → am_ww 102 10 [.ref 85, .int (nI T), .int (nI s), .int (nI x)] [] E I1 J S Q := by
    intro m
    induction m with
    | zero =>
      intro x n F I1 ex x0 x16 hS f1 e1 a1 h
      apply g102_10
      rw [nI_ltI (by omega) (by omega)]
      exact ⟨fun _ => h I1 f1 e1 a1, fun q => absurd (by omega) q⟩
    | succ m ih =>
      intro x n F I1 ex x0 x16 hS f1 e1 a1 h
      apply g102_10
      have hn := hS.1
      rw [nI_ltI (by omega) (by omega), e1, nI_ltI (by omega) (by omega), nI_add, nI_add, nI_clamp (by omega), nI_leI (by omega) (by omega), nI_leI (by omega) (by omega)]
      refine ⟨fun q => absurd q (by omega), fun _ => ⟨fun q => absurd q (by omega), fun _ => ⟨vp_in_nI (by omega) (by omega), ?_⟩⟩⟩
      have hS' := SI_add hs hS
      have z86 : u_I (u_I I1 86 (upd (I1 86) n (nI x))) 85 (upd (I1 85) 1 (nI (n + 1))) 86 = upd (I1 86) n (nI x) := by rw [u_I_ne (by decide), u_I_eq]
      have z85 : u_I (u_I I1 86 (upd (I1 86) n (nI x))) 85 (upd (I1 85) 1 (nI (n + 1))) 85 1 = nI (n + 1) := by rw [u_I_eq, upd_eq]
      have zo : fr I (u_I (u_I I1 86 (upd (I1 86) n (nI x))) 85 (upd (I1 85) 1 (nI (n + 1)))) [85, 86] := fun k hk => by
        have hk' := hk
        simp only [List.mem_cons, List.not_mem_nil, or_false, not_or] at hk'
        rw [u_I_ne hk'.1, u_I_ne hk'.2]; exact f1 k hk
      generalize u_I (u_I I1 86 (upd (I1 86) n (nI x))) 85 (upd (I1 85) 1 (nI (n + 1))) = I2 at z86 z85 zo ⊢
      have a2 : ar (I2 86) (n + 1) (put1 F n x) := by rw [z86]; exact ar_put a1
      refine ⟨fun c => ?_, fun c => ?_⟩
      · have es : sadd s n F x = (n + 1, put1 F n x) := by unfold sadd; rw [if_pos c]
        have h' : ∀ I', fr I I' [85, 86] → I' 85 1 = nI (sn s m (x + 16) (sadd s n F x).1 (sadd s n F x).2).1 → ar (I' 86) (sn s m (x + 16) (sadd s n F x).1 (sadd s n F x).2).1 (sn s m (x + 16) (sadd s n F x).1 (sadd s n F x).2).2 → Q (.inl none) E I' J S := h
        rw [es] at h' hS'
        exact ih (x + 16) (n + 1) _ I2 (by omega) (by omega) (by omega) hS' zo z85 a2 h'
      · have es : sadd s n F x = (n, drp (put1 F n x) (clo (put1 F n x) (n - 2) 2 1)) := by unfold sadd; rw [if_neg c]
        have h' : ∀ I', fr I I' [85, 86] → I' 85 1 = nI (sn s m (x + 16) (sadd s n F x).1 (sadd s n F x).2).1 → ar (I' 86) (sn s m (x + 16) (sadd s n F x).1 (sadd s n F x).2).1 (sn s m (x + 16) (sadd s n F x).1 (sadd s n F x).2).2 → Q (.inl none) E I' J S := h
        rw [es] at h' hS'
        obtain ⟨p1, p2, p3⟩ := put_s hS
        have cb := clo_in (put1 F n x) (n - 2) 2 1 (by omega) (by omega)
        refine c103 (N := n + 1) (F := put1 F n x) z85 (by omega) (by omega) a2 p2 (fun j hj => by have := p3 j hj; omega) (q_mkI ?_)
        rw [show n + 1 - 3 = n - 2 by omega]
        refine c104 (N := n + 1) (F := put1 F n x) z85 (by omega) (by omega) cb.1 (by omega) a2 (fun I3 f3 e3 a3 => q_mkV ?_)
        exact ih (x + 16) n _ I3 (by omega) (by omega) (by omega) hS' (fun k hk => by rw [f3 k hk, zo k hk]) e3 a3 h'
  refine l (T / 16) 16 1 (fun _ => 0) _ (by omega) (by omega) (by omega) (SI_0 hs) (fun k hk => ?_) ?_ (fun j hj => ?_) h
  · simp only [List.mem_cons, List.not_mem_nil, or_false, not_or] at hk
    rw [u_I_ne hk.2, u_I_ne hk.1]
  · rw [u_I_ne (by decide), u_I_eq, upd_eq]
  · rw [u_I_eq, show j = 0 by omega, upd_eq]
