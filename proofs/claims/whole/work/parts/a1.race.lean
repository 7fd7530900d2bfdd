/-! race -/
noncomputable def sm (I : Nat → Nat → Int32) : Nat → Nat
  | 0 => 0
  | l + 1 => sm I l + cnR I (l + 1)
theorem sm_s (I : Nat → Nat → Int32) {l : Nat} (h : 1 ≤ l) : sm I l = sm I (l - 1) + cnR I l := by
  obtain ⟨k, rfl⟩ : ∃ k, l = k + 1 := ⟨l - 1, by omega⟩
  rfl
theorem sm_mono (I : Nat → Nat → Int32) : ∀ d l, sm I l ≤ sm I (l + d) := by
  intro d
  induction d with
  | zero => intro l; exact Nat.le_refl _
  | succ d ih =>
    intro l
    have := ih l
    have e : sm I (l + (d + 1)) = sm I (l + d) + cnR I (l + d + 1) := rfl
    omega
theorem cnR_le (I : Nat → Nat → Int32) (l : Nat) : cnR I l ≤ l := by
  have := nc_le (P := fun e => rc I e l) (l - 1) 1
  unfold cnR
  omega
theorem sm_le (I : Nat → Nat → Int32) : ∀ l, l ≤ 400 → sm I l ≤ 400 * l := by
  intro l
  induction l with
  | zero => intro _; exact Nat.le_refl _
  | succ l ih =>
    intro h
    have a := ih (by omega)
    have b := cnR_le I (l + 1)
    have e : sm I (l + 1) = sm I l + cnR I (l + 1) := rfl
    omega
theorem ouL_n {I : Nat → Nat → Int32} : ∀ m l x, 1 ≤ l → (ouL I m l x).1 + sm I (l - 1) = x.1 + sm I (l + m - 1) := by
  intro m
  induction m with
  | zero => intro l x _; rfl
  | succ m ih =>
    intro l x l1
    show (ouL I m (l + 1) (inE I l (l - 1) 1 x)).1 + sm I (l - 1) = _
    have a := ih (l + 1) (inE I l (l - 1) 1 x) (by omega)
    rw [inE_n, Nat.add_sub_cancel, sm_s I l1, show l + 1 + m - 1 = l + (m + 1) - 1 by omega] at a
    have e : cnR I l = nc (fun e => rc I e l) (l - 1) 1 := rfl
    omega
theorem tot {I : Nat → Nat → Int32} {T : Nat} : (ouL I T 1 x0).1 = sm I T := by
  have := ouL_n (I := I) T 1 x0 (by omega)
  have e : x0.1 = 0 := rfl
  have e0 : sm I (1 - 1) = 0 := rfl
  rw [e, e0, show 1 + T - 1 = T by omega] at this
  omega
theorem nc_add {P : Nat → Prop} : ∀ n m e, nc P (n + m) e = nc P n e + nc P m (e + n) := by
  intro n
  induction n with
  | zero =>
    intro m e
    rw [Nat.zero_add, Nat.add_zero]
    show _ = 0 + _
    rw [Nat.zero_add]
  | succ n ih =>
    intro m e
    rw [show n + 1 + m = (n + m) + 1 by omega]
    have i := ih m (e + 1)
    rw [show e + 1 + n = e + (n + 1) by omega] at i
    by_cases c : P e
    · rw [nc_y c, nc_y c, i]; omega
    · rw [nc_n c, nc_n c, i]
/-- the i-th race: its steps -/
def PR (I : Nat → Nat → Int32) (i l e : Nat) : Prop := 1 ≤ e ∧ e < l ∧ rc I e l ∧ sm I (l - 1) + nc (fun e => rc I e l) (e - 1) 1 = i
theorem PR_lt {I : Nat → Nat → Int32} {i l e : Nat} (h : PR I i l e) : i < sm I l := by
  obtain ⟨h1, h2, h3, h4⟩ := h
  have a := nc_add (P := fun e => rc I e l) (e - 1) (l - e) 1
  rw [show e - 1 + (l - e) = l - 1 by omega, show 1 + (e - 1) = e by omega, show l - e = (l - e - 1) + 1 by omega, nc_y (P := fun e => rc I e l) h3] at a
  have e : sm I l = sm I (l - 1) + nc (fun e => rc I e l) (l - 1) 1 := sm_s I (by omega)
  omega
theorem PR_u {I : Nat → Nat → Int32} {i l e l' e' : Nat} (h : PR I i l e) (h' : PR I i l' e') : l = l' ∧ e = e' := by
  have key : ∀ {l e l' e'}, PR I i l e → PR I i l' e' → ¬ l < l' := by
    intro l e l' e' h h' c
    have a := PR_lt h
    have b := sm_mono I (l' - 1 - l) l
    rw [show l + (l' - 1 - l) = l' - 1 by omega] at b
    have := h'.2.2.2
    omega
  have el : l = l' := by
    rcases Nat.lt_trichotomy l l' with c | c | c
    · exact absurd c (key h h')
    · exact c
    · exact absurd c (key h' h)
  subst el
  have key2 : ∀ {e e'}, PR I i l e → PR I i l e' → ¬ e < e' := by
    intro e e' h h' c
    obtain ⟨h1, h2, h3, h4⟩ := h
    obtain ⟨k1, k2, k3, k4⟩ := h'
    have a := nc_add (P := fun e => rc I e l) (e - 1) (e' - e) 1
    rw [show e - 1 + (e' - e) = e' - 1 by omega, show 1 + (e - 1) = e by omega, show e' - e = (e' - e - 1) + 1 by omega, nc_y (P := fun e => rc I e l) h3] at a
    omega
  refine ⟨rfl, ?_⟩
  rcases Nat.lt_trichotomy e e' with c | c | c
  · exact absurd c (key2 h h')
  · exact c
  · exact absurd c (key2 h' h)
theorem c158 {E : am_Ev} {I : Nat → Nat → Int32} {J : Nat → Nat → Int64} {S : Nat → Nat → Option Nat} {Q : am_Qt} {I0 : Nat → Nat → Int32} {T i : Nat} (hT : T ≤ 400) (r1 : ∀ l, 1 ≤ l → l ≤ T → I 90 l = nI (cnR I0 l)) (hi : i < sm I0 T) (h : ∀ L, 1 ≤ L → L ≤ T → sm I0 (L - 1) ≤ i → i < sm I0 L → Q (.inl (some (.int (nI L)))) E I J S) : am_cl 158 [.ref 89, .int (nI i), .int (nI T)] E I J S Q := by
  show am_ww 158 0 [.ref 89, .int (nI i), .int (nI T), am_U, am_U] [] E I J S Q
  apply g158_0
  have hs := sm_le I0 T hT
  have l : ∀ m t, t + m = T + 1 → 1 ≤ t → sm I0 (t - 1) ≤ i → am_ww 158 4 [.ref 89, .int (nI i), .int (nI T), .int (nI (i - sm I0 (t - 1))), .int (nI t)] [] E I J S Q := by
    intro m
    induction m with
    | zero =>
      intro t et t1 hle
      exfalso
      rw [show t - 1 = T by omega] at hle
      omega
    | succ m ih =>
      intro t et t1 hle
      apply g158_4 rfl
      have cb := cnR_le I0 t
      have e := sm_s I0 t1
      rw [nI_ltI (by omega) (by omega), nI_clamp (by omega), r1 t t1 (by omega), nI_leI (by omega) (by omega)]
      refine ⟨fun q => absurd q (by omega), fun _ => ⟨vp_in_nI (by omega) (by omega), fun c w2 e2 => ?_, fun c => h t t1 (by omega) hle (by omega)⟩⟩
      rw [nI_subI c] at e2
      subst e2
      rw [nI_add]
      have := ih (t + 1) (by omega) (by omega) (by rw [Nat.add_sub_cancel]; omega)
      rw [Nat.add_sub_cancel, show i - sm I0 t = i - sm I0 (t - 1) - cnR I0 t by omega] at this
      exact this
  have := l T 1 (by omega) (by omega) (Nat.zero_le _)
  exact this
theorem c159 {E : am_Ev} {I : Nat → Nat → Int32} {J : Nat → Nat → Int64} {S : Nat → Nat → Option Nat} {Q : am_Qt} {I0 : Nat → Nat → Int32} {T i L : Nat} (hT : T ≤ 400) (hF : FT I0 T) (ff : ∀ k, k < 88 ∨ 95 < k → I k = I0 k) (hr : (∀ l, 1 ≤ l → l ≤ T → I 90 l = nI (cnR I0 l)) ∧ (∀ t, 1 ≤ t → t ≤ T → I 91 t = tc I0 t) ∧ (∀ t, 1 ≤ t → t ≤ T → ∀ i, i < 4 → I 92 (4 * t + i) = nI (V I0 t i))) (L1 : 1 ≤ L) (LT : L ≤ T) (hi1 : sm I0 (L - 1) ≤ i) (hi2 : i < sm I0 L) (h : ∀ e, PR I0 i L e → Q (.inl (some (.int (nI e)))) E I J S) : am_cl 159 [.ref 89, .int (nI i), .int (nI L), .ref 12, .ref 18] E I J S Q := by
  show am_ww 159 0 [.ref 89, .int (nI i), .int (nI L), .ref 12, .ref 18, am_U, am_U] [] E I J S Q
  obtain ⟨r1, r2, r3⟩ := hr
  have hs := sm_le I0 T hT
  have hsL := sm_mono I0 (T - L) L
  rw [show L + (T - L) = T by omega] at hsL
  have eL := sm_s I0 L1
  have tl' : ¬ tc I0 L = -1 := fun z => by
    have : cnR I0 L = 0 := nc_0 _ _ (fun j _ _ q => q.2.1 z)
    omega
  apply g159_0
  have l2 : ∀ m e r, e + m = L → 1 ≤ e → r + nc (fun e => rc I0 e L) (e - 1) 1 = i - sm I0 (L - 1) → am_ww 159 18 [.ref 89, .int (nI i), .int (nI L), .ref 12, .ref 18, .int (nI r), .int (nI e)] [] E I J S Q := by
    intro m
    induction m with
    | zero =>
      intro e r ee e1 er
      exfalso
      have : cnR I0 L = nc (fun e => rc I0 e L) (e - 1) 1 := by rw [show e - 1 = L - 1 by omega]; rfl
      omega
    | succ m ih =>
      intro e r ee e1 er
      apply g159_18 rfl
      rw [nI_leI (by omega) (by omega)]
      refine ⟨fun q => absurd q (by omega), fun _ => ?_⟩
      have a := nc_add (P := fun e => rc I0 e L) (e - 1) 1 1
      rw [show e - 1 + 1 = e by omega, show 1 + (e - 1) = e by omega] at a
      refine c152 (I := I0) hT hF e1 (by omega) LT ff tl' (fun t x y => r2 t x (by omega)) (fun j hj => r3 L L1 LT j hj) (fun yr => q_mkI ⟨fun q => absurd q (by decide), fun _ => ?_⟩) (fun nr => q_mkI ⟨fun _ => ?_, fun q => absurd nI_0 q⟩)
      · have a' : nc (fun e => rc I0 e L) 1 e = 1 := by
          rw [show (1 : Nat) = 0 + 1 from rfl, nc_y (P := fun e => rc I0 e L) yr]; rfl
        rw [nI_e0 (by omega)]
        refine ⟨fun c => h e ⟨e1, by omega, yr, by omega⟩, fun c => ?_⟩
        rw [nI_subI (by omega), nI_add]
        exact ih (e + 1) (r - 1) (by omega) (by omega) (by rw [Nat.add_sub_cancel]; omega)
      · have a' : nc (fun e => rc I0 e L) 1 e = 0 := by
          rw [show (1 : Nat) = 0 + 1 from rfl, nc_n (P := fun e => rc I0 e L) nr]; rfl
        rw [nI_add]
        exact ih (e + 1) r (by omega) (by omega) (by rw [Nat.add_sub_cancel]; omega)
  have l1 : ∀ m t, t + m = L → 1 ≤ t → am_ww 159 4 [.ref 89, .int (nI i), .int (nI L), .ref 12, .ref 18, .int (nI (i - sm I0 (t - 1))), .int (nI t)] [] E I J S Q := by
    intro m
    induction m with
    | zero =>
      intro t et t1
      apply g159_4 rfl
      rw [nI_leI (by omega) (by omega)]
      refine ⟨fun _ => l2 (L - 1) 1 _ (by omega) (by omega) ?_, fun q => absurd (by omega) q⟩
      rw [show t - 1 = L - 1 by omega]
      rfl
    | succ m ih =>
      intro t et t1
      apply g159_4 rfl
      have cb := cnR_le I0 t
      have e := sm_s I0 t1
      have mo := sm_mono I0 (L - 1 - t) t
      rw [show t + (L - 1 - t) = L - 1 by omega] at mo
      rw [nI_leI (by omega) (by omega), nI_clamp (by omega), r1 t t1 (by omega)]
      refine ⟨fun q => absurd q (by omega), fun _ => ⟨vp_in_nI (by omega) (by omega), fun w2 e2 => ?_⟩⟩
      rw [nI_subI (by omega)] at e2
      subst e2
      rw [nI_add]
      have := ih (t + 1) (by omega) (by omega)
      rw [Nat.add_sub_cancel, show i - sm I0 t = i - sm I0 (t - 1) - cnR I0 t by omega] at this
      exact this
  exact l1 (L - 1) 1 (by omega) (by omega)
theorem m270_l {E : am_Ev} {S : Nat → Nat → Option Nat} {Q : am_Qt} {I I1 : Nat → Nat → Int32} {J : Nat → Nat → Int64} {T i w : Nat} (hT : T ≤ 400) (hi31 : i < 2 ^ 31) (hw : w < 3) (hF : FT I T) (f1 : fr I I1 [99, 129]) (e12 : I1 99 12 = nI T) (t1 : ∀ t, 1 ≤ t → t ≤ T → I1 129 t = tc I t) (hB : ∀ s, 1 ≤ s → s ≤ T → BI I J s) (h1 : ∀ l e, 1 ≤ l → l ≤ T → PR I i l e → Q (.inl (some (.int (if w = 0 then nI e else if w = 1 then nI l else tc I l)))) E I1 J S) (h0 : sm I T ≤ i → Q (.inl (some (.int (nI 0)))) E (u_I I1 99 (upd (I1 99) 3 (nI 1))) J S) : ∀ m l (d5 : Value), am_isL d5 = false → l + m = T + 1 → 1 ≤ l → sm I (l - 1) ≤ i → am_ww 270 20 [.ref 99, .int (nI i), .int (nI w), .int (nI (sm I (l - 1))), .int (nI l), d5] [] E I1 J S Q := by
  have hs := sm_le I T hT
  have f1' : fr I I1 [99, 129, 130] := fr_le f1 (by simp)
  intro m
  induction m with
  | zero =>
    intro l d5 hd5 el l1 hle
    apply g270_20 hd5
    rw [e12, nI_ltI (by omega) (by omega)]
    rw [show l - 1 = T by omega] at hle
    exact ⟨fun _ => h0 hle, fun q => absurd (by omega) q⟩
  | succ m ih =>
    intro l d5 hd5 el l1 hle
    apply g270_20 hd5
    rw [e12, nI_ltI (by omega) (by omega)]
    refine ⟨fun q => absurd q (by omega), fun _ => ?_⟩
    have mo := sm_mono I (T - l) l
    rw [show l + (T - l) = T by omega] at mo
    have eL := sm_s I l1
    have li : ∀ n e, e + n = l → 1 ≤ e → sm I (l - 1) + nc (fun e => rc I e l) (e - 1) 1 ≤ i → am_ww 270 26 [.ref 99, .int (nI i), .int (nI w), .int (nI (sm I (l - 1) + nc (fun e => rc I e l) (e - 1) 1)), .int (nI l), .int (nI e)] [] E I1 J S Q := by
      intro n
      induction n with
      | zero =>
        intro e ee e1 hle'
        apply g270_26
        rw [nI_leI (by omega) (by omega), nI_add]
        refine ⟨fun _ => ?_, fun q => absurd (by omega) q⟩
        have ec : sm I (l - 1) + nc (fun e => rc I e l) (e - 1) 1 = sm I (l + 1 - 1) := by
          rw [Nat.add_sub_cancel, eL, show e - 1 = l - 1 by omega]; rfl
        rw [ec]
        rw [ec] at hle'
        exact ih (l + 1) _ rfl (by omega) (by omega) hle'
      | succ n ihn =>
        intro e ee e1 hle'
        apply g270_26
        have a := nc_add (P := fun e => rc I e l) (e - 1) 1 1
        rw [show e - 1 + 1 = e by omega, show 1 + (e - 1) = e by omega] at a
        have b := nc_le (P := fun e => rc I e l) (e - 1) 1
        rw [nI_leI (by omega) (by omega), show nI e + nI 1 = nI (e + 1) from nI_add e 1]
        refine ⟨fun q => absurd q (by omega), fun _ => ?_⟩
        refine m268 hT hF e1 (by omega) (by omega) f1' t1 (hB l l1 (by omega)) (fun yr => q_mkI ⟨fun q => absurd q (by decide), fun _ => ?_⟩) (fun nr => q_mkI ⟨fun _ => ?_, fun q => absurd nI_0 q⟩)
        · have a' : nc (fun e => rc I e l) 1 e = 1 := by
            rw [show (1 : Nat) = 0 + 1 from rfl, nc_y (P := fun e => rc I e l) yr]; rfl
          rw [nI_eq (by omega) (by omega)]
          refine ⟨fun c => ⟨⟨fun _ => trivial, fun _ => ⟨fun _ => trivial, fun _ => ⟨vp_in_nI (by omega) (by omega), trivial⟩⟩⟩, fun w4 e4 => ?_⟩, fun c => ?_⟩
          · have hh := h1 l e l1 (by omega) ⟨e1, by omega, yr, c⟩
            have ew : w4 = (if w = 0 then nI e else if w = 1 then nI l else tc I l) := by
              rw [e4, nI_clamp (by omega), t1 l l1 (by omega)]
              have : w = 0 ∨ w = 1 ∨ w = 2 := by omega
              rcases this with rfl | rfl | rfl
              · rw [if_pos nI_0, if_pos rfl]
              · rw [if_neg (show ¬ nI 1 = 0 by decide), if_pos (rfl : nI 1 = nI 1), if_neg (show ¬ (1 : Nat) = 0 by decide), if_pos (rfl : (1 : Nat) = 1)]
              · rw [if_neg (show ¬ nI 2 = 0 by decide), if_neg (show ¬ nI 2 = nI 1 by decide), if_neg (show ¬ (2 : Nat) = 0 by decide), if_neg (show ¬ (2 : Nat) = 1 by decide)]
            rw [ew]
            exact hh
          · rw [nI_add]
            have := ihn (e + 1) (by omega) (by omega) (by rw [Nat.add_sub_cancel, a, a']; omega)
            rw [Nat.add_sub_cancel, a, a', ← Nat.add_assoc] at this
            exact this
        · have a' : nc (fun e => rc I e l) 1 e = 0 := by
            rw [show (1 : Nat) = 0 + 1 from rfl, nc_n (P := fun e => rc I e l) nr]; rfl
          have := ihn (e + 1) (by omega) (by omega) (by rw [Nat.add_sub_cancel, a, a']; omega)
          rw [Nat.add_sub_cancel, a, a', Nat.add_zero] at this
          exact this
    have := li (l - 1) 1 (by omega) (by omega) (by show sm I (l - 1) + 0 ≤ i; omega)
    exact this
