/-! image, restore: what is copied -/
/-- the same course within the arrays' ends -/
def cb (I I' : Nat → Nat → Int32) : Prop := (∀ k, 12 ≤ k ∧ k < 18 ∨ 103 ≤ k ∧ k < 110 → I' k = I k) ∧ (∀ f, 9 ≤ f → f < 14 → I' 18 f = I 18 f) ∧ (I' 19 1 = I 19 1 ∧ I' 19 2 = I 19 2 ∧ I' 34 4 = I 34 4 ∧ I' 99 12 = I 99 12 ∧ I' 99 13 = I 99 13 ∧ I' 99 43 = I 99 43) ∧ (∀ k, k = 28 ∨ k = 124 → ∀ j, j < 3 → I' k j = I k j) ∧ (∀ k, k = 27 ∨ k = 123 → ∀ j, j < 90 → I' k j = I k j) ∧ (∀ k, 29 ≤ k ∧ k < 33 ∨ 120 ≤ k ∧ k < 123 → ∀ j, j < 400 → I' k j = I k j) ∧ (∀ k, k = 33 ∨ k = 118 ∨ k = 119 → ∀ j, j < 401 → I' k j = I k j) ∧ (∀ k, 35 ≤ k ∧ k < 39 ∨ k = 126 ∨ k = 127 → ∀ j, j < 40 → I' k j = I k j) ∧ (∀ j, j < 2 → I' 110 j = I 110 j) ∧ (∀ j, j < 20451 → I' 117 j = I 117 j)
theorem rt_b {I I' : Nat → Nat → Int32} {t : Nat} (h : ∀ j, j < 20451 → I' 117 j = I 117 j) (ht : t ≤ 400) : rt I' t = rt I t := by
  funext k
  unfold rt
  by_cases c : k < 51
  · rw [if_pos c, if_pos c, h _ (by omega)]
  · rw [if_neg c, if_neg c]
theorem RW_b {I I' : Nat → Nat → Int32} {T n : Nat} (hp : p_in I) (hpe : p_eq I I') (e117 : ∀ j, j < 20451 → I' 117 j = I 117 j) (e12 : ∀ k, 120 ≤ k ∧ k < 123 → ∀ j, j < 400 → I' k j = I k j) (e123 : ∀ j, j < 90 → I' 123 j = I 123 j) (h : RW I T n) : RW I' T n := by
  obtain ⟨h1, h2, h3, h4, h5, h6⟩ := h
  have er : ∀ t, t ≤ T → rt I' t = rt I t := fun t ht => rt_b e117 (by omega)
  have f0 : ∀ k, k ≠ 123 → u_I I' 123 (I 123) k = I' k := fun k hk => u_I_ne hk
  have f3 : u_I I' 123 (I 123) 123 = I 123 := u_I_eq
  generalize u_I I' 123 (I 123) = I1 at f0 f3
  have er1 : rt I1 = rt I' := rt_e (f0 117 (by omega))
  have hpe1 : p_eq I I1 := fun k a b => by rw [f0 k (by omega)]; exact hpe k a b
  have R1 : RW I1 T n := by
    refine ⟨h1, fun t ht => ?_, ?_, ?_, fun t ht => ?_, fun i hi => ?_⟩
    · rw [er1, er t ht]
      obtain ⟨a, b, c⟩ := h2 t ht
      exact ⟨(r_ok_e hpe1).mpr a, b, c⟩
    · rw [er1, er 0 (by omega), hpe1 103 (by omega) (by omega)]
      intro k hk
      rw [← h3 k hk]
      unfold m_first
      rw [hpe1 104 (by omega) (by omega)]
    · rw [er1, er T (by omega)]; exact h4
    · have el : lm I1 T = lm I T := by funext z; unfold lm; rw [er1, er T (by omega)]
      rw [er1, el, er t (by omega), er (t + 1) (by omega)]
      obtain ⟨ro, ⟨k, k1, k2⟩, _⟩ := h2 t (by omega)
      obtain ⟨ro', ⟨k', k1', k2'⟩, _⟩ := h2 (t + 1) (by omega)
      have mono := RW_mono hp ⟨h1, h2, h3, h4, h5, h6⟩ (T - (t + 1)) (t + 1) (by omega)
      rw [show t + 1 + (T - (t + 1)) = T by omega] at mono
      refine cs_mv hp ro k2 k2' (by omega) (by omega) (by omega) (by omega) h6 hpe1 f3 (fun q _ => ?_) (mono.1 k' n k2' h4 (by omega) (by omega)) (fun a b => absurd b (by omega)) (fun z hz => mono.2 z hz) (h5 t ht)
      rw [f0 120 (by omega), f0 121 (by omega), f0 122 (by omega)]
      exact ⟨e12 120 (by omega) k (by omega), e12 121 (by omega) k (by omega), e12 122 (by omega) k (by omega)⟩
    · rw [f0 122 (by omega), e12 122 (by omega) i (by omega), hpe1 103 (by omega) (by omega)]
      exact h6 i hi
  refine RW_g (I := I1) ((p_in_e hpe1).mpr hp) (fun k a b => (f0 k (by omega)).symm) (f0 117 (by omega)).symm (f0 120 (by omega)).symm (f0 121 (by omega)).symm (f0 122 (by omega)).symm (fun z hz y hy => ?_) R1
  have el : lm I1 T z = lm I T z := by unfold lm; rw [er1, er T (by omega)]
  rw [el] at hy
  have b := vb ((h2 T (Nat.le_refl _)).1.2.2.2 z hz)
  have hy' : y < (rt I T (48 + z)).toNatClampNeg := hy
  rw [f3, e123 _ (by omega)]
theorem aw_b {I I' : Nat → Nat → Int32} (h : ∀ k, 35 ≤ k ∧ k < 39 ∨ k = 126 ∨ k = 127 → ∀ j, j < 40 → I' k j = I k j) (h7 : ∀ j, j < 20451 → I' 117 j = I 117 j) : ∀ j T g, j ≤ 40 → T ≤ 400 → aw I j T g → aw I' j T g := by
  intro j
  induction j with
  | zero => intro T g _ _ _; trivial
  | succ j ih =>
    intro T g hj hT hw
    obtain ⟨w1, w2⟩ := hw
    unfold aw
    rw [h 35 (by omega) j (by omega), h 36 (by omega) j (by omega), h 37 (by omega) j (by omega), h 38 (by omega) j (by omega), h 126 (by omega) j (by omega), h 127 (by omega) j (by omega)]
    refine ⟨w1, ?_⟩
    rcases w2 with ⟨a, t, b, c, d, e, f⟩ | ⟨s, a, b, c, d, e, f⟩
    · exact Or.inl ⟨a, t, b, c, by rw [rt_b h7 (by omega)]; exact d, by rw [rt_b h7 (by omega)]; exact e, ih _ _ (by omega) (by omega) f⟩
    · exact Or.inr ⟨s, a, b, c, d, by rw [rt_b h7 (by omega)]; exact e, ih _ _ (by omega) (by omega) f⟩
theorem aw_g {I : Nat → Nat → Int32} : ∀ j T (g g' : Nat → Nat), (∀ z, z < 3 → g z = g' z) → aw I j T g → aw I j T g' := by
  intro j
  induction j with
  | zero => intro T g g' _ _; trivial
  | succ j ih =>
    intro T g g' hg hw
    obtain ⟨w1, w2⟩ := hw
    refine ⟨w1, ?_⟩
    rcases w2 with ⟨a, t, b, c, d, e, f⟩ | ⟨s, a, b, c, d, e, f⟩
    · exact Or.inl ⟨a, t, b, c, d, e, ih _ _ _ hg f⟩
    · refine Or.inr ⟨s, a, b, c, by rw [← hg s a]; exact d, by rw [← hg s a]; exact e, ih _ _ _ (fun z hz => ?_) f⟩
      show (if z = s then g z - 1 else g z) = (if z = s then g' z - 1 else g' z)
      rw [hg z hz]
theorem CR_b {I I' : Nat → Nat → Int32} {T cu ac n : Nat} (h : cb I I') (hcr : CR I T cu ac n) (hm : rm I' 20 (rt I T)) : CR I' T cu ac n := by
  obtain ⟨b1, b2, b3, b4, b5, b6, b7, b8, b9, b10⟩ := h
  obtain ⟨h1, h2, h3, h4, h5, h6, h7, h8, h9, h10, h11, h12, h13, h14⟩ := hcr
  have hpe : p_eq I I' := fun j a b => b1 j (by omega)
  have hq : p_q I I' := ⟨fun j a b => b1 j (by omega), hpe⟩
  have hT := h4.1
  have er : ∀ t, t ≤ T → rt I' t = rt I t := fun t ht => rt_b b10 (by omega)
  refine ⟨(p_in_e hpe).mpr h1, (p_cl_e hq).mpr h2, ?_, RW_b h1 hpe b10 (fun k hk => b6 k (by omega)) (b5 123 (by omega)) h4, ?_, ?_, ?_, ?_, ?_, ?_, ?_, ?_, ?_, ?_⟩
  · unfold st_ok
    rw [b1 103 (by omega)]
    exact h3
  · refine ⟨by rw [b2 9 (by omega) (by omega)]; exact h5.1, fun i hi => ?_⟩
    rw [b6 29 (by omega) i (by omega), b6 30 (by omega) i (by omega), b6 31 (by omega) i (by omega), b6 120 (by omega) i (by omega), b6 121 (by omega) i (by omega), b6 122 (by omega) i (by omega)]
    exact h5.2 i hi
  · intro s hs
    obtain ⟨a, b, c⟩ := h6 s hs
    have b' := vb b
    rw [b4 28 (by omega) s hs, b4 124 (by omega) s hs]
    refine ⟨a, b, fun i hi => ?_⟩
    rw [b5 27 (by omega) _ (by omega), b5 123 (by omega) _ (by omega)]
    exact c i hi
  · intro s hs
    rw [er T (by omega), b4 124 (by omega) s hs]
    exact h7 s hs
  · rw [b3.2.2.2.1, b2 10 (by omega) (by omega)]; exact h8
  · rw [b3.2.2.2.2.1, b2 11 (by omega) (by omega)]; exact h9
  · rw [er T (by omega), b3.1, b3.2.1]
    exact ⟨hm, h10.2⟩
  · intro t a b
    obtain ⟨C, p, q⟩ := h11 t a b
    refine ⟨C, p, ?_⟩
    rw [er t b, er (t - 1) (by omega), b1 103 (by omega), b1 105 (by omega), b7 119 (by omega) t (by omega), b7 118 (by omega) t (by omega), b7 33 (by omega) t (by omega)]
    exact q
  · intro i hi
    rw [b1 103 (by omega)] at hi ⊢
    have e1 : (I 103 2).toNatClampNeg * (T / (I 103 2).toNatClampNeg) ≤ T := Nat.mul_div_le _ _
    have e2 : (I 103 2).toNatClampNeg * (i + 1) ≤ (I 103 2).toNatClampNeg * (T / (I 103 2).toNatClampNeg) := Nat.mul_le_mul_left _ hi
    have e3 : T / (I 103 2).toNatClampNeg ≤ T := Nat.div_le_self _ _
    rw [b6 32 (by omega) i (by omega), er _ (by omega)]
    exact h12 i hi
  · obtain ⟨a, b, c, d⟩ := h13
    refine ⟨by rw [b3.2.2.2.2.2]; exact a, by rw [b3.2.2.1]; exact b, c, ?_⟩
    refine aw_g _ _ _ _ (fun z hz => ?_) (aw_b b8 b10 _ _ _ c hT.1 d)
    rw [b4 124 (by omega) z hz]
  · rw [b9 0 (by omega), b9 1 (by omega), b2 12 (by omega) (by omega), b2 13 (by omega) (by omega)]
    exact h14
theorem sw_c {I : Nat → Nat → Int32} {k : Nat} (h : 18 ≤ k ∧ k < 39) : sw I k = I (k + 21) := if_pos h
theorem sw_r {I : Nat → Nat → Int32} {k : Nat} (h : 117 ≤ k ∧ k < 125) : sw I k = I (k + 17) := by
  unfold sw
  rw [if_neg (by omega), if_neg (by omega), if_pos h]
theorem sw_p {I : Nat → Nat → Int32} {k : Nat} (h : k < 18 ∨ 103 ≤ k ∧ k < 110) : sw I k = I k := by
  unfold sw
  rw [if_neg (by omega), if_neg (by omega), if_neg (by omega), if_neg (by omega), if_neg (by omega), if_neg (by omega)]
theorem sw_126 {I : Nat → Nat → Int32} : sw I 126 = I 142 := by
  unfold sw
  rw [if_neg (by omega), if_neg (by omega), if_neg (by omega), if_pos rfl]
theorem sw_127 {I : Nat → Nat → Int32} : sw I 127 = I 143 := by
  unfold sw
  rw [if_neg (by omega), if_neg (by omega), if_neg (by omega), if_neg (by omega), if_pos rfl]
theorem sw_110 {I : Nat → Nat → Int32} : sw I 110 = I 144 := by
  unfold sw
  rw [if_neg (by omega), if_neg (by omega), if_neg (by omega), if_neg (by omega), if_neg (by omega), if_pos rfl]
theorem sw_99 {I : Nat → Nat → Int32} : sw I 99 = upd (upd (upd (I 99) 12 (I 99 59)) 13 (I 99 60)) 43 (I 99 61) := by
  unfold sw
  rw [if_neg (by omega), if_pos rfl]
def mx (f g : Nat → Int32) (i j : Nat) : Int32 := if j < i then g j else f j
theorem mx_0 {f g : Nat → Int32} : mx f g 0 = f := by
  funext j
  unfold mx
  rw [if_neg (by omega)]
theorem mx_s {f g : Nat → Int32} {i : Nat} : upd (mx f g i) i (g i) = mx f g (i + 1) := by
  funext j
  unfold upd mx
  by_cases h : j = i
  · subst h
    rw [if_pos rfl, if_pos (by omega)]
  · rw [if_neg h]
    by_cases h2 : j < i
    · rw [if_pos h2, if_pos (by omega)]
    · rw [if_neg h2, if_neg (by omega)]
theorem m289_134 {E : am_Ev} {I : Nat → Nat → Int32} {J : Nat → Nat → Int64} {S : Nat → Nat → Option Nat} {Q : am_Qt} (h : ∀ I', (∀ j, j < 20451 → I' 134 j = I 117 j) → fr I I' [134] → Q (.inl none) E I' J S) : am_cl 289 [.ref 134, .ref 117] E I J S Q := by
  show am_ww 289 0 [.ref 134, .ref 117, am_U] [] E I J S Q
  have l : ∀ m i, i + m = 20451 → am_ww 289 2 [.ref 134, .ref 117, .int (nI i)] [] E (u_I I 134 (mx (I 134) (I 117) i)) J S Q := by
    intro m
    induction m with
    | zero =>
      intro i e
      apply g289_2_134
      refine ⟨fun _ => h _ (fun j hj => ?_) fr_u, fun q => absurd ?_ q⟩
      · rw [u_I_eq]
        exact if_pos (by omega)
      · rw [nI_leI (by omega) (by omega)]; omega
    | succ m ih =>
      intro i e
      apply g289_2_134
      have := ih (i + 1) (by omega)
      rw [← mx_s] at this
      rw [u_I_eq, u_I_ne (show 117 ≠ 134 by decide), nI_clamp (by omega), uI_0, nI_add]
      exact ⟨fun q => absurd q (by rw [nI_leI (by omega) (by omega)]; omega), fun _ => ⟨vp_in_nI (by omega) (by omega), this⟩⟩
  apply g289_0_134
  have := l 20451 0 (by omega)
  rw [mx_0, u_I_id] at this
  exact this
theorem m289_135 {E : am_Ev} {I : Nat → Nat → Int32} {J : Nat → Nat → Int64} {S : Nat → Nat → Option Nat} {Q : am_Qt} (h : ∀ I', (∀ j, j < 401 → I' 135 j = I 118 j) → fr I I' [135] → Q (.inl none) E I' J S) : am_cl 289 [.ref 135, .ref 118] E I J S Q := by
  show am_ww 289 0 [.ref 135, .ref 118, am_U] [] E I J S Q
  have l : ∀ m i, i + m = 401 → am_ww 289 2 [.ref 135, .ref 118, .int (nI i)] [] E (u_I I 135 (mx (I 135) (I 118) i)) J S Q := by
    intro m
    induction m with
    | zero =>
      intro i e
      apply g289_2_135
      refine ⟨fun _ => h _ (fun j hj => ?_) fr_u, fun q => absurd ?_ q⟩
      · rw [u_I_eq]
        exact if_pos (by omega)
      · rw [nI_leI (by omega) (by omega)]; omega
    | succ m ih =>
      intro i e
      apply g289_2_135
      have := ih (i + 1) (by omega)
      rw [← mx_s] at this
      rw [u_I_eq, u_I_ne (show 118 ≠ 135 by decide), nI_clamp (by omega), uI_0, nI_add]
      exact ⟨fun q => absurd q (by rw [nI_leI (by omega) (by omega)]; omega), fun _ => ⟨vp_in_nI (by omega) (by omega), this⟩⟩
  apply g289_0_135
  have := l 401 0 (by omega)
  rw [mx_0, u_I_id] at this
  exact this
theorem m289_136 {E : am_Ev} {I : Nat → Nat → Int32} {J : Nat → Nat → Int64} {S : Nat → Nat → Option Nat} {Q : am_Qt} (h : ∀ I', (∀ j, j < 401 → I' 136 j = I 119 j) → fr I I' [136] → Q (.inl none) E I' J S) : am_cl 289 [.ref 136, .ref 119] E I J S Q := by
  show am_ww 289 0 [.ref 136, .ref 119, am_U] [] E I J S Q
  have l : ∀ m i, i + m = 401 → am_ww 289 2 [.ref 136, .ref 119, .int (nI i)] [] E (u_I I 136 (mx (I 136) (I 119) i)) J S Q := by
    intro m
    induction m with
    | zero =>
      intro i e
      apply g289_2_136
      refine ⟨fun _ => h _ (fun j hj => ?_) fr_u, fun q => absurd ?_ q⟩
      · rw [u_I_eq]
        exact if_pos (by omega)
      · rw [nI_leI (by omega) (by omega)]; omega
    | succ m ih =>
      intro i e
      apply g289_2_136
      have := ih (i + 1) (by omega)
      rw [← mx_s] at this
      rw [u_I_eq, u_I_ne (show 119 ≠ 136 by decide), nI_clamp (by omega), uI_0, nI_add]
      exact ⟨fun q => absurd q (by rw [nI_leI (by omega) (by omega)]; omega), fun _ => ⟨vp_in_nI (by omega) (by omega), this⟩⟩
  apply g289_0_136
  have := l 401 0 (by omega)
  rw [mx_0, u_I_id] at this
  exact this
theorem m289_137 {E : am_Ev} {I : Nat → Nat → Int32} {J : Nat → Nat → Int64} {S : Nat → Nat → Option Nat} {Q : am_Qt} (h : ∀ I', (∀ j, j < 400 → I' 137 j = I 120 j) → fr I I' [137] → Q (.inl none) E I' J S) : am_cl 289 [.ref 137, .ref 120] E I J S Q := by
  show am_ww 289 0 [.ref 137, .ref 120, am_U] [] E I J S Q
  have l : ∀ m i, i + m = 400 → am_ww 289 2 [.ref 137, .ref 120, .int (nI i)] [] E (u_I I 137 (mx (I 137) (I 120) i)) J S Q := by
    intro m
    induction m with
    | zero =>
      intro i e
      apply g289_2_137
      refine ⟨fun _ => h _ (fun j hj => ?_) fr_u, fun q => absurd ?_ q⟩
      · rw [u_I_eq]
        exact if_pos (by omega)
      · rw [nI_leI (by omega) (by omega)]; omega
    | succ m ih =>
      intro i e
      apply g289_2_137
      have := ih (i + 1) (by omega)
      rw [← mx_s] at this
      rw [u_I_eq, u_I_ne (show 120 ≠ 137 by decide), nI_clamp (by omega), uI_0, nI_add]
      exact ⟨fun q => absurd q (by rw [nI_leI (by omega) (by omega)]; omega), fun _ => ⟨vp_in_nI (by omega) (by omega), this⟩⟩
  apply g289_0_137
  have := l 400 0 (by omega)
  rw [mx_0, u_I_id] at this
  exact this
theorem m289_138 {E : am_Ev} {I : Nat → Nat → Int32} {J : Nat → Nat → Int64} {S : Nat → Nat → Option Nat} {Q : am_Qt} (h : ∀ I', (∀ j, j < 400 → I' 138 j = I 121 j) → fr I I' [138] → Q (.inl none) E I' J S) : am_cl 289 [.ref 138, .ref 121] E I J S Q := by
  show am_ww 289 0 [.ref 138, .ref 121, am_U] [] E I J S Q
  have l : ∀ m i, i + m = 400 → am_ww 289 2 [.ref 138, .ref 121, .int (nI i)] [] E (u_I I 138 (mx (I 138) (I 121) i)) J S Q := by
    intro m
    induction m with
    | zero =>
      intro i e
      apply g289_2_138
      refine ⟨fun _ => h _ (fun j hj => ?_) fr_u, fun q => absurd ?_ q⟩
      · rw [u_I_eq]
        exact if_pos (by omega)
      · rw [nI_leI (by omega) (by omega)]; omega
    | succ m ih =>
      intro i e
      apply g289_2_138
      have := ih (i + 1) (by omega)
      rw [← mx_s] at this
      rw [u_I_eq, u_I_ne (show 121 ≠ 138 by decide), nI_clamp (by omega), uI_0, nI_add]
      exact ⟨fun q => absurd q (by rw [nI_leI (by omega) (by omega)]; omega), fun _ => ⟨vp_in_nI (by omega) (by omega), this⟩⟩
  apply g289_0_138
  have := l 400 0 (by omega)
  rw [mx_0, u_I_id] at this
  exact this
theorem m289_139 {E : am_Ev} {I : Nat → Nat → Int32} {J : Nat → Nat → Int64} {S : Nat → Nat → Option Nat} {Q : am_Qt} (h : ∀ I', (∀ j, j < 400 → I' 139 j = I 122 j) → fr I I' [139] → Q (.inl none) E I' J S) : am_cl 289 [.ref 139, .ref 122] E I J S Q := by
  show am_ww 289 0 [.ref 139, .ref 122, am_U] [] E I J S Q
  have l : ∀ m i, i + m = 400 → am_ww 289 2 [.ref 139, .ref 122, .int (nI i)] [] E (u_I I 139 (mx (I 139) (I 122) i)) J S Q := by
    intro m
    induction m with
    | zero =>
      intro i e
      apply g289_2_139
      refine ⟨fun _ => h _ (fun j hj => ?_) fr_u, fun q => absurd ?_ q⟩
      · rw [u_I_eq]
        exact if_pos (by omega)
      · rw [nI_leI (by omega) (by omega)]; omega
    | succ m ih =>
      intro i e
      apply g289_2_139
      have := ih (i + 1) (by omega)
      rw [← mx_s] at this
      rw [u_I_eq, u_I_ne (show 122 ≠ 139 by decide), nI_clamp (by omega), uI_0, nI_add]
      exact ⟨fun q => absurd q (by rw [nI_leI (by omega) (by omega)]; omega), fun _ => ⟨vp_in_nI (by omega) (by omega), this⟩⟩
  apply g289_0_139
  have := l 400 0 (by omega)
  rw [mx_0, u_I_id] at this
  exact this
theorem m289_140 {E : am_Ev} {I : Nat → Nat → Int32} {J : Nat → Nat → Int64} {S : Nat → Nat → Option Nat} {Q : am_Qt} (h : ∀ I', (∀ j, j < 90 → I' 140 j = I 123 j) → fr I I' [140] → Q (.inl none) E I' J S) : am_cl 289 [.ref 140, .ref 123] E I J S Q := by
  show am_ww 289 0 [.ref 140, .ref 123, am_U] [] E I J S Q
  have l : ∀ m i, i + m = 90 → am_ww 289 2 [.ref 140, .ref 123, .int (nI i)] [] E (u_I I 140 (mx (I 140) (I 123) i)) J S Q := by
    intro m
    induction m with
    | zero =>
      intro i e
      apply g289_2_140
      refine ⟨fun _ => h _ (fun j hj => ?_) fr_u, fun q => absurd ?_ q⟩
      · rw [u_I_eq]
        exact if_pos (by omega)
      · rw [nI_leI (by omega) (by omega)]; omega
    | succ m ih =>
      intro i e
      apply g289_2_140
      have := ih (i + 1) (by omega)
      rw [← mx_s] at this
      rw [u_I_eq, u_I_ne (show 123 ≠ 140 by decide), nI_clamp (by omega), uI_0, nI_add]
      exact ⟨fun q => absurd q (by rw [nI_leI (by omega) (by omega)]; omega), fun _ => ⟨vp_in_nI (by omega) (by omega), this⟩⟩
  apply g289_0_140
  have := l 90 0 (by omega)
  rw [mx_0, u_I_id] at this
  exact this
theorem m289_141 {E : am_Ev} {I : Nat → Nat → Int32} {J : Nat → Nat → Int64} {S : Nat → Nat → Option Nat} {Q : am_Qt} (h : ∀ I', (∀ j, j < 3 → I' 141 j = I 124 j) → fr I I' [141] → Q (.inl none) E I' J S) : am_cl 289 [.ref 141, .ref 124] E I J S Q := by
  show am_ww 289 0 [.ref 141, .ref 124, am_U] [] E I J S Q
  have l : ∀ m i, i + m = 3 → am_ww 289 2 [.ref 141, .ref 124, .int (nI i)] [] E (u_I I 141 (mx (I 141) (I 124) i)) J S Q := by
    intro m
    induction m with
    | zero =>
      intro i e
      apply g289_2_141
      refine ⟨fun _ => h _ (fun j hj => ?_) fr_u, fun q => absurd ?_ q⟩
      · rw [u_I_eq]
        exact if_pos (by omega)
      · rw [nI_leI (by omega) (by omega)]; omega
    | succ m ih =>
      intro i e
      apply g289_2_141
      have := ih (i + 1) (by omega)
      rw [← mx_s] at this
      rw [u_I_eq, u_I_ne (show 124 ≠ 141 by decide), nI_clamp (by omega), uI_0, nI_add]
      exact ⟨fun q => absurd q (by rw [nI_leI (by omega) (by omega)]; omega), fun _ => ⟨vp_in_nI (by omega) (by omega), this⟩⟩
  apply g289_0_141
  have := l 3 0 (by omega)
  rw [mx_0, u_I_id] at this
  exact this
theorem m289_142 {E : am_Ev} {I : Nat → Nat → Int32} {J : Nat → Nat → Int64} {S : Nat → Nat → Option Nat} {Q : am_Qt} (h : ∀ I', (∀ j, j < 40 → I' 142 j = I 126 j) → fr I I' [142] → Q (.inl none) E I' J S) : am_cl 289 [.ref 142, .ref 126] E I J S Q := by
  show am_ww 289 0 [.ref 142, .ref 126, am_U] [] E I J S Q
  have l : ∀ m i, i + m = 40 → am_ww 289 2 [.ref 142, .ref 126, .int (nI i)] [] E (u_I I 142 (mx (I 142) (I 126) i)) J S Q := by
    intro m
    induction m with
    | zero =>
      intro i e
      apply g289_2_142
      refine ⟨fun _ => h _ (fun j hj => ?_) fr_u, fun q => absurd ?_ q⟩
      · rw [u_I_eq]
        exact if_pos (by omega)
      · rw [nI_leI (by omega) (by omega)]; omega
    | succ m ih =>
      intro i e
      apply g289_2_142
      have := ih (i + 1) (by omega)
      rw [← mx_s] at this
      rw [u_I_eq, u_I_ne (show 126 ≠ 142 by decide), nI_clamp (by omega), uI_0, nI_add]
      exact ⟨fun q => absurd q (by rw [nI_leI (by omega) (by omega)]; omega), fun _ => ⟨vp_in_nI (by omega) (by omega), this⟩⟩
  apply g289_0_142
  have := l 40 0 (by omega)
  rw [mx_0, u_I_id] at this
  exact this
theorem m289_143 {E : am_Ev} {I : Nat → Nat → Int32} {J : Nat → Nat → Int64} {S : Nat → Nat → Option Nat} {Q : am_Qt} (h : ∀ I', (∀ j, j < 40 → I' 143 j = I 127 j) → fr I I' [143] → Q (.inl none) E I' J S) : am_cl 289 [.ref 143, .ref 127] E I J S Q := by
  show am_ww 289 0 [.ref 143, .ref 127, am_U] [] E I J S Q
  have l : ∀ m i, i + m = 40 → am_ww 289 2 [.ref 143, .ref 127, .int (nI i)] [] E (u_I I 143 (mx (I 143) (I 127) i)) J S Q := by
    intro m
    induction m with
    | zero =>
      intro i e
      apply g289_2_143
      refine ⟨fun _ => h _ (fun j hj => ?_) fr_u, fun q => absurd ?_ q⟩
      · rw [u_I_eq]
        exact if_pos (by omega)
      · rw [nI_leI (by omega) (by omega)]; omega
    | succ m ih =>
      intro i e
      apply g289_2_143
      have := ih (i + 1) (by omega)
      rw [← mx_s] at this
      rw [u_I_eq, u_I_ne (show 127 ≠ 143 by decide), nI_clamp (by omega), uI_0, nI_add]
      exact ⟨fun q => absurd q (by rw [nI_leI (by omega) (by omega)]; omega), fun _ => ⟨vp_in_nI (by omega) (by omega), this⟩⟩
  apply g289_0_143
  have := l 40 0 (by omega)
  rw [mx_0, u_I_id] at this
  exact this
theorem m289_144 {E : am_Ev} {I : Nat → Nat → Int32} {J : Nat → Nat → Int64} {S : Nat → Nat → Option Nat} {Q : am_Qt} (h : ∀ I', (∀ j, j < 2 → I' 144 j = I 110 j) → fr I I' [144] → Q (.inl none) E I' J S) : am_cl 289 [.ref 144, .ref 110] E I J S Q := by
  show am_ww 289 0 [.ref 144, .ref 110, am_U] [] E I J S Q
  have l : ∀ m i, i + m = 2 → am_ww 289 2 [.ref 144, .ref 110, .int (nI i)] [] E (u_I I 144 (mx (I 144) (I 110) i)) J S Q := by
    intro m
    induction m with
    | zero =>
      intro i e
      apply g289_2_144
      refine ⟨fun _ => h _ (fun j hj => ?_) fr_u, fun q => absurd ?_ q⟩
      · rw [u_I_eq]
        exact if_pos (by omega)
      · rw [nI_leI (by omega) (by omega)]; omega
    | succ m ih =>
      intro i e
      apply g289_2_144
      have := ih (i + 1) (by omega)
      rw [← mx_s] at this
      rw [u_I_eq, u_I_ne (show 110 ≠ 144 by decide), nI_clamp (by omega), uI_0, nI_add]
      exact ⟨fun q => absurd q (by rw [nI_leI (by omega) (by omega)]; omega), fun _ => ⟨vp_in_nI (by omega) (by omega), this⟩⟩
  apply g289_0_144
  have := l 2 0 (by omega)
  rw [mx_0, u_I_id] at this
  exact this
theorem m289_117 {E : am_Ev} {I : Nat → Nat → Int32} {J : Nat → Nat → Int64} {S : Nat → Nat → Option Nat} {Q : am_Qt} (h : ∀ I', (∀ j, j < 20451 → I' 117 j = I 134 j) → fr I I' [117] → Q (.inl none) E I' J S) : am_cl 289 [.ref 117, .ref 134] E I J S Q := by
  show am_ww 289 0 [.ref 117, .ref 134, am_U] [] E I J S Q
  have l : ∀ m i, i + m = 20451 → am_ww 289 2 [.ref 117, .ref 134, .int (nI i)] [] E (u_I I 117 (mx (I 117) (I 134) i)) J S Q := by
    intro m
    induction m with
    | zero =>
      intro i e
      apply g289_2_117
      refine ⟨fun _ => h _ (fun j hj => ?_) fr_u, fun q => absurd ?_ q⟩
      · rw [u_I_eq]
        exact if_pos (by omega)
      · rw [nI_leI (by omega) (by omega)]; omega
    | succ m ih =>
      intro i e
      apply g289_2_117
      have := ih (i + 1) (by omega)
      rw [← mx_s] at this
      rw [u_I_eq, u_I_ne (show 134 ≠ 117 by decide), nI_clamp (by omega), uI_0, nI_add]
      exact ⟨fun q => absurd q (by rw [nI_leI (by omega) (by omega)]; omega), fun _ => ⟨vp_in_nI (by omega) (by omega), this⟩⟩
  apply g289_0_117
  have := l 20451 0 (by omega)
  rw [mx_0, u_I_id] at this
  exact this
theorem m289_118 {E : am_Ev} {I : Nat → Nat → Int32} {J : Nat → Nat → Int64} {S : Nat → Nat → Option Nat} {Q : am_Qt} (h : ∀ I', (∀ j, j < 401 → I' 118 j = I 135 j) → fr I I' [118] → Q (.inl none) E I' J S) : am_cl 289 [.ref 118, .ref 135] E I J S Q := by
  show am_ww 289 0 [.ref 118, .ref 135, am_U] [] E I J S Q
  have l : ∀ m i, i + m = 401 → am_ww 289 2 [.ref 118, .ref 135, .int (nI i)] [] E (u_I I 118 (mx (I 118) (I 135) i)) J S Q := by
    intro m
    induction m with
    | zero =>
      intro i e
      apply g289_2_118
      refine ⟨fun _ => h _ (fun j hj => ?_) fr_u, fun q => absurd ?_ q⟩
      · rw [u_I_eq]
        exact if_pos (by omega)
      · rw [nI_leI (by omega) (by omega)]; omega
    | succ m ih =>
      intro i e
      apply g289_2_118
      have := ih (i + 1) (by omega)
      rw [← mx_s] at this
      rw [u_I_eq, u_I_ne (show 135 ≠ 118 by decide), nI_clamp (by omega), uI_0, nI_add]
      exact ⟨fun q => absurd q (by rw [nI_leI (by omega) (by omega)]; omega), fun _ => ⟨vp_in_nI (by omega) (by omega), this⟩⟩
  apply g289_0_118
  have := l 401 0 (by omega)
  rw [mx_0, u_I_id] at this
  exact this
theorem m289_119 {E : am_Ev} {I : Nat → Nat → Int32} {J : Nat → Nat → Int64} {S : Nat → Nat → Option Nat} {Q : am_Qt} (h : ∀ I', (∀ j, j < 401 → I' 119 j = I 136 j) → fr I I' [119] → Q (.inl none) E I' J S) : am_cl 289 [.ref 119, .ref 136] E I J S Q := by
  show am_ww 289 0 [.ref 119, .ref 136, am_U] [] E I J S Q
  have l : ∀ m i, i + m = 401 → am_ww 289 2 [.ref 119, .ref 136, .int (nI i)] [] E (u_I I 119 (mx (I 119) (I 136) i)) J S Q := by
    intro m
    induction m with
    | zero =>
      intro i e
      apply g289_2_119
      refine ⟨fun _ => h _ (fun j hj => ?_) fr_u, fun q => absurd ?_ q⟩
      · rw [u_I_eq]
        exact if_pos (by omega)
      · rw [nI_leI (by omega) (by omega)]; omega
    | succ m ih =>
      intro i e
      apply g289_2_119
      have := ih (i + 1) (by omega)
      rw [← mx_s] at this
      rw [u_I_eq, u_I_ne (show 136 ≠ 119 by decide), nI_clamp (by omega), uI_0, nI_add]
      exact ⟨fun q => absurd q (by rw [nI_leI (by omega) (by omega)]; omega), fun _ => ⟨vp_in_nI (by omega) (by omega), this⟩⟩
  apply g289_0_119
  have := l 401 0 (by omega)
  rw [mx_0, u_I_id] at this
  exact this
theorem m289_120 {E : am_Ev} {I : Nat → Nat → Int32} {J : Nat → Nat → Int64} {S : Nat → Nat → Option Nat} {Q : am_Qt} (h : ∀ I', (∀ j, j < 400 → I' 120 j = I 137 j) → fr I I' [120] → Q (.inl none) E I' J S) : am_cl 289 [.ref 120, .ref 137] E I J S Q := by
  show am_ww 289 0 [.ref 120, .ref 137, am_U] [] E I J S Q
  have l : ∀ m i, i + m = 400 → am_ww 289 2 [.ref 120, .ref 137, .int (nI i)] [] E (u_I I 120 (mx (I 120) (I 137) i)) J S Q := by
    intro m
    induction m with
    | zero =>
      intro i e
      apply g289_2_120
      refine ⟨fun _ => h _ (fun j hj => ?_) fr_u, fun q => absurd ?_ q⟩
      · rw [u_I_eq]
        exact if_pos (by omega)
      · rw [nI_leI (by omega) (by omega)]; omega
    | succ m ih =>
      intro i e
      apply g289_2_120
      have := ih (i + 1) (by omega)
      rw [← mx_s] at this
      rw [u_I_eq, u_I_ne (show 137 ≠ 120 by decide), nI_clamp (by omega), uI_0, nI_add]
      exact ⟨fun q => absurd q (by rw [nI_leI (by omega) (by omega)]; omega), fun _ => ⟨vp_in_nI (by omega) (by omega), this⟩⟩
  apply g289_0_120
  have := l 400 0 (by omega)
  rw [mx_0, u_I_id] at this
  exact this
theorem m289_121 {E : am_Ev} {I : Nat → Nat → Int32} {J : Nat → Nat → Int64} {S : Nat → Nat → Option Nat} {Q : am_Qt} (h : ∀ I', (∀ j, j < 400 → I' 121 j = I 138 j) → fr I I' [121] → Q (.inl none) E I' J S) : am_cl 289 [.ref 121, .ref 138] E I J S Q := by
  show am_ww 289 0 [.ref 121, .ref 138, am_U] [] E I J S Q
  have l : ∀ m i, i + m = 400 → am_ww 289 2 [.ref 121, .ref 138, .int (nI i)] [] E (u_I I 121 (mx (I 121) (I 138) i)) J S Q := by
    intro m
    induction m with
    | zero =>
      intro i e
      apply g289_2_121
      refine ⟨fun _ => h _ (fun j hj => ?_) fr_u, fun q => absurd ?_ q⟩
      · rw [u_I_eq]
        exact if_pos (by omega)
      · rw [nI_leI (by omega) (by omega)]; omega
    | succ m ih =>
      intro i e
      apply g289_2_121
      have := ih (i + 1) (by omega)
      rw [← mx_s] at this
      rw [u_I_eq, u_I_ne (show 138 ≠ 121 by decide), nI_clamp (by omega), uI_0, nI_add]
      exact ⟨fun q => absurd q (by rw [nI_leI (by omega) (by omega)]; omega), fun _ => ⟨vp_in_nI (by omega) (by omega), this⟩⟩
  apply g289_0_121
  have := l 400 0 (by omega)
  rw [mx_0, u_I_id] at this
  exact this
theorem m289_122 {E : am_Ev} {I : Nat → Nat → Int32} {J : Nat → Nat → Int64} {S : Nat → Nat → Option Nat} {Q : am_Qt} (h : ∀ I', (∀ j, j < 400 → I' 122 j = I 139 j) → fr I I' [122] → Q (.inl none) E I' J S) : am_cl 289 [.ref 122, .ref 139] E I J S Q := by
  show am_ww 289 0 [.ref 122, .ref 139, am_U] [] E I J S Q
  have l : ∀ m i, i + m = 400 → am_ww 289 2 [.ref 122, .ref 139, .int (nI i)] [] E (u_I I 122 (mx (I 122) (I 139) i)) J S Q := by
    intro m
    induction m with
    | zero =>
      intro i e
      apply g289_2_122
      refine ⟨fun _ => h _ (fun j hj => ?_) fr_u, fun q => absurd ?_ q⟩
      · rw [u_I_eq]
        exact if_pos (by omega)
      · rw [nI_leI (by omega) (by omega)]; omega
    | succ m ih =>
      intro i e
      apply g289_2_122
      have := ih (i + 1) (by omega)
      rw [← mx_s] at this
      rw [u_I_eq, u_I_ne (show 139 ≠ 122 by decide), nI_clamp (by omega), uI_0, nI_add]
      exact ⟨fun q => absurd q (by rw [nI_leI (by omega) (by omega)]; omega), fun _ => ⟨vp_in_nI (by omega) (by omega), this⟩⟩
  apply g289_0_122
  have := l 400 0 (by omega)
  rw [mx_0, u_I_id] at this
  exact this
theorem m289_123 {E : am_Ev} {I : Nat → Nat → Int32} {J : Nat → Nat → Int64} {S : Nat → Nat → Option Nat} {Q : am_Qt} (h : ∀ I', (∀ j, j < 90 → I' 123 j = I 140 j) → fr I I' [123] → Q (.inl none) E I' J S) : am_cl 289 [.ref 123, .ref 140] E I J S Q := by
  show am_ww 289 0 [.ref 123, .ref 140, am_U] [] E I J S Q
  have l : ∀ m i, i + m = 90 → am_ww 289 2 [.ref 123, .ref 140, .int (nI i)] [] E (u_I I 123 (mx (I 123) (I 140) i)) J S Q := by
    intro m
    induction m with
    | zero =>
      intro i e
      apply g289_2_123
      refine ⟨fun _ => h _ (fun j hj => ?_) fr_u, fun q => absurd ?_ q⟩
      · rw [u_I_eq]
        exact if_pos (by omega)
      · rw [nI_leI (by omega) (by omega)]; omega
    | succ m ih =>
      intro i e
      apply g289_2_123
      have := ih (i + 1) (by omega)
      rw [← mx_s] at this
      rw [u_I_eq, u_I_ne (show 140 ≠ 123 by decide), nI_clamp (by omega), uI_0, nI_add]
      exact ⟨fun q => absurd q (by rw [nI_leI (by omega) (by omega)]; omega), fun _ => ⟨vp_in_nI (by omega) (by omega), this⟩⟩
  apply g289_0_123
  have := l 90 0 (by omega)
  rw [mx_0, u_I_id] at this
  exact this
theorem m289_124 {E : am_Ev} {I : Nat → Nat → Int32} {J : Nat → Nat → Int64} {S : Nat → Nat → Option Nat} {Q : am_Qt} (h : ∀ I', (∀ j, j < 3 → I' 124 j = I 141 j) → fr I I' [124] → Q (.inl none) E I' J S) : am_cl 289 [.ref 124, .ref 141] E I J S Q := by
  show am_ww 289 0 [.ref 124, .ref 141, am_U] [] E I J S Q
  have l : ∀ m i, i + m = 3 → am_ww 289 2 [.ref 124, .ref 141, .int (nI i)] [] E (u_I I 124 (mx (I 124) (I 141) i)) J S Q := by
    intro m
    induction m with
    | zero =>
      intro i e
      apply g289_2_124
      refine ⟨fun _ => h _ (fun j hj => ?_) fr_u, fun q => absurd ?_ q⟩
      · rw [u_I_eq]
        exact if_pos (by omega)
      · rw [nI_leI (by omega) (by omega)]; omega
    | succ m ih =>
      intro i e
      apply g289_2_124
      have := ih (i + 1) (by omega)
      rw [← mx_s] at this
      rw [u_I_eq, u_I_ne (show 141 ≠ 124 by decide), nI_clamp (by omega), uI_0, nI_add]
      exact ⟨fun q => absurd q (by rw [nI_leI (by omega) (by omega)]; omega), fun _ => ⟨vp_in_nI (by omega) (by omega), this⟩⟩
  apply g289_0_124
  have := l 3 0 (by omega)
  rw [mx_0, u_I_id] at this
  exact this
theorem m289_126 {E : am_Ev} {I : Nat → Nat → Int32} {J : Nat → Nat → Int64} {S : Nat → Nat → Option Nat} {Q : am_Qt} (h : ∀ I', (∀ j, j < 40 → I' 126 j = I 142 j) → fr I I' [126] → Q (.inl none) E I' J S) : am_cl 289 [.ref 126, .ref 142] E I J S Q := by
  show am_ww 289 0 [.ref 126, .ref 142, am_U] [] E I J S Q
  have l : ∀ m i, i + m = 40 → am_ww 289 2 [.ref 126, .ref 142, .int (nI i)] [] E (u_I I 126 (mx (I 126) (I 142) i)) J S Q := by
    intro m
    induction m with
    | zero =>
      intro i e
      apply g289_2_126
      refine ⟨fun _ => h _ (fun j hj => ?_) fr_u, fun q => absurd ?_ q⟩
      · rw [u_I_eq]
        exact if_pos (by omega)
      · rw [nI_leI (by omega) (by omega)]; omega
    | succ m ih =>
      intro i e
      apply g289_2_126
      have := ih (i + 1) (by omega)
      rw [← mx_s] at this
      rw [u_I_eq, u_I_ne (show 142 ≠ 126 by decide), nI_clamp (by omega), uI_0, nI_add]
      exact ⟨fun q => absurd q (by rw [nI_leI (by omega) (by omega)]; omega), fun _ => ⟨vp_in_nI (by omega) (by omega), this⟩⟩
  apply g289_0_126
  have := l 40 0 (by omega)
  rw [mx_0, u_I_id] at this
  exact this
theorem m289_127 {E : am_Ev} {I : Nat → Nat → Int32} {J : Nat → Nat → Int64} {S : Nat → Nat → Option Nat} {Q : am_Qt} (h : ∀ I', (∀ j, j < 40 → I' 127 j = I 143 j) → fr I I' [127] → Q (.inl none) E I' J S) : am_cl 289 [.ref 127, .ref 143] E I J S Q := by
  show am_ww 289 0 [.ref 127, .ref 143, am_U] [] E I J S Q
  have l : ∀ m i, i + m = 40 → am_ww 289 2 [.ref 127, .ref 143, .int (nI i)] [] E (u_I I 127 (mx (I 127) (I 143) i)) J S Q := by
    intro m
    induction m with
    | zero =>
      intro i e
      apply g289_2_127
      refine ⟨fun _ => h _ (fun j hj => ?_) fr_u, fun q => absurd ?_ q⟩
      · rw [u_I_eq]
        exact if_pos (by omega)
      · rw [nI_leI (by omega) (by omega)]; omega
    | succ m ih =>
      intro i e
      apply g289_2_127
      have := ih (i + 1) (by omega)
      rw [← mx_s] at this
      rw [u_I_eq, u_I_ne (show 143 ≠ 127 by decide), nI_clamp (by omega), uI_0, nI_add]
      exact ⟨fun q => absurd q (by rw [nI_leI (by omega) (by omega)]; omega), fun _ => ⟨vp_in_nI (by omega) (by omega), this⟩⟩
  apply g289_0_127
  have := l 40 0 (by omega)
  rw [mx_0, u_I_id] at this
  exact this
theorem m289_110 {E : am_Ev} {I : Nat → Nat → Int32} {J : Nat → Nat → Int64} {S : Nat → Nat → Option Nat} {Q : am_Qt} (h : ∀ I', (∀ j, j < 2 → I' 110 j = I 144 j) → fr I I' [110] → Q (.inl none) E I' J S) : am_cl 289 [.ref 110, .ref 144] E I J S Q := by
  show am_ww 289 0 [.ref 110, .ref 144, am_U] [] E I J S Q
  have l : ∀ m i, i + m = 2 → am_ww 289 2 [.ref 110, .ref 144, .int (nI i)] [] E (u_I I 110 (mx (I 110) (I 144) i)) J S Q := by
    intro m
    induction m with
    | zero =>
      intro i e
      apply g289_2_110
      refine ⟨fun _ => h _ (fun j hj => ?_) fr_u, fun q => absurd ?_ q⟩
      · rw [u_I_eq]
        exact if_pos (by omega)
      · rw [nI_leI (by omega) (by omega)]; omega
    | succ m ih =>
      intro i e
      apply g289_2_110
      have := ih (i + 1) (by omega)
      rw [← mx_s] at this
      rw [u_I_eq, u_I_ne (show 144 ≠ 110 by decide), nI_clamp (by omega), uI_0, nI_add]
      exact ⟨fun q => absurd q (by rw [nI_leI (by omega) (by omega)]; omega), fun _ => ⟨vp_in_nI (by omega) (by omega), this⟩⟩
  apply g289_0_110
  have := l 2 0 (by omega)
  rw [mx_0, u_I_id] at this
  exact this
