/-! races: the call, end to end -/
def FRS (I : Nat → Nat → Int32) (J : Nat → Nat → Int64) (T : Nat) : Prop := I 89 8 = nI 0 ∨ (I 89 8 = nI 1 ∧ RDV I J T)
def Hz (I : Nat → Nat → Int32) (S : Nat → Nat → Option Nat) (E : am_Ev) (T : Nat) (x4 : Int32) (Q : am_Qt) : Prop := ∀ E' I' J', E' = E ∨ E' = Ex E → (∀ k, k < 88 ∨ 95 < k ∧ k < 99 ∨ 99 < k ∧ k < 129 ∨ 130 < k → I' k = I k) → (∀ f, f ≠ 3 → I' 99 f = I 99 f) → FRS I' J' T → lk x4 E' I' J' S Q
theorem FRS_q {I I' : Nat → Nat → Int32} {J J' : Nat → Nat → Int64} {T : Nat} (h : FRS I J T) (hk : ∀ k, 89 ≤ k ∧ k < 96 ∨ k = 106 ∨ k = 107 ∨ k = 108 ∨ k = 117 ∨ k = 119 → I' k = I k) (hJ : J' 95 = J 95) : FRS I' J' T := by
  rcases h with z | ⟨z, r⟩
  · exact Or.inl (by rw [hk 89 (by omega)]; exact z)
  · exact Or.inr ⟨by rw [hk 89 (by omega)]; exact z, RDV_c (sst_e (fun k q => hk k (by omega))) (fun k a b => hk k (by omega)) hJ r⟩
/-- the reference tells what is ahead; base: the heap behind the class -/
theorem m265 {E : am_Ev} {I : Nat → Nat → Int32} {J : Nat → Nat → Int64} {S : Nat → Nat → Option Nat} {Q : am_Qt} {T cu ac n : Nat} (hcr : CR I T cu ac n) (h : ∀ I' J', fr I I' [99, 129] → I' 99 = I 99 → (∀ k, k ≠ 128 → J' k = J k) → (∀ t, 1 ≤ t → t ≤ T → I' 129 t = tc I t) → (∀ s', 1 ≤ s' → s' ≤ T → BI I J' s') → Q (.inl none) E I' J' S) : am_cl 265 [.ref 99] E I J S Q := by
  show am_ww 265 0 [.ref 99, am_U, am_U, am_U, am_U] [] E I J S Q
  obtain ⟨h1, h2, h3, h4, h5, h6, h7, h8, h9, h10, h11, h12, h13, h14⟩ := id hcr
  apply g265_0
  exact m265_l h4.1.1 h8.1 (FT_of h1 h2 h4 h11) (MO_all h1 h2 h4 h11) T 1 I J _ _ _ rfl rfl rfl (by omega) (by omega) fr_id rfl (fun t a b => absurd b (by omega)) (fun s a b => absurd b (by omega)) h
theorem m264_16 {E : am_Ev} {J : Nat → Nat → Int64} {S : Nat → Nat → Option Nat} {Q : am_Qt} {I : Nat → Nat → Int32} {w : Int32} (h : ∀ I' (d6 d7 : Value), am_isL d6 = false → am_isL d7 = false → (∀ k, k ≠ 130 → I' k = I k) → RC I' (fun _ _ => false) → am_ww 264 36 [.ref 99, .int w, .int (nI 0), .int (nI 0), .int (nI 0), .int (nI 1), d6, d7] [] E I' J S Q) : ∀ m k (I1 : Nat → Nat → Int32), k + m = 4096 → (∀ k, k ≠ 130 → I1 k = I k) → (∀ j, j < k → I1 130 j = nI 0) → am_ww 264 16 [.ref 99, .int w, .int (nI k), am_U, am_U, am_U, am_U, am_U] [] E I1 J S Q := by
  intro m
  induction m with
  | zero =>
    intro k I1 ek f1 z1
    apply g264_16 rfl rfl rfl rfl rfl
    rw [nI_leI (by omega) (by omega)]
    exact ⟨fun _ => h I1 _ _ rfl rfl f1 (fun a ha b hb => z1 _ (by omega)), fun q => absurd (by omega) q⟩
  | succ m ih =>
    intro k I1 ek f1 z1
    apply g264_16 rfl rfl rfl rfl rfl
    rw [nI_leI (by omega) (by omega), nI_clamp (by omega), nI_add]
    refine ⟨fun q => absurd q (by omega), fun _ => ⟨vp_in_nI (by omega) (by omega), ih (k + 1) _ (by omega) (fun j hj => by rw [u_I_ne hj]; exact f1 j hj) (fun j hj => ?_)⟩⟩
    rw [u_I_eq]
    by_cases c : j = k
    · rw [c, upd_eq]
    · rw [upd_ne c]; exact z1 j (by omega)
theorem k_races {E : am_Ev} {I : Nat → Nat → Int32} {J : Nat → Nat → Int64} {S : Nat → Nat → Option Nat} {Q : am_Qt} {T cu ac n d i : Nat} {x4 : Int32} {d5 d6 : Value} (hd5 : am_isL d5 = false) (hd6 : am_isL d6 = false) (hcr : CR I T cu ac n) (hfr : FRS I J T) (hx : x4 = nI i) (hi : i + 6 ≤ E.2.2.1) (hL : E.2.2.1 ≤ 3072) (h : Hz I S E T x4 Q) : am_ww 291 767 [.ref 1000000, .ref 0, .ref 99, .ref 145, .int x4, d5, d6] [] E I J S Q := by
  apply g291_767 hd5 hd6
  refine L1 hx hi hL ?_
  generalize E.2.2.2 (i + 1) = x
  show am_ww 143 0 [.ref 0, .int x, .ref 145, am_U] [] E I J S _
  apply g143_0
  show am_ww 144 0 [.ref 0, .int x] [] E I J S _
  apply g144_0
  rcases rng' x 3 (by omega) with ⟨w, hw, ew⟩ | ⟨nx, hb⟩
  · subst ew
    refine ⟨fun q => absurd q (nI_pos (by omega)), fun _ => ⟨fun _ => ?_, fun q => absurd ((nI_leI (by omega) (by omega)).mpr (by omega)) q⟩⟩
    refine c145 hcr hfr (fun I1 J1 f1 j1 e8 hr => q_mkV ?_)
    have hcr1 : CR I1 T cu ac n := CR_e ⟨fun k hk => f1 k (by omega), by rw [f1 99 (by omega)], by rw [f1 99 (by omega)], by rw [f1 99 (by omega)]⟩ hcr
    obtain ⟨h1, h2, h3, h4, h5, h6, h7, h8, h9, h10, h11, h12, h13, h14⟩ := id hcr1
    have hT4 := h4.1.1
    have hF1 := FT_of h1 h2 h4 h11
    have kc := KC_ouL hF1 T 1 x0 (by omega) (by omega) KC_0
    obtain ⟨r1, r2, r3, r4⟩ := id hr
    -- the reference
    have ref : ∀ v : Int32, v = (if w = 0 then nI (ouL I1 T 1 x0).1 else if w = 1 then bc32 (ouL I1 T 1 x0).2.1 else nI (ouL I1 T 1 x0).2.2.2) → q_I (fun v1 E1 I1 J1 S1 => E1.2.2 = E.2.2 ∧ am_cl 264 [.ref 99, .int (nI w)] E1 I1 J1 S1 (q_I fun v2 E2 I2 J2 S2 => tl v1 v2 x4 E2 I2 J2 S2 Q)) (.inl (some (.int (nI 0)))) E I1 (u_J J1 145 (vp_updL (J1 145) 0 v.toInt64)) S := by
      intro v ev
      refine q_mkI ⟨rfl, ?_⟩
      show am_ww 264 0 [.ref 99, .int (nI w), am_U, am_U, am_U, am_U, am_U, am_U] [] E I1 _ S _
      apply g264_0
      refine ⟨fun q => absurd ((nI_ltI (by omega) (by omega)).mp q) (by omega), fun _ => ⟨fun q => absurd ((nI_ltI (by omega) (by omega)).mp q) (by omega), fun _ => ?_⟩⟩
      have z99 : u_I I1 99 (upd (I1 99) 3 (nI 0)) 99 = upd (I1 99) 3 (nI 0) := u_I_eq
      have zo : ∀ k, k ≠ 99 → u_I I1 99 (upd (I1 99) 3 (nI 0)) k = I1 k := fun k a => u_I_ne a
      generalize u_I I1 99 (upd (I1 99) 3 (nI 0)) = I2 at z99 zo ⊢
      have hcr2 : CR I2 T cu ac n := CR_e ⟨fun k hk => zo k (by omega), by rw [z99, upd_ne (by omega)], by rw [z99, upd_ne (by omega)], by rw [z99, upd_ne (by omega)]⟩ hcr1
      have hF2 : FT I2 T := FT_of hcr2.1 hcr2.2.1 hcr2.2.2.2.1 hcr2.2.2.2.2.2.2.2.2.2.2.1
      have ss : sst I1 I2 T := sst_e (fun k hk => zo k (by omega))
      have eo : ouL I2 T 1 x0 = ouL I1 T 1 x0 := ouL_c ss T 1 x0 (by omega) (by omega)
      refine m265 hcr2 (fun I3 J3 f3 e99 j3 t3 b3 => q_mkV ?_)
      refine m264_16 (I := I3) (fun I4 d6 d7 hd6 hd7 f4 rc4 => ?_) 4096 0 I3 (by omega) (fun _ _ => rfl) (fun j hj => absurd hj (by omega))
      have f24 : fr I2 I4 [99, 129, 130] := fun k hk => by
        simp only [List.mem_cons, List.not_mem_nil, or_false, not_or] at hk
        rw [f4 k hk.2.2, f3 k (by simp [hk.1, hk.2.1])]
      refine m264_36 (I := I2) (T := T) (w := w) hT4 hF2 hw b3 T 1 I4 x0 d6 d7 hd6 hd7 (by omega) (by omega) (by show (0 : Nat) ≤ _; omega) f24 ?_ (fun t a b => by rw [f4 129 (by omega)]; exact t3 t a b) rc4 KC_0 (fun I5 f5 => q_mkI (tl_ok ?_ ?_ ?_))
      · rw [f4 99 (by omega), e99, z99, upd_ne (by omega)]; exact h8.1
      · rw [f5 99 (by omega), f4 99 (by omega), e99, z99, upd_eq]
      · rw [j3 145 (by omega), u_J_eq, eo, ← ev]
        exact if_pos rfl
      · have f15 : ∀ k, k ≠ 99 → k ≠ 129 → k ≠ 130 → I5 k = I1 k := fun k a b c => by rw [f5 k c, f24 k (by simp [a, b, c]), zo k a]
        refine h E I5 J3 (Or.inl rfl) (fun k hk => by rw [f15 k (by omega) (by omega) (by omega), f1 k (by omega)]) (fun f hf => ?_) (Or.inr ⟨?_, RDV_c (sst_e (fun k hk => f15 k (by omega) (by omega) (by omega))) (fun k a b => f15 k (by omega) (by omega) (by omega)) ?_ hr⟩)
        · rw [f5 99 (by omega), f4 99 (by omega), e99, z99, upd_ne hf, f1 99 (by omega)]
        · rw [f15 89 (by omega) (by omega) (by omega)]; exact e8
        · rw [j3 95 (by omega), u_J_ne (by omega)]
    refine ⟨fun w0 => ?_, fun w0 => ⟨fun w1 => ?_, fun w1 => ?_⟩⟩
    · have : w = 0 := by rw [nI_e0 (by omega)] at w0; exact w0
      rw [r4.1]
      exact W_ok (y := 143) (ref _ (by rw [if_pos this]))
    · have hw0 : ¬ w = 0 := fun q => w0 (by rw [q]; exact nI_0)
      have hw1 : w = 1 := by rw [nI_eq (by omega) (by omega)] at w1; exact w1
      rw [r4.2.1]
      exact c153 (q_mkI (W_ok (y := 143) (ref _ (by rw [if_neg hw0, if_pos hw1]))))
    · have hw0 : ¬ w = 0 := fun q => w0 (by rw [q]; exact nI_0)
      have hw1 : ¬ w = 1 := fun q => w1 (by rw [q])
      refine c154 (q_mkI (W_ok (y := 143) (ref _ ?_)))
      rw [if_neg hw0, if_neg hw1, kc, smc_c 64 0 (fun j a b c hc => r4.2.2 j (by omega) c hc)]
  · have t : q_I (fun v1 E1 I1 J1 S1 => E1.2.2 = E.2.2 ∧ am_cl 264 [.ref 99, .int x] E1 I1 J1 S1 (q_I fun v2 E2 I2 J2 S2 => tl v1 v2 x4 E2 I2 J2 S2 Q)) (.inl (some (.int (nI 1)))) (E.1 + 1, E.2.1 + 6, E.2.2) I J S := by
      refine q_mkI ⟨rfl, ?_⟩
      show am_ww 264 0 [.ref 99, .int x, am_U, am_U, am_U, am_U, am_U, am_U] [] _ I J S _
      apply g264_0
      have tb : q_I (fun v2 E2 I2 J2 S2 => tl (nI 1) v2 x4 E2 I2 J2 S2 Q) (.inl (some (.int (nI 0)))) (E.1 + 1, E.2.1 + 6, E.2.2) (u_I I 99 (upd (upd (I 99) 3 (nI 0)) 3 (nI 1))) J S := q_mkI (tl_bad (by omega) (by omega) (by rw [u_I_eq, upd_eq]) (h _ _ _ (Or.inr rfl) (fun k hk => u_I_ne (by omega)) (fun f hf => by rw [u_I_eq, upd_ne hf, upd_ne hf]) (FRS_q hfr (fun k hk => u_I_ne (by omega)) rfl)))
      refine ⟨fun _ => tb, fun q0 => ⟨fun _ => tb, fun q1 => ?_⟩⟩
      rw [nI_0] at q0
      exact (ctr_le hb q0 (Int32.not_lt.mp q1) rfl (by omega)).elim
    exact ⟨fun _ => ⟨1, rfl, t⟩, fun q0 => ⟨fun q1 => (ctr_le hb q0 q1 rfl (by omega)).elim, fun _ => ⟨1, rfl, t⟩⟩⟩
