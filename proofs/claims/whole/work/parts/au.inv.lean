/-! the first state -/
theorem sw0 : SW cs_166 := by
  unfold SW
  decide +kernel
theorem ci_a : ci_140 1 1 = nI 0 ∧ ci_140 89 8 = nI 0 ∧ ci_140 0 12 = -1 ∧ ci_140 0 13 = nI 0 ∧ ci_140 18 12 = nI 0 ∧ ci_140 18 13 = nI 0 := by decide +kernel
theorem inv0 {I : Nat → Nat → Int32} (hI : F185 I) : INV (ci_198 I) cj_146 cs_166 := by
  obtain ⟨I5, ⟨I7, f, ⟨I4, ⟨I2, ⟨a1, a2, a3, a4, a5, a6, a7⟩, b1, b2, b3, b4, b5, b6, b7, b8, b9, b10⟩, w1, w2, w3⟩, hf, rfl⟩, rfl⟩ := hI
  have lo : ∀ k, k < 99 → ci_198 (u_I (u_I (ci_197 I7) 116 f) 117 (cpk (u_I (ci_197 I7) 116 f 117) (u_I (ci_197 I7) 116 f 116) (51 * 0) 51)) k = I7 k := fun k hk => by
    unfold ci_198
    rw [u_I_ne (by omega), u_I_ne (by omega), u_I_ne (by omega), cl_197 hk]
  have hi : ∀ k, 99 ≤ k → k ≠ 116 → k ≠ 117 → k ≠ 145 → ci_198 (u_I (u_I (ci_197 I7) 116 f) 117 (cpk (u_I (ci_197 I7) 116 f 117) (u_I (ci_197 I7) 116 f 116) (51 * 0) 51)) k = ci_197 I7 k := fun k hk x y z => by
    unfold ci_198
    rw [u_I_ne z, u_I_ne y, u_I_ne x]
  have h7 : ∀ k, k < 51 → ci_198 (u_I (u_I (ci_197 I7) 116 f) 117 (cpk (u_I (ci_197 I7) 116 f 117) (u_I (ci_197 I7) 116 f 116) (51 * 0) 51)) 117 k = m_first (ci_197 I7) (ci_197 I7 103 1) k := fun k hk => by
    unfold ci_198
    rw [u_I_ne (by decide), u_I_eq]
    have := cpk_in (f := u_I (ci_197 I7) 116 f 117) (g := u_I (ci_197 I7) 116 f 116) (o := 51 * 0) (n := 51) hk
    rw [show 51 * 0 + k = k from by omega] at this
    rw [this, u_I_eq]
    exact hf k hk
  generalize ci_198 (u_I (u_I (ci_197 I7) 116 f) 117 (cpk (u_I (ci_197 I7) 116 f 117) (u_I (ci_197 I7) 116 f 116) (51 * 0) 51)) = F at lo hi h7 ⊢
  -- the reference
  have g103 : ci_197 I7 103 0 = nI 3 ∧ ci_197 I7 103 1 = nI 1 ∧ ci_197 I7 103 2 = nI 10 ∧ ci_197 I7 103 3 = nI 4 ∧ ci_197 I7 103 4 = nI 0 := ⟨rfl, rfl, rfl, rfl, rfl⟩
  have g104 : ∀ k, ci_197 I7 104 k = nI 0 := fun _ => rfl
  have g99 : ci_197 I7 99 12 = nI 0 ∧ ci_197 I7 99 13 = nI 0 ∧ ci_197 I7 99 43 = nI 0 ∧ ci_197 I7 99 15 = nI 0 ∧ ci_197 I7 99 24 = -1 ∧ ci_197 I7 99 58 = nI 0 := ⟨rfl, rfl, rfl, rfl, rfl, rfl⟩
  have g124 : ∀ k, ci_197 I7 124 k = nI 0 := fun _ => rfl
  have g110 : ∀ k, ci_197 I7 110 k = nI 0 := fun _ => rfl
  have f3 := hi 103 (by omega) (by omega) (by omega) (by omega)
  have f4 := hi 104 (by omega) (by omega) (by omega) (by omega)
  have f9 := hi 99 (by omega) (by omega) (by omega) (by omega)
  have f124 := hi 124 (by omega) (by omega) (by omega) (by omega)
  have f110 := hi 110 (by omega) (by omega) (by omega) (by omega)
  -- the class
  have c4 : ∀ k, k < 60 ∨ 67 < k → k < 99 → F k = I4 k := fun k h1 h2 => by rw [lo k h2, w3 k (by omega)]
  have c2 : ∀ k, k < 18 ∨ k = 27 ∨ 29 ≤ k ∧ k < 34 ∨ 35 ≤ k ∧ k < 60 ∨ 67 < k → k < 99 → F k = I2 k := fun k h1 h2 => by rw [c4 k (by omega) h2, b1 k (by omega)]
  have c0 : ∀ k, k < 12 ∨ k = 27 ∨ 29 ≤ k ∧ k < 34 ∨ 35 ≤ k ∧ k < 60 ∨ 67 < k → k < 99 → F k = ci_140 k := fun k h1 h2 => by rw [c2 k (by omega) h2, a1 k (by omega)]
  have fst : ∀ seed k, m_first F seed k = m_first (fun _ _ => nI 0) seed k := fun seed k => by
    unfold m_first
    rw [f4]
    split
    · exact g104 k
    · rfl
  have fst' : ∀ seed k, m_first (ci_197 I7) seed k = m_first (fun _ _ => nI 0) seed k := fun seed k => by
    unfold m_first
    split
    · exact g104 k
    · rfl
  have h117 : ∀ k, k < 51 → F 117 k = m_first F (F 103 1) k := fun k hk => by rw [h7 k hk, fst, fst', f3]
  have e18 : F 18 = I4 18 := c4 18 (by omega) (by omega)
  have i18 : I2 18 12 = nI 0 ∧ I2 18 13 = nI 0 := by rw [a1 18 (by omega)]; exact ci_a.2.2.2.2
  have rmF : ∀ (b : Nat) (x : Int32), rm F b (m_first (fun _ _ => nI 0) x) → ∀ y, rm F b (m_first F y) := fun b x h y => rm_c (rm_first (y := y) h) (fun k _ => (fst y k).symm)
  have hcr : CR F 0 0 0 0 := by
    refine CR_new ?_ ?_ ?_ h117 (by rw [f9]; exact g99.1) (by rw [f9]; exact g99.2.1) (by rw [f9]; exact g99.2.2.1) ⟨by rw [e18]; exact b8, by rw [e18]; exact b9, by rw [e18]; exact b10⟩ (fun s hs => ⟨by rw [f124]; exact g124 s, by rw [c4 28 (by omega) (by omega)]; exact b5 s hs⟩) (by rw [c4 34 (by omega) (by omega)]; exact b6) ?_ ⟨by rw [c4 19 (by omega) (by omega)]; exact b4, by rw [c4 19 (by omega) (by omega), b3, f3, g103.2.1]; exact a5⟩ ⟨by rw [f110, e18, b7 12 (by decide) (by decide) (by decide), i18.1]; exact g110 0, by rw [f110, e18, b7 13 (by decide) (by decide) (by decide), i18.2]; exact g110 1⟩
    · unfold p_in
      rw [f3, g103.2.2.2.2]
      exact ⟨vp_in_nI (by omega) (by omega), fun t ht => by rw [nI_clamp (by omega)] at ht; omega⟩
    · unfold p_cl
      rw [f3, g103.2.2.2.2, c2 12 (by omega) (by omega), c2 16 (by omega) (by omega), c2 17 (by omega) (by omega), f4]
      refine ⟨a2, fun t ht => by rw [nI_clamp (by omega)] at ht; omega, fun k hk => by rw [g104 k]; exact a3 k hk, fun k hk => ?_⟩
      have hc : k = 0 ∨ k = 1 ∨ k = 2 ∨ k = 3 := by omega
      rcases hc with e | e | e | e <;> subst e
      · rw [g103.1]; exact a4
      · rw [g103.2.1]; exact a5
      · rw [g103.2.2.1]; exact a6
      · rw [g103.2.2.2.1]; exact a7
    · unfold st_ok
      rw [f3, g103.1, g103.2.2.1, g103.2.2.2.1]
      exact ⟨⟨3, by decide, by decide, rfl⟩, ⟨10, by decide, by decide, rfl⟩, ⟨4, by decide, by decide, rfl⟩⟩
    · exact rmF 20 _ (rm_e b2 (fun k h1 h2 => c4 k (by omega) (by omega))) _
  refine ⟨sw0, ⟨0, ?_, ?_, by omega, fun k hk => by omega⟩, ⟨0, 0, 0, 0, 0, hcr, vw_new h117 (rmF 61 _ (rm_e w1 (fun k h1 h2 => lo k (by omega))) _) ?_, Or.inl ?_⟩, ?_, Or.inl ⟨?_, ?_⟩⟩
  · rw [c0 1 (by omega) (by omega)]; exact ci_a.1
  · rw [f9]; exact g99.2.2.2.1
  · rw [lo 60 (by omega), w2]
    refine ⟨?_, ?_, ?_, ?_⟩
    · rw [upd_ne (by decide), upd_ne (by decide), upd_ne (by decide), upd_eq]
    · rw [upd_ne (by decide), upd_ne (by decide), upd_eq]
    · rw [upd_ne (by decide), upd_eq]
    · rw [upd_eq]
  · rw [c0 89 (by omega) (by omega)]; exact ci_a.2.1
  · rw [f9, g99.2.2.2.2.1, c0 0 (by omega) (by omega)]; exact ci_a.2.2.1.symm
  · rw [f9]; exact g99.2.2.2.2.2
  · rw [c0 0 (by omega) (by omega)]; exact ci_a.2.2.2.1
/-- the law ends with 1, for every script -/
theorem law_run (L : Nat) (xs : Nat → Int32) (hL : L ≤ 3072) : ∃ n σ', am_run n 291 0 (am_l0 291 [.ref 1000000]) [] (am_s0 L xs) = some (.inl (some (.int 1)), σ') ∧ g_C σ' ≤ 1193 ∧ g_Z σ' ≤ 71728 := by
  have h := cons (X := (L, xs)) (Q := fun r τ => ∃ E' I' J' S', τ = am_M E' I' J' S' ∧ (r = .inl (some (.int (nI 1))) ∧ E'.1 ≤ 1193 ∧ E'.2.1 ≤ 71728)) (fun I hI => law_loop 512 0 (146, 63398, (L, xs)) (ci_198 I) cj_146 cs_166 am_U am_U (by show L ≤ _; omega) (Nat.zero_le _) hL rfl rfl (inv0 hI) 1193 71728 (by show 146 + 512 ≤ 1193; decide) (by show 63398 + 6 * 512 ≤ 71728; decide))
  obtain ⟨n, r, σ', h1, E', I', J', S', rfl, rfl, h2, h3⟩ := h
  exact ⟨n, _, h1, h2, h3⟩
