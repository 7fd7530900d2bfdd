/-! the law's loop -/
def HIV (E : am_Ev) (x4 : Int32) (Q : am_Qt) : Prop := ∀ E' I' J' S', E' = E ∨ E' = Ex E → INV I' J' S' → lk x4 E' I' J' S' Q
section
variable {E : am_Ev} {I : Nat → Nat → Int32} {J : Nat → Nat → Int64} {S : Nat → Nat → Option Nat} {Q : am_Qt} {x4 : Int32} {T cu ac n d : Nat}
theorem CR_T (h : CR I T cu ac n) : T ≤ 400 ∧ I 18 10 = nI T := ⟨h.2.2.2.1.1.1, h.2.2.2.2.2.2.2.1.2⟩
theorem FRS_s {I' : Nat → Nat → Int32} {J' : Nat → Nat → Int64} {cu' ac' n' T' : Nat} (hc : CR I T cu ac n) (hc' : CR I' T' cu' ac' n') (hf : FRS I J T) (h89 : ∀ k, 89 ≤ k → k < 96 → I' k = I k) (h33 : I' 33 = I 33) (h18 : I' 18 10 = I 18 10) (hJ : J' 95 = J 95) (hp : ∀ k, 103 ≤ k → k < 110 → I' k = I k) : FRS I' J' T' := by
  have a := CR_T hc
  have b := CR_T hc'
  have e : T' = T := by
    rw [h18, a.2, nI_eq (by omega) (by omega)] at b
    omega
  subst e
  rcases hf with z | ⟨z, r⟩
  · exact Or.inl (by rw [h89 89 (by omega) (by omega)]; exact z)
  · exact Or.inr ⟨by rw [h89 89 (by omega) (by omega)]; exact z, RDV_c (sst_of hc hc' h33 hp) h89 hJ r⟩
theorem HIV_n (hv : INV I J S) (hc : CR I T cu ac n) (hf : FRS I J T) (h : HIV E x4 Q) : Hn I J S E x4 Q := by
  intro E' I' J' T' cu' ac' n' d' hE hc' hv' hk hr
  refine h E' I' J' S hE (INV_kp hv hk ⟨T', cu', ac', n', d', hc', hv', ?_⟩)
  rcases hr with z | ⟨a, b, c, e⟩
  · exact Or.inl z
  · exact FRS_s hc hc' hf a b c e (fun k x y => hk.1 k (by omega))
theorem HIV_q (hv : INV I J S) (hc : CR I T cu ac n) (hf : FRS I J T) (h : HIV E x4 Q) : Hq I J S E T x4 Q := by
  intro E' I' J' hE hq hv' hJ
  obtain ⟨d', hv'⟩ := hv'
  refine h E' I' J' S hE (INV_kp hv ⟨fun k hk => hq.1 k (by omega) (by omega), fun f hf => hq.2 f (by omega)⟩ ⟨T, cu, ac, n, d', CR_e (quiet_ce hq) hc, hv', FRS_q hf (fun k hk => hq.1 k (by omega) (by omega)) (hJ 95 (by omega))⟩)
/-- another cursor -/
theorem CR_cu {I' : Nat → Nat → Int32} {cu' : Nat} (hc : CR I T cu ac n) (hq : quietc I I' cu') (hcu : cu' ≤ T) : CR I' T cu' ac n := by
  obtain ⟨h1, h2, h3, h4, h5, h6, h7, h8, h9, h10, h11, h12, h13, h14⟩ := hc
  obtain ⟨q1, q2, q3, q4, q5⟩ := hq
  have e : ∀ k, 12 ≤ k ∧ k < 18 ∨ 19 ≤ k ∧ k < 39 ∨ 103 ≤ k ∧ k < 111 ∨ 117 ≤ k ∧ k < 125 ∨ k = 126 ∨ k = 127 → I' k = I k := fun k hk => q1 k (by omega) (by omega) (by omega)
  have hpe : p_eq I I' := fun k a b => e k (by omega)
  have hq : p_q I I' := ⟨fun k a b => e k (by omega), hpe⟩
  have hh : h_eq I I' := ⟨hpe, e 117 (by omega), e 120 (by omega), e 121 (by omega), e 122 (by omega), e 123 (by omega)⟩
  have er : rt I' = rt I := rt_e hh.2.1
  refine ⟨(p_in_e hpe).mpr h1, (p_cl_e hq).mpr h2, ?_, RW_e hh h4, ?_, (gq_e (fun k hk => e k (by omega))).mpr h6, ?_, ?_, ⟨q4, q5, hcu⟩, ?_, ?_, ?_, ?_, ?_⟩
  · unfold st_ok
    rw [e 103 (by omega)]
    exact h3
  · unfold sq
    rw [q3 9 (by decide), e 29 (by omega), e 30 (by omega), e 31 (by omega), hh.2.2.1, hh.2.2.2.1, hh.2.2.2.2.1]
    exact h5
  · rw [er, e 124 (by omega)]; exact h7
  · rw [q2 12 (by decide) (by decide), q3 10 (by decide)]; exact h8
  · rw [er, e 19 (by omega)]
    exact ⟨rm_e h10.1 (fun k a b => e k (by omega)), h10.2⟩
  · intro t a b
    obtain ⟨C, p, q⟩ := h11 t a b
    refine ⟨C, p, ?_⟩
    rw [er, e 103 (by omega), e 105 (by omega), e 119 (by omega), e 118 (by omega), e 33 (by omega)]
    exact q
  · unfold DG
    rw [er, e 103 (by omega), e 32 (by omega)]
    exact h12
  · obtain ⟨a, b, c, d⟩ := h13
    refine ⟨by rw [q2 43 (by decide) (by decide)]; exact a, by rw [e 34 (by omega)]; exact b, c, ?_⟩
    rw [e 124 (by omega)]
    exact aw_e (fun k hk => e k (by omega)) _ _ _ d
  · rw [e 110 (by omega), q3 12 (by decide), q3 13 (by decide)]; exact h14
theorem HIV_c (hv : INV I J S) (hc : CR I T cu ac n) (hf : FRS I J T) (h : HIV E x4 Q) : Hc I J S E T x4 Q := by
  intro E' I' J' cu' hE hcu hq hv' hJ
  obtain ⟨d', hv'⟩ := hv'
  have k1 := hq.1
  refine h E' I' J' S hE (INV_kp hv ⟨fun k hk => hq.1 k (by omega) (by omega) (by omega), fun f hf => hq.2.1 f (by omega) (by omega)⟩ ⟨T, cu', ac, n, d', CR_cu hc hq hcu, hv', FRS_q hf (fun k hk => k1 k (by omega) (by omega) (by omega)) (hJ 95 (by omega))⟩)
theorem HIV_z (hv : INV I J S) (hc : CR I T cu ac n) (hw : vw I T d) (h : HIV E x4 Q) : Hz I S E T x4 Q := by
  intro E' I' J' hE hk h9 hf
  refine h E' I' J' S hE (INV_kp hv ⟨fun k q => hk k (by omega), fun f q => h9 f (by omega)⟩ ⟨T, cu, ac, n, d, CR_e ⟨fun k q => hk k (by omega), h9 12 (by omega), h9 13 (by omega), h9 43 (by omega)⟩ hc, vw_e (fun k q => hk k (by omega)) hw, hf⟩)
theorem and31 (x : Int32) : ∃ c, c < 32 ∧ x &&& nI 31 = nI c := by
  have h31 : (nI 31).toBitVec.toNat = 31 := by decide
  have hl : (x &&& nI 31).toBitVec.toNat < 32 := by
    rw [Int32.toBitVec_and, BitVec.toNat_and, h31]
    exact Nat.lt_of_le_of_lt Nat.and_le_right (by decide)
  refine ⟨(x &&& nI 31).toBitVec.toNat, hl, ?_⟩
  generalize hc : (x &&& nI 31).toBitVec.toNat = c at *
  have key : ∀ c, c < 32 → (nI c).toBitVec.toNat = c := by decide +kernel
  apply Int32.toBitVec_inj.mp
  apply BitVec.eq_of_toNat_eq
  rw [hc, key c hl]
/-- one call -/
theorem law_step {i : Nat} {d5 d6 : Value} (hd5 : am_isL d5 = false) (hd6 : am_isL d6 = false) (hv : INV I J S) (hi : i + 6 ≤ E.2.2.1) (hL : E.2.2.1 ≤ 3072) (h : HIV E (nI i) Q) : am_ww 291 13 [.ref 1000000, .ref 0, .ref 99, .ref 145, .int (nI i), d5, d6] [] E I J S Q := by
  have hv0 := hv
  obtain ⟨hS, ⟨m, htp⟩, ⟨T, cu, ac, n, d, hcr, hvw, hfr⟩, h24, him⟩ := hv
  have hn := HIV_n hv0 hcr hfr h
  have hq := HIV_q hv0 hcr hfr h
  have hc := HIV_c hv0 hcr hfr h
  have hz := HIV_z hv0 hcr hvw h
  apply g291_13 hd5 hd6
  rw [nI_subI (by omega), nI_ltI (by omega) (by omega), nI_clamp (by omega)]
  refine ⟨fun z => by omega, fun _ => ⟨vp_in_nI (by omega) (by omega), fun _ => ?_, fun _ => k_program hd5 hd6 hv0 rfl hi hL h, fun _ => k_fault hd5 hd6 h24 hvw hq, fun _ => k_count hd5 hd6 hcr hvw (htp.1.trans htp.2.1.symm) rfl hi hL hn, fun _ => k_set hd5 hd6 hcr.2.1 hvw rfl hi hL hq, fun _ => k_steps hd5 hd6 hcr hvw rfl hi hL hn, fun _ => ?_, fun _ => k_undo hd5 hd6 hcr hvw hn, fun _ => k_switched hd5 hd6 hcr hvw rfl hi hL hq, fun _ => k_input hd5 hd6 hcr hvw rfl hi hL hq, fun _ => k_digest hd5 hd6 hcr hvw rfl hi hL hq, fun _ => k_snapshot hd5 hd6 hcr hvw rfl hi hL hn, fun _ => k_seek hd5 hd6 hcr hvw rfl hi hL hn, fun _ => k_cell hd5 hd6 hcr hvw rfl hi hL hq, fun _ => k_thread hd5 hd6 hcr hvw rfl hi hL hq, fun _ => k_lock hd5 hd6 hcr hvw rfl hi hL hq, fun _ => k_mark (i := i) hd5 hd6 hcr hvw hq, fun _ => k_back hd5 hd6 hcr hvw rfl hi hL hc, fun _ => k_on hd5 hd6 hcr hvw rfl hi hL hc, fun _ => k_last hd5 hd6 hcr hvw rfl hi hL hq, fun _ => k_held hd5 hd6 hcr hvw rfl hi hL hq, fun _ => k_firstRead hd5 hd6 hcr hvw rfl hi hL hq, fun _ => k_races (d := d) hd5 hd6 hcr hfr rfl hi hL hz, fun _ => k_race (d := d) hd5 hd6 hcr hfr rfl hi hL hz, fun _ => k_guards hd5 hd6 hcr hvw rfl hi hL hn, fun _ => k_hot hd5 hd6 hcr hvw rfl hi hL hn, fun _ => k_diverged hd5 hd6 hcr hvw rfl hi hL hn, fun _ => k_matters hd5 hd6 hcr hvw rfl hi hL hn, fun _ => k_outcomes hd5 hd6 hcr hvw rfl hi hL hn, fun _ => k_toSpare hd5 hd6 hcr hvw rfl hi hL hn, fun _ => ?_, fun _ => k_restore hd5 hd6 hcr hvw him hn, ?_⟩⟩
  · refine k_feed hd5 hd6 htp rfl hi hL (fun I' m' tp' f1 f2 f3 => ?_)
    refine h E I' J S (Or.inl rfl) ⟨hS, ⟨m', tp'⟩, ⟨T, cu, ac, n, d, CR_e ⟨fun k hk => f1 k (by simp; omega), f2 12 (by decide) (by decide), f2 13 (by decide) (by decide), f2 43 (by decide) (by decide)⟩ hcr, vw_e (fun k hk => f1 k (by simp; omega)) hvw, FRS_q hfr (fun k hk => f1 k (by simp; omega)) rfl⟩, ?_, IMG_e him (fun k hk => f1 k (by simp; omega)) (by rw [f1 0 (by decide)]) (fun f hf => f2 f (by omega) (by omega))⟩ d5 d6 hd5 hd6
    rw [f2 24 (by decide) (by decide), f1 0 (by decide)]
    exact h24
  · refine k_give hd5 hd6 hcr hvw rfl hi hL (fun I' ac' hc' hv' g => ?_)
    obtain ⟨g1, g2, g3⟩ := g
    refine h E I' J S (Or.inl rfl) (INV_kp hv0 ⟨fun k hk => g1 k (by simp; omega), fun f hf => g2 f (by omega) (by omega)⟩ ⟨T, cu, ac', n, d, hc', hv', FRS_s hcr hc' hfr (fun k a b => g1 k (by simp; omega)) (g1 33 (by decide)) (g3 10 (by decide)) rfl (fun k a b => g1 k (by simp; omega))⟩) d5 d6 hd5 hd6
  · refine k_image hd5 hd6 hcr hvw (fun I' hc' hv' hs' e13 e58 ki => ?_)
    obtain ⟨k1, k2, k3⟩ := ki
    refine h E I' J S (Or.inl rfl) ⟨hS, ⟨m, tp_e htp (by rw [k1 1 (by omega)]) (k1 2 (by omega)) (k1 111 (by omega)) (k3 15 (by decide) (by decide))⟩, ⟨T, cu, ac, n, d, hc', hv', FRS_q hfr (fun k hk => k1 k (by omega)) rfl⟩, ?_, Or.inr ⟨e58, e13, T, cu, ac, n, hs'⟩⟩
    rw [k3 24 (by decide) (by decide), k2 12 (by decide)]
    exact h24
  · obtain ⟨c, hc32, ec⟩ := and31 (E.2.2.2 i)
    rw [ec]
    simp (disch := omega) only [nI_eq]
    intros
    omega
end
/-- the end of the law -/
theorem sub6 : ∀ L, L < 6 → ∀ i, i < 6 → nI L - nI 6 < nI i := by decide +kernel
theorem law_loop : ∀ m i (E : am_Ev) (I : Nat → Nat → Int32) (J : Nat → Nat → Int64) (S : Nat → Nat → Option Nat) (d5 d6 : Value), E.2.2.1 ≤ i + 6 * m + 5 → i ≤ E.2.2.1 → E.2.2.1 ≤ 3072 → am_isL d5 = false → am_isL d6 = false → INV I J S → ∀ X Y, E.1 + m ≤ X → E.2.1 + 6 * m ≤ Y → am_ww 291 13 [.ref 1000000, .ref 0, .ref 99, .ref 145, .int (nI i), d5, d6] [] E I J S (fun r E' _ _ _ => r = .inl (some (.int (nI 1))) ∧ E'.1 ≤ X ∧ E'.2.1 ≤ Y) := by
  intro m
  induction m with
  | zero =>
    intro i E I J S d5 d6 hm hi hL hd5 hd6 hv X Y hX hY
    apply g291_13 hd5 hd6
    have hlt : nI E.2.2.1 - nI 6 < nI i := by
      by_cases c : E.2.2.1 < 6
      · exact sub6 _ c _ (by omega)
      · rw [nI_subI (by omega), nI_ltI (by omega) (by omega)]
        omega
    exact ⟨fun _ => ⟨rfl, by omega, by omega⟩, fun z => absurd hlt z⟩
  | succ m ih =>
    intro i E I J S d5 d6 hm hi hL hd5 hd6 hv X Y hX hY
    by_cases c : i + 6 ≤ E.2.2.1
    · refine law_step hd5 hd6 hv c hL (fun E' I' J' S' hE hv' d5' d6' h5 h6 => ?_)
      apply g291_1129 h5 h6
      rw [nI_add]
      have e1 : E'.2.2 = E.2.2 ∧ E'.1 ≤ E.1 + 1 ∧ E'.2.1 ≤ E.2.1 + 6 := by
        rcases hE with e | e
        · subst e; exact ⟨rfl, by omega, by omega⟩
        · subst e; exact ⟨rfl, Nat.le_refl _, Nat.le_refl _⟩
      exact ih (i + 6) E' I' J' S' d5' d6' (by rw [e1.1]; omega) (by rw [e1.1]; omega) (by rw [e1.1]; omega) h5 h6 hv' X Y (by omega) (by omega)
    · apply g291_13 hd5 hd6
      have hlt : nI E.2.2.1 - nI 6 < nI i := by
        by_cases c : E.2.2.1 < 6
        · exact sub6 _ c _ (by omega)
        · rw [nI_subI (by omega), nI_ltI (by omega) (by omega)]
          omega
      exact ⟨fun _ => ⟨rfl, by omega, by omega⟩, fun z => absurd hlt z⟩
