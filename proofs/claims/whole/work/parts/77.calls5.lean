/-! calls that move the cursor: back, on -/
def srD (f : Nat → Int32) (x : Int32) : Nat → Nat
  | 0 => 0
  | s + 1 => if f (s + 1) = x then s + 1 else srD f x s
def srU (f : Nat → Int32) (x : Int32) : Nat → Nat → Nat
  | 0, _ => 0
  | n + 1, s => if f s = x then s else srU f x n (s + 1)
theorem srD_le (f : Nat → Int32) (x : Int32) : ∀ s, srD f x s ≤ s := by
  intro s
  induction s with
  | zero => exact Nat.le_refl _
  | succ s ih =>
    unfold srD
    split
    · exact Nat.le_refl _
    · omega
theorem srU_in (f : Nat → Int32) (x : Int32) : ∀ n s, srU f x n s = 0 ∨ s ≤ srU f x n s ∧ srU f x n s < s + n := by
  intro n
  induction n with
  | zero => intro s; exact Or.inl rfl
  | succ n ih =>
    intro s
    unfold srU
    split
    · exact Or.inr ⟨Nat.le_refl _, by omega⟩
    · rcases ih (s + 1) with h | h
      · exact Or.inl h
      · exact Or.inr (by omega)
theorem srD_c {f g : Nat → Int32} {x : Int32} : ∀ s, (∀ t, 1 ≤ t → t ≤ s → f t = g t) → srD f x s = srD g x s := by
  intro s
  induction s with
  | zero => intro _; rfl
  | succ s ih =>
    intro h
    unfold srD
    rw [h (s + 1) (by omega) (by omega), ih (fun t h1 h2 => h t h1 (by omega))]
theorem srU_c {f g : Nat → Int32} {x : Int32} : ∀ n s, (∀ t, s ≤ t → t < s + n → f t = g t) → srU f x n s = srU g x n s := by
  intro n
  induction n with
  | zero => intro s _; rfl
  | succ n ih =>
    intro s h
    unfold srU
    rw [h s (by omega) (by omega), ih (s + 1) (fun t h1 h2 => h t (by omega) (by omega))]
theorem c131_l {E : am_Ev} {I : Nat → Nat → Int32} {J : Nat → Nat → Int64} {S : Nat → Nat → Option Nat} {Q : am_Qt} {x : Int32} {d1 d2 : Value} (hd1 : am_isL d1 = false) (hd2 : am_isL d2 = false) : ∀ s, s ≤ 400 → (srD (I 33) x s = 0 → Q (.inl (some (.int (-1)))) E I J S) → (0 < srD (I 33) x s → Q (.inl (some (.int (nI (srD (I 33) x s))))) E (u_I I 18 (upd (I 18) 11 (nI (srD (I 33) x s - 1)))) J S) → am_ww 131 14 [.ref 0, d1, d2, .int x, .int (nI s)] [] E I J S Q := by
  intro s
  induction s with
  | zero =>
    intro _ h0 h1
    apply g131_14 hd1 hd2
    exact ⟨fun _ => h0 rfl, fun q => absurd (by decide) q⟩
  | succ s ih =>
    intro hs h0 h1
    apply g131_14 hd1 hd2
    unfold srD at h0 h1
    simp (disch := omega) only [Nat.reduceEqDiff, reduceIte, nI_mulI, nI_add, nI_clamp, nI_ltI, nI_leI, nI_eq, nI_e0, nI_n0, vt, forall_eq, true_and, and_true, true_implies, forall_const, not_true_eq_false, not_false_eq_true, false_implies, implies_true]
    refine ⟨fun q => absurd q (by omega), fun _ => ⟨fun c => ?_, fun c => ?_⟩⟩
    · rw [if_pos c] at h1
      rw [nI_subI (by omega)]
      exact h1 (by omega)
    · rw [if_neg c] at h0 h1
      rw [nI_subI (by omega)]
      exact ih (by omega) h0 h1
theorem m255_l {E : am_Ev} {I : Nat → Nat → Int32} {J : Nat → Nat → Int64} {S : Nat → Nat → Option Nat} {Q : am_Qt} {c e : Nat} (hc : c < 4) (he : e < 16) : ∀ s, s ≤ 400 → (srD (I 119) (nI (16 * c + e)) s = 0 → Q (.inl (some (.int (-1)))) E I J S) → (0 < srD (I 119) (nI (16 * c + e)) s → Q (.inl (some (.int (nI (srD (I 119) (nI (16 * c + e)) s))))) E (u_I I 99 (upd (I 99) 13 (nI (srD (I 119) (nI (16 * c + e)) s - 1)))) J S) → am_ww 255 15 [.ref 99, .int (nI c), .int (nI e), .int (nI s)] [] E I J S Q := by
  intro s
  induction s with
  | zero =>
    intro _ h0 h1
    apply g255_15
    exact ⟨fun _ => h0 rfl, fun q => absurd (by decide) q⟩
  | succ s ih =>
    intro hs h0 h1
    apply g255_15
    unfold srD at h0 h1
    simp (disch := omega) only [Nat.reduceEqDiff, reduceIte, nI_mulI, nI_add, nI_clamp, nI_ltI, nI_leI, nI_eq, nI_e0, nI_n0, vt, forall_eq, true_and, and_true, true_implies, forall_const, not_true_eq_false, not_false_eq_true, false_implies, implies_true]
    refine ⟨fun q => absurd q (nI_nle (by omega) (by omega)), fun _ => ⟨fun c => ?_, fun c => ?_⟩⟩
    · rw [if_pos c] at h1
      rw [nI_subI (by omega)]
      exact h1 (by omega)
    · rw [if_neg c] at h0 h1
      rw [nI_subI (by omega)]
      exact ih (by omega) h0 h1
theorem c134_l {E : am_Ev} {I : Nat → Nat → Int32} {J : Nat → Nat → Int64} {S : Nat → Nat → Option Nat} {Q : am_Qt} {x : Int32} {T : Nat} {d1 d2 : Value} (hd1 : am_isL d1 = false) (hd2 : am_isL d2 = false) (hT : T ≤ 400) (eT : I 18 10 = nI T) : ∀ n s, s + n = T + 1 → 1 ≤ s → (srU (I 33) x n s = 0 → Q (.inl (some (.int (-1)))) E I J S) → (0 < srU (I 33) x n s → Q (.inl (some (.int (nI (srU (I 33) x n s))))) E (u_I I 18 (upd (I 18) 11 (nI (srU (I 33) x n s)))) J S) → am_ww 134 16 [.ref 0, d1, d2, .int x, .int (nI s)] [] E I J S Q := by
  intro n
  induction n with
  | zero =>
    intro s es _ h0 h1
    apply g134_16 hd1 hd2
    rw [eT]
    simp (disch := omega) only [Nat.reduceEqDiff, reduceIte, nI_mulI, nI_add, nI_clamp, nI_ltI, nI_leI, nI_eq, nI_e0, nI_n0, vt, forall_eq, true_and, and_true, true_implies, forall_const, not_true_eq_false, not_false_eq_true, false_implies, implies_true]
    exact ⟨fun _ => h0 rfl, fun q => absurd (by omega) q⟩
  | succ n ih =>
    intro s es s1 h0 h1
    apply g134_16 hd1 hd2
    unfold srU at h0 h1
    rw [eT]
    simp (disch := omega) only [Nat.reduceEqDiff, reduceIte, nI_mulI, nI_add, nI_clamp, nI_ltI, nI_leI, nI_eq, nI_e0, nI_n0, vt, forall_eq, true_and, and_true, true_implies, forall_const, not_true_eq_false, not_false_eq_true, false_implies, implies_true]
    refine ⟨fun q => absurd q (by omega), fun _ => ⟨fun c => ?_, fun c => ?_⟩⟩
    · rw [if_pos c] at h1
      exact h1 (by omega)
    · rw [if_neg c] at h0 h1
      exact ih (s + 1) (by omega) (by omega) h0 h1
theorem m257_l {E : am_Ev} {I : Nat → Nat → Int32} {J : Nat → Nat → Int64} {S : Nat → Nat → Option Nat} {Q : am_Qt} {c e T : Nat} (hc : c < 4) (he : e < 16) (hT : T ≤ 400) (eT : I 99 12 = nI T) : ∀ n s, s + n = T + 1 → 1 ≤ s → (srU (I 119) (nI (16 * c + e)) n s = 0 → Q (.inl (some (.int (-1)))) E I J S) → (0 < srU (I 119) (nI (16 * c + e)) n s → Q (.inl (some (.int (nI (srU (I 119) (nI (16 * c + e)) n s))))) E (u_I I 99 (upd (I 99) 13 (nI (srU (I 119) (nI (16 * c + e)) n s)))) J S) → am_ww 257 17 [.ref 99, .int (nI c), .int (nI e), .int (nI s)] [] E I J S Q := by
  intro n
  induction n with
  | zero =>
    intro s es _ h0 h1
    apply g257_17
    rw [eT]
    simp (disch := omega) only [Nat.reduceEqDiff, reduceIte, nI_mulI, nI_add, nI_clamp, nI_ltI, nI_leI, nI_eq, nI_e0, nI_n0, vt, forall_eq, true_and, and_true, true_implies, forall_const, not_true_eq_false, not_false_eq_true, false_implies, implies_true]
    exact ⟨fun _ => h0 rfl, fun q => absurd (by omega) q⟩
  | succ n ih =>
    intro s es s1 h0 h1
    apply g257_17
    unfold srU at h0 h1
    rw [eT]
    simp (disch := omega) only [Nat.reduceEqDiff, reduceIte, nI_mulI, nI_add, nI_clamp, nI_ltI, nI_leI, nI_eq, nI_e0, nI_n0, vt, forall_eq, true_and, and_true, true_implies, forall_const, not_true_eq_false, not_false_eq_true, false_implies, implies_true]
    refine ⟨fun q => absurd q (by omega), fun _ => ⟨fun c => ?_, fun c => ?_⟩⟩
    · rw [if_pos c] at h1
      exact h1 (by omega)
    · rw [if_neg c] at h0 h1
      exact ih (s + 1) (by omega) (by omega) h0 h1
/-- only the view, the code, the cursor and the law's own cell have changed -/
def quietc (I I' : Nat → Nat → Int32) (cu : Nat) : Prop := (∀ k, k < 60 ∨ 67 < k → k ≠ 99 → k ≠ 18 → I' k = I k) ∧ (∀ f, f ≠ 3 → f ≠ 13 → I' 99 f = I 99 f) ∧ (∀ f, f ≠ 11 → I' 18 f = I 18 f) ∧ I' 99 13 = nI cu ∧ I' 18 11 = nI cu
def Hc (I : Nat → Nat → Int32) (J : Nat → Nat → Int64) (S : Nat → Nat → Option Nat) (E : am_Ev) (T : Nat) (x4 : Int32) (Q : am_Qt) : Prop := ∀ E' I' J' cu', E' = E ∨ E' = Ex E → cu' ≤ T → quietc I I' cu' → (∃ d', vw I' T d') → Jq J J' → lk x4 E' I' J' S Q
/-- there is no such instruction -/
def noI (I : Nat → Nat → Int32) (x y : Int32) : Prop := (x < 0 ∨ nI (I 103 4).toNatClampNeg ≤ x) ∨ (∃ c, c < (I 103 4).toNatClampNeg ∧ x = nI c ∧ (y < 0 ∨ I 105 c ≤ y))
theorem ins_rng {I : Nat → Nat → Int32} (hp : p_in I) (x y : Int32) : noI I x y ∨ ∃ c e, c < (I 103 4).toNatClampNeg ∧ e < (I 105 c).toNatClampNeg ∧ x = nI c ∧ y = nI e := by
  have hm := vb hp.1
  rcases rng x (I 103 4).toNatClampNeg (by omega) with ⟨c, hc, rfl⟩ | hb
  · have hv := (hp.2 c hc).1
    have hv' := vb hv
    rcases rng y (I 105 c).toNatClampNeg (by omega) with ⟨e, he, rfl⟩ | hb
    · exact Or.inr ⟨c, e, hc, he, rfl, rfl⟩
    · refine Or.inl (Or.inr ⟨c, hc, rfl, ?_⟩)
      rw [vc hv]
      exact hb
  · exact Or.inl (Or.inl hb)
theorem ins_P {I : Nat → Nat → Int32} {x y : Int32} {B X : Prop} (hp : p_in I) (hb : noI I x y) (t : B) : (x < (nI 0) → B) ∧ (¬ x < (nI 0) → (((((I 103) 4) - (nI 1)) < x → B) ∧ (¬ (((I 103) 4) - (nI 1)) < x → (vp_in x 8 ∧ (∀ w2 : Int32, w2 = (((I 105) x.toNatClampNeg) - (nI 1)) → ((y < (nI 0) → B) ∧ (¬ y < (nI 0) → ((w2 < y → B) ∧ (¬ w2 < y → X))))))))) := by
  have hm := vb hp.1
  refine ⟨fun _ => t, fun c0 => ⟨fun _ => t, fun c1 => ?_⟩⟩
  rw [nI_0] at c0
  rw [vc hp.1, sub1 c0 (by omega)] at c1
  rcases hb with hb | ⟨c, hc, rfl, hb⟩
  · exact (ctr hb c0 (Int32.not_le.mp c1)).elim
  · refine ⟨vp_in_nI (by omega) (by omega), ?_⟩
    intro w e
    rw [nI_clamp (by omega)] at e
    have hv := (hp.2 c hc).1
    have hv' := vb hv
    rw [vc hv] at e hb
    subst e
    refine ⟨fun _ => t, fun c2 => ⟨fun _ => t, fun c3 => ?_⟩⟩
    rw [nI_0] at c2
    rw [sub1 c2 (by omega)] at c3
    exact (ctr hb c2 (Int32.not_le.mp c3)).elim
theorem ins_G {I : Nat → Nat → Int32} {c e : Nat} {B X : Prop} (hp : p_in I) (hc : c < (I 103 4).toNatClampNeg) (he : e < (I 105 c).toNatClampNeg) (t : X) : (nI c < (nI 0) → B) ∧ (¬ nI c < (nI 0) → (((((I 103) 4) - (nI 1)) < nI c → B) ∧ (¬ (((I 103) 4) - (nI 1)) < nI c → (vp_in (nI c) 8 ∧ (∀ w2 : Int32, w2 = (((I 105) (nI c).toNatClampNeg) - (nI 1)) → ((nI e < (nI 0) → B) ∧ (¬ nI e < (nI 0) → ((w2 < nI e → B) ∧ (¬ w2 < nI e → X))))))))) := by
  have hm := vb hp.1
  have hv := (hp.2 c hc).1
  have hv' := vb hv
  refine ⟨fun q => absurd (by rw [nI_0] at q; exact q) (nI_pos (by omega)), fun _ => ⟨fun q => ?_, fun _ => ⟨vp_in_nI (by omega) (by omega), ?_⟩⟩⟩
  · rw [vc hp.1, sub1 (nI_pos (by omega)) (by omega), nI_leI (by omega) (by omega)] at q
    omega
  · intro w ew
    rw [nI_clamp (by omega), vc hv] at ew
    subst ew
    refine ⟨fun q => absurd (by rw [nI_0] at q; exact q) (nI_pos (by omega)), fun _ => ⟨fun q => ?_, fun _ => t⟩⟩
    rw [sub1 (nI_pos (by omega)) (by omega), nI_leI (by omega) (by omega)] at q
    omega
theorem ins_CB {I : Nat → Nat → Int32} {x y : Int32} {B X : Prop} (hp : p_in I) (hc : p_cl I) (hb : noI I x y) (t : B) : (x < 0 → B) ∧ (¬ x < 0 → ((((I 12) 5) ≤ x → B) ∧ (¬ ((I 12) 5) ≤ x → ((y < 0 → B) ∧ (¬ y < 0 → (vp_in x 4 ∧ ((y < ((I 15) x.toNatClampNeg) → X) ∧ (¬ y < ((I 15) x.toNatClampNeg) → B)))))))) := by
  have hm := vb hp.1
  rw [hc.1, vc hp.1]
  refine ⟨fun _ => t, fun c0 => ⟨fun _ => t, fun c1 => ?_⟩⟩
  rcases hb with hb | ⟨c, hcc, rfl, hb⟩
  · exact (ctr hb c0 (Int32.not_le.mp c1)).elim
  · refine ⟨fun _ => t, fun c2 => ⟨vp_in_nI (by omega) (by omega), fun c3 => ?_, fun _ => t⟩⟩
    rw [nI_clamp (by omega), (hc.2.1 c hcc).1] at c3
    rcases hb with q | q
    · exact (c2 q).elim
    · exact (Int32.not_lt.mpr q c3).elim
theorem ins_CG {I : Nat → Nat → Int32} {c e : Nat} {B X : Prop} (hp : p_in I) (hc : p_cl I) (hcc : c < (I 103 4).toNatClampNeg) (he : e < (I 105 c).toNatClampNeg) (t : X) : (nI c < 0 → B) ∧ (¬ nI c < 0 → ((((I 12) 5) ≤ nI c → B) ∧ (¬ ((I 12) 5) ≤ nI c → ((nI e < 0 → B) ∧ (¬ nI e < 0 → (vp_in (nI c) 4 ∧ ((nI e < ((I 15) (nI c).toNatClampNeg) → X) ∧ (¬ nI e < ((I 15) (nI c).toNatClampNeg) → B)))))))) := by
  have hm := vb hp.1
  have hv := (hp.2 c hcc).1
  have hv' := vb hv
  rw [hc.1, vc hp.1, nI_clamp (show c < 2 ^ 31 by omega), (hc.2.1 c hcc).1, vc hv]
  simp (disch := omega) only [Nat.reduceEqDiff, reduceIte, nI_mulI, nI_add, nI_clamp, nI_ltI, nI_leI, nI_eq, nI_e0, nI_n0, vt, forall_eq, true_and, and_true, true_implies, forall_const, not_true_eq_false, not_false_eq_true, false_implies, implies_true]
  exact ⟨fun q => absurd q (by omega), fun _ => ⟨fun _ => t, fun q => absurd he q⟩⟩
theorem tc_bad {E : am_Ev} {I : Nat → Nat → Int32} {J : Nat → Nat → Int64} {S : Nat → Nat → Option Nat} {Q : am_Qt} {T cu d : Nat} {x4 v : Int32} (hcu : I 99 13 = nI cu ∧ I 18 11 = nI cu ∧ cu ≤ T) (hvw : vw I T d) (h : Hc I J S E T x4 Q) : q_I (fun v2 E2 I2 J2 S2 => tl (nI 1) v2 x4 E2 I2 J2 S2 Q) (.inl (some (.int v))) (Ex E) (u_I I 99 (upd (upd (I 99) 3 (nI 0)) 3 (nI 1))) J S := by
  rw [upd_upd]
  exact q_mkI (tl_bad (by omega) (by omega) (by rw [u_I_eq, upd_eq]) (h _ _ _ cu (Or.inr rfl) hcu.2.2 ⟨fun k hk hk' _ => u_I_ne hk', fun f hf' _ => by rw [u_I_eq, upd_ne hf'], fun f _ => by rw [u_I_ne (by decide)], by rw [u_I_eq, upd_ne (by omega)]; exact hcu.1, by rw [u_I_ne (by decide)]; exact hcu.2.1⟩ ⟨d, vw_e (fun k hk => u_I_ne (by omega)) hvw⟩ Jq_id))
