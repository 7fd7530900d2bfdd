/-! the whole text: both sides -/
theorem ms_s {A : Nat → Nat → Int32} {B : Nat → Nat → Int64} {m : Nat} : ms A B (m + 1) = if ms A B m = -1 then (if ¬ B 10 m = lN 0 ∧ cfs (B 9) (m / 16) (B 10 m) (A 6 (m / 16)).toNatClampNeg 0 = -1 then A 11 m else -1) else ms A B m := rfl
theorem ms_up {A : Nat → Nat → Int32} {B : Nat → Nat → Int64} {m : Nat} (h : ¬ ms A B m = -1) : ∀ d, ms A B (m + d) = ms A B m := by
  intro d
  induction d with
  | zero => rfl
  | succ d ih =>
    rw [← Nat.add_assoc, ms_s, if_neg (by rw [ih]; exact h), ih]
theorem ms_all {A : Nat → Nat → Int32} {B : Nat → Nat → Int64} {m : Nat} (h : ms A B m = -1) (ha : ∀ r, r < m → ¬ B 10 r = lN 0 → ¬ A 11 r = -1) : ∀ r, r < m → ¬ B 10 r = lN 0 → ¬ cfs (B 9) (r / 16) (B 10 r) (A 6 (r / 16)).toNatClampNeg 0 = -1 := by
  intro r hr hb hc
  have e : ms A B (r + 1) = A 11 r ∨ ¬ ms A B r = -1 := by
    by_cases q : ms A B r = -1
    · left
      rw [ms_s, if_pos q, if_pos ⟨hb, hc⟩]
    · exact Or.inr q
  have n : ¬ ms A B (r + 1) = -1 := by
    rcases e with e | e
    · rw [e]; exact ha r hr hb
    · rw [ms_up e 1]; exact e
  have := ms_up n (m - (r + 1))
  rw [show r + 1 + (m - (r + 1)) = m from by omega, h] at this
  exact n this.symm
/-- where a target is put -/
def opx (A : Nat → Nat → Int32) (r : Nat) : Nat := am_slen.getD (shp (A 4 r).toNatClampNeg) 0 - 1
/-- the operands with the targets of i rows -/
noncomputable def r5 (A : Nat → Nat → Int32) (B : Nat → Nat → Int64) : Nat → Nat → Int32
  | 0 => A 5
  | i + 1 => @ite _ (B 10 i = lN 0) (Classical.propDecidable _) (r5 A B i) (upd (r5 A B i) (i * 3 + opx A i) (cfs (B 9) (i / 16) (B 10 i) (A 6 (i / 16)).toNatClampNeg 0))
theorem r5_at {A : Nat → Nat → Int32} {B : Nat → Nat → Int64} (ho : ∀ r, r < 64 → ¬ B 10 r = lN 0 → opx A r < 3) : ∀ i, i ≤ 64 → ∀ s f, s < 64 → f < 3 → ((s < i ∧ ¬ B 10 s = lN 0 ∧ f = opx A s) → r5 A B i (s * 3 + f) = cfs (B 9) (s / 16) (B 10 s) (A 6 (s / 16)).toNatClampNeg 0) ∧ (¬ (s < i ∧ ¬ B 10 s = lN 0 ∧ f = opx A s) → r5 A B i (s * 3 + f) = A 5 (s * 3 + f)) := by
  intro i
  induction i with
  | zero => intro _ s f _ _; exact ⟨fun z => by omega, fun _ => rfl⟩
  | succ i ih =>
    intro hi s f hs hf
    obtain ⟨i1, i2⟩ := ih (by omega) s f hs hf
    unfold r5
    by_cases hb : B 10 i = lN 0
    · rw [if_pos hb]
      refine ⟨fun z => ?_, fun z => ?_⟩
      · refine i1 ⟨?_, z.2⟩
        refine Nat.lt_of_le_of_ne (by omega) (fun e => z.2.1 ?_)
        rw [e]; exact hb
      · exact i2 (fun q => z ⟨by omega, q.2⟩)
    · have oi := ho i (by omega) hb
      rw [if_neg hb]
      by_cases e : s * 3 + f = i * 3 + opx A i
      · have es : s = i := by omega
        subst es
        have ef : f = opx A s := by omega
        rw [e, upd_eq]
        exact ⟨fun _ => rfl, fun z => absurd ⟨by omega, hb, ef⟩ z⟩
      · rw [upd_ne e]
        refine ⟨fun z => i1 ⟨?_, z.2⟩, fun z => i2 (fun q => z ⟨by omega, q.2⟩)⟩
        refine Nat.lt_of_le_of_ne (by omega) (fun es => e ?_)
        rw [es] at z ⊢
        rw [z.2.2]
theorem c95 {E : am_Ev} {A : Nat → Nat → Int32} {B : Nat → Nat → Int64} {C : Nat → Nat → Option Nat} {Q : am_Qt} (hw : ∀ r, r < 64 → ¬ B 10 r = lN 0 → (∃ L, L ≤ 16 ∧ A 6 (r / 16) = nI L) ∧ (∃ o, o < 13 ∧ (o = 9 ∨ o = 10 ∨ o = 11) ∧ A 4 r = nI (o + 6)) ∧ ¬ A 11 r = -1)
    (hy : ms A B 64 = -1 → Q (.inl (some (.int (nI 0)))) E (u_I A 5 (r5 A B 64)) B C) (hn : ¬ ms A B 64 = -1 → ∀ A', (∀ k, k ≠ 1 → k ≠ 5 → A' k = A k) → A' 1 3 = ms A B 64 → Q (.inl (some (.int (nI 3)))) E A' B C) : am_cl 95 [.ref 1] E A B C Q := by
  show am_ww 95 0 [.ref 1, am_U, am_U, am_U] [] E A B C Q
  apply g95_0
  have key : ∀ m i (d2 d3 : Value), m + i = 64 → am_isL d2 = false → am_isL d3 = false → ms A B i = -1 → am_ww 95 2 [.ref 1, .int (nI i), d2, d3] [] E (u_I A 5 (r5 A B i)) B C Q := by
    intro m
    induction m with
    | zero =>
      intro i d2 d3 hi h2 h3 hms
      have ei : i = 64 := by omega
      subst ei
      apply g95_2 h2 h3
      exact ⟨fun _ => hy hms, fun z => absurd (by decide) z⟩
    | succ m ih =>
      intro i d2 d3 hi h2 h3 hms
      apply g95_2 h2 h3
      rw [nI_leI (by omega) (by omega), nI_clamp (by omega), lg_0, nI_divI (by omega) (by omega)]
      refine ⟨fun z => by omega, fun _ => ⟨vp_in_nI (by omega) (by omega), fun hb => ?_, fun hb => ?_⟩⟩
      · rw [nI_add]
        have e5 : r5 A B (i + 1) = r5 A B i := by
          show @ite _ (B 10 i = lN 0) (Classical.propDecidable _) _ _ = _
          rw [if_pos hb]
        rw [← e5]
        exact ih (i + 1) d2 d3 (by omega) h2 h3 (by rw [ms_z hb]; exact hms)
      · obtain ⟨⟨L, hL, eL⟩, ⟨o, o13, o9, eo⟩, h11⟩ := hw i (by omega) hb
        refine c92 (t := i / 16) (L := L) (by omega) (by rw [u_I_ne (by decide)]; exact eL) hL (q_mkI ?_)
        have ecf : cfs (B 9) (i / 16) (B 10 i) (A 6 (i / 16)).toNatClampNeg 0 = cfs (B 9) (i / 16) (B 10 i) L 0 := by rw [eL, nI_clamp (by omega)]
        have hm1 : ms A B (i + 1) = if cfs (B 9) (i / 16) (B 10 i) L 0 = -1 then A 11 i else -1 := by
          rw [ms_s, if_pos hms, ecf]
          by_cases q : cfs (B 9) (i / 16) (B 10 i) L 0 = -1
          · rw [if_pos ⟨hb, q⟩, if_pos q]
          · rw [if_neg (fun z => q z.2), if_neg q]
        refine ⟨fun ev => ?_, fun ev => ?_⟩
        · rw [if_pos ev] at hm1
          have n1 : ¬ ms A B (i + 1) = -1 := by rw [hm1]; exact h11
          have e64 := ms_up n1 (64 - (i + 1))
          rw [show i + 1 + (64 - (i + 1)) = 64 from by omega] at e64
          rw [u_I_ne (show 11 ≠ 5 by decide), u_I_ne (show 1 ≠ 5 by decide)]
          refine hn (by rw [e64]; exact n1) _ (fun k h1 h5 => by rw [u_I_ne h1, u_I_ne h5]) ?_
          rw [u_I_eq, upd_eq, e64, hm1]
        · rw [if_neg ev] at hm1
          rw [u_I_ne (show 4 ≠ 5 by decide), eo]
          refine c91 (w := o + 6) (by omega) (q_mkR ⟨_, rfl, (shp_lt (o + 6) (by omega)).1, ?_⟩)
          refine c67 (shp_lt (o + 6) (by omega)).1 (q_mkI ?_)
          have sl : 1 ≤ am_slen.getD (shp (o + 6)) 0 ∧ am_slen.getD (shp (o + 6)) 0 ≤ 3 := by
            rcases o9 with e | e | e <;> subst e <;> decide +kernel
          have eox : opx A i = am_slen.getD (shp (o + 6)) 0 - 1 := by
            unfold opx
            rw [eo, nI_clamp (by omega)]
          rw [nI_subI sl.1, nI_mulI, nI_add, nI_clamp (by omega), u_I_eq, uI_0, nI_add]
          refine ⟨vp_in_nI (by omega) (by omega), ?_⟩
          have e5 : r5 A B (i + 1) = upd (r5 A B i) (i * 3 + (am_slen.getD (shp (o + 6)) 0 - 1)) (cfs (B 9) (i / 16) (B 10 i) L 0) := by
            show @ite _ (B 10 i = lN 0) (Classical.propDecidable _) _ _ = _
            rw [if_neg hb, eox, ecf]
          rw [← e5]
          exact ih (i + 1) _ _ (by omega) rfl rfl hm1
  have k0 := key 64 0 am_U am_U rfl rfl rfl rfl
  have e0 : u_I A 5 (r5 A B 0) = A := by
    funext j
    by_cases e : j = 5
    · rw [e, u_I_eq]; rfl
    · rw [u_I_ne e]
  rw [e0] at k0
  exact k0
/-- what both sides hold of a text that is read -/
def FIN (T : Nat) (I A : Nat → Nat → Int32) : Prop := T ≤ 4 ∧ I 103 9 = nI T ∧ A 3 5 = nI T ∧ DS I A ∧ ∀ t, t < T → ∃ L, L ≤ 16 ∧ A 6 t = nI L ∧ I 105 (4 + t) = nI L ∧ ∀ l, l < L → ∃ o, o < 13 ∧ A 4 (16 * t + l) = nI (o + 6) ∧ I 106 (64 + (16 * t + l)) = nI o ∧ OPN o (16 * t + l) I A ∧ (o = 9 → A 5 ((16 * t + l) * 3 + 0) = I 109 (64 + (16 * t + l))) ∧ (o = 10 → A 5 ((16 * t + l) * 3 + 1) = I 109 (64 + (16 * t + l))) ∧ (o = 11 → A 5 ((16 * t + l) * 3 + 2) = I 109 (64 + (16 * t + l))) ∧ (o = 9 ∨ o = 10 ∨ o = 11 → vp_in (I 109 (64 + (16 * t + l))) L)
theorem DT_w {T : Nat} {I A : Nat → Nat → Int32} {B : Nat → Nat → Int64} (h : DT T I A B) : ∀ r, r < 64 → ¬ B 10 r = lN 0 → ∃ L l o, r / 16 < T ∧ L ≤ 16 ∧ A 6 (r / 16) = nI L ∧ r = 16 * (r / 16) + l ∧ l < L ∧ o < 13 ∧ (o = 9 ∨ o = 10 ∨ o = 11) ∧ A 4 r = nI (o + 6) ∧ ¬ A 11 r = -1 := by
  obtain ⟨⟨d1, d2, d3, d4⟩, hds, h35, hgt, hz⟩ := h
  intro r hr hb
  have hT : r / 16 < T := by
    refine Nat.lt_of_not_le (fun q => hb (hz r (by omega) hr).2)
  obtain ⟨L, a1, a2, a3, a4, a5⟩ := d3 _ hT
  have hl : r - 16 * (r / 16) < L := by
    refine Nat.lt_of_not_le (fun q => hb ?_)
    have := a5 (r - 16 * (r / 16)) q (by omega)
    rw [show 16 * (r / 16) + (r - 16 * (r / 16)) = r from by omega] at this
    exact this
  have er : 16 * (r / 16) + (r - 16 * (r / 16)) = r := by omega
  obtain ⟨⟨o, o1, o2, o3, o4, o5, o6⟩, _⟩ := a4 _ hl
  rw [er] at o2 o5 o6
  have ho : o = 9 ∨ o = 10 ∨ o = 11 := by
    refine Classical.byContradiction (fun q => hb (o6 (by omega) (by omega) (by omega)))
  exact ⟨L, r - 16 * (r / 16), o, hT, a1, a2, er.symm, hl, o1, ho, o2, (o5 ho).2⟩
theorem opx_lt {A : Nat → Nat → Int32} {r : Nat} (h : (A 4 r).toNatClampNeg < 19) : opx A r < 3 := by
  have := (shp_lt _ h).2
  unfold opx
  omega
theorem DT_fin {T : Nat} {I A : Nat → Nat → Int32} {B : Nat → Nat → Int64} (h : DT T I A B) (hm : ms A B 64 = -1) : FIN T I (u_I A 5 (r5 A B 64)) := by
  have hw := DT_w h
  obtain ⟨⟨d1, d2, d3, d4⟩, hds, h35, hgt, hz⟩ := h
  have hall := ms_all hm (fun r hr hb => by
    obtain ⟨L, l, o, _, _, _, _, _, _, _, _, h11⟩ := hw r hr hb
    exact h11)
  have hr5 := r5_at (A := A) (B := B) (fun r hr hb => opx_lt (by
    obtain ⟨L, l, o, _, _, _, _, _, o13, _, e4, _⟩ := hw r hr hb
    rw [e4, nI_clamp (by omega)]
    omega)) 64 (Nat.le_refl _)
  refine ⟨d1, d2, by rw [u_I_ne (by decide)]; exact h35, ?_, fun t ht => ?_⟩
  · unfold DS at *
    rw [u_I_ne (by decide), u_I_ne (by decide)]
    exact hds
  · obtain ⟨L, a1, a2, a3, a4, a5⟩ := d3 t ht
    refine ⟨L, a1, by rw [u_I_ne (by decide)]; exact a2, a3, fun l hl => ?_⟩
    obtain ⟨⟨o, o1, o2, o3, o4, o5, o6⟩, o7⟩ := a4 l hl
    have hdiv : (16 * t + l) / 16 = t := by omega
    have hox : opx A (16 * t + l) = am_slen.getD (shp (o + 6)) 0 - 1 := by
      unfold opx
      rw [o2, nI_clamp (by omega)]
    have keep : ∀ f, f < 3 → (o = 9 ∨ o = 10 ∨ o = 11 → ¬ f = opx A (16 * t + l)) → r5 A B 64 ((16 * t + l) * 3 + f) = A 5 ((16 * t + l) * 3 + f) := by
      intro f hf hne
      refine (hr5 (16 * t + l) f (by omega) hf).2 (fun z => ?_)
      by_cases ho : o = 9 ∨ o = 10 ∨ o = 11
      · exact hne ho z.2.2
      · exact z.2.1 (o6 (by omega) (by omega) (by omega))
    have put : (o = 9 ∨ o = 10 ∨ o = 11) → ∀ f, f < 3 → f = opx A (16 * t + l) → r5 A B 64 ((16 * t + l) * 3 + f) = I 109 (64 + (16 * t + l)) := by
      intro ho f hf ef
      rw [(hr5 (16 * t + l) f (by omega) hf).1 ⟨by omega, (o5 ho).1, ef⟩, hdiv, a2, nI_clamp (by omega)]
      exact (o7 (o5 ho).1).symm
    have x9 : o = 9 → opx A (16 * t + l) = 0 := fun e => by rw [hox, e]; decide +kernel
    have x10 : o = 10 → opx A (16 * t + l) = 1 := fun e => by rw [hox, e]; decide +kernel
    have x11 : o = 11 → opx A (16 * t + l) = 2 := fun e => by rw [hox, e]; decide +kernel
    refine ⟨o, o1, by rw [u_I_ne (by decide)]; exact o2, o3, ?_, fun e => ?_, fun e => ?_, fun e => ?_, fun ho => ?_⟩
    · obtain ⟨n1, n2, n3, n4, n5, n6, n7⟩ := o4
      refine ⟨n1, n2, n3, n4, n5, fun h9 h12 => ?_, fun h7 => ?_⟩
      · rw [u_I_eq, keep 0 (by decide) (fun ho z => ?_)]
        · exact n6 h9 h12
        · rcases ho with e | e | e
          · exact h9 e
          · have := x10 e; omega
          · have := x11 e; omega
      · rw [u_I_eq, keep 1 (by decide) (fun ho z => ?_)]
        · exact n7 h7
        · rcases ho with e | e | e
          · have := x9 e; omega
          · omega
          · have := x11 e; omega
    · rw [u_I_eq]; exact put (Or.inl e) 0 (by decide) (x9 e).symm
    · rw [u_I_eq]; exact put (Or.inr (Or.inl e)) 1 (by decide) (x10 e).symm
    · rw [u_I_eq]; exact put (Or.inr (Or.inr e)) 2 (by decide) (x11 e).symm
    · rw [o7 (o5 ho).1]
      have := hall (16 * t + l) (by omega) (o5 ho).1
      rw [hdiv, a2, nI_clamp (by omega)] at this
      rcases cfs_v (F := B 9) (t := t) (x := B 10 (16 * t + l)) L 0 with ⟨z, _⟩ | ⟨j, j1, j2, j3, _⟩
      · exact absurd z this
      · rw [j3]; exact vp_in_nI (by omega) (by omega)
/-- bits that are not set, below m -/
def cnb (x : Int32) : Nat → Nat
  | 0 => 0
  | m + 1 => cnb x m + (if bt x m then 0 else 1)
theorem cnb_le {x : Int32} {k : Nat} (hk : k < 32) : ∀ m, m ≤ 32 → cnb (x ||| (nI 1 <<< (nI k &&& 31))) m ≤ cnb x m ∧ (k < m → bt x k = false → cnb (x ||| (nI 1 <<< (nI k &&& 31))) m + 1 ≤ cnb x m) := by
  intro m
  induction m with
  | zero => intro _; exact ⟨Nat.le_refl _, fun z => by omega⟩
  | succ m ih =>
    intro hm
    obtain ⟨i1, i2⟩ := ih (by omega)
    unfold cnb
    rw [bt_or hk (show m < 32 by omega)]
    by_cases e : m = k
    · rw [decide_eq_true e, Bool.or_true, if_pos rfl]
      refine ⟨by omega, fun _ hb => ?_⟩
      rw [e, hb]
      rw [e] at i1
      simp
      omega
    · rw [decide_eq_false e, Bool.or_false]
      refine ⟨by omega, fun h1 hb => ?_⟩
      have := i2 (by omega) hb
      omega
section
variable {Z : am_Qt → Prop} {A0 : Nat → Nat → Int32} {B0 : Nat → Nat → Int64} {C0 : Nat → Nat → Option Nat} {c : Nat → Nat} {n : Nat} {E : am_Ev} {I0 : Nat → Nat → Int32} {J : Nat → Nat → Int64} {S : Nat → Nat → Option Nat} {Q : am_Qt}
/-- the class has read the text -/
def FG0 (Z : am_Qt → Prop) (A0 : Nat → Nat → Int32) (B0 : Nat → Nat → Int64) (C0 : Nat → Nat → Option Nat) (E : am_Ev) (I : Nat → Nat → Int32) : Prop := ∃ T A B C, CF A0 B0 C0 A B C ∧ FIN T I A ∧ ∀ Q : am_Qt, Q (.inl (some (.int (nI 0)))) E A B C → Z Q
def FX (Z : am_Qt → Prop) (A0 : Nat → Nat → Int32) (B0 : Nat → Nat → Int64) (C0 : Nat → Nat → Option Nat) (E : am_Ev) (I : Nat → Nat → Int32) : Prop := ∃ k A B C, 1 ≤ k ∧ k ≤ 5 ∧ I 99 22 = nI k ∧ A 1 3 = I 99 23 ∧ CF A0 B0 C0 A B C ∧ ∀ Q : am_Qt, Q (.inl (some (.int (nI k)))) E A B C → Z Q
theorem FX_l {I : Nat → Nat → Int32} (h : FL Z A0 B0 C0 E I) : FX Z A0 B0 C0 E I := by
  obtain ⟨k, b, h1, h2, h3, h4, h5, A, B, C, h6, h7, h8⟩ := h
  exact ⟨k, A, B, C, h1, h2, h4, by rw [h7, h5], h6, h8⟩
theorem m188_f {d1 : Value} {x2 : Int32} {I : Nat → Nat → Int32} (hd1 : am_isL d1 = false) (hb : ¬ I 99 22 = 0) (h : am_ww 188 107 [.ref 99, d1, .int x2] [] E I J S Q) : am_ww 188 82 [.ref 99, d1, .int x2] [] E I J S Q := by
  apply g188_82 hd1
  exact ⟨fun z => absurd z hb, fun _ => ⟨fun z => absurd z hb, fun _ => h⟩⟩
theorem m188_e {d1 : Value} (hd1 : am_isL d1 = false) (hS : SW S)
    (hy : ∀ v I', FG0 Z A0 B0 C0 E I' → RFR I0 I' → I' 99 22 = 0 → am_ww 188 107 [.ref 99, d1, .int v] [] E I' J S Q)
    (hb : ∀ v I', FX Z A0 B0 C0 E I' → RFR I0 I' → am_ww 188 107 [.ref 99, d1, .int v] [] E I' J S Q)
    {x2 : Int32} {T p : Nat} {A : Nat → Nat → Int32} {B : Nat → Nat → Int64} {C : Nat → Nat → Option Nat} {I : Nat → Nat → Int32} (hg : GO Z A0 B0 C0 c n E p A B C) (hr : RG c n p I) (h10 : A 1 10 = nI 0) (hdt : DT T I A B) (hbd : BDN x2 (A 1 16)) (f0 : RFR I0 I)
    (hl : ∀ v p' I' A' B' C' T', GO Z A0 B0 C0 c n E p' A' B' C' → RG c n p' I' → A' 1 10 = nI 0 → DT T' I' A' B' → BDN v (A' 1 16) → RFR I I' → (T' = T + 1 ∧ v = x2 ∨ T' = T ∧ ∃ k, k < 20 ∧ bt x2 k = false ∧ v = x2 ||| (nI 1 <<< (nI k &&& 31))) → am_ww 188 82 [.ref 99, d1, .int v] [] E I' J S Q) : am_ww 188 82 [.ref 99, d1, .int x2] [] E I J S Q := by
  have e22 := hr.2.2
  have b3 := tk_5 (c := c) (n := n) (p := p)
  have e18 : I 99 18 = 0 ↔ tkd c n p = 0 := by rw [hr.2.1.2.2.2.1, nI_e0 (by omega)]
  apply g188_82 hd1
  refine ⟨fun _ => ⟨fun t0 => ?_, fun t0 => ?_⟩, fun z => absurd e22 z⟩
  · obtain ⟨A1, B1, tg, ht, hcf, h95, _, _⟩ := GO_tok hg
    have h95 := h95 (e18.mp t0) h10
    have dt1 : DT T I A1 B1 := DT_e hdt (fun _ _ => rfl) rfl rfl (fun j hj => TG_o tg j (by omega)) (fun j hj => tg.2.2.1 j (by omega)) (DS_e hdt.2.1 rfl rfl (TG_o tg 7 (by decide)) (TG_o tg 8 (by decide)))
    have e64 : I 99 29 = ms A1 B1 64 := by
      obtain ⟨⟨d1, d2, d3, d4⟩, _, _, _, hz⟩ := dt1
      rw [d4]
      have := ms_zs (A := A1) (B := B1) (m := 16 * T) (64 - 16 * T) (fun i h1 h2 => (hz i h1 (by omega)).2)
      rw [show 16 * T + (64 - 16 * T) = 64 from by omega] at this
      exact this.symm
    have hw := DT_w dt1
    have hw' : ∀ r, r < 64 → ¬ B1 10 r = lN 0 → (∃ L, L ≤ 16 ∧ A1 6 (r / 16) = nI L) ∧ (∃ o, o < 13 ∧ (o = 9 ∨ o = 10 ∨ o = 11) ∧ A1 4 r = nI (o + 6)) ∧ ¬ A1 11 r = -1 := by
      intro r hr hb
      obtain ⟨L, l, o, _, w2, w3, _, _, w6, w7, w8, w9⟩ := hw r hr hb
      exact ⟨⟨L, w2, w3⟩, ⟨o, w6, w7, w8⟩, w9⟩
    refine ⟨fun _ => ⟨fun e29 => ?_, fun e29 => ?_⟩, fun z => absurd e22 z⟩
    · rw [e64] at e29
      refine hy _ I ⟨T, u_I A1 5 (r5 A1 B1 64), B1, C, CF_tr hcf ⟨fun k hk => u_I_ne (by omega), fun _ _ => rfl, fun _ _ => rfl⟩, DT_fin dt1 e29, fun Q' hq => h95 Q' (c95 hw' (fun _ => q_mkI hq) (fun z => absurd e29 z))⟩ f0 e22
    · have e29' := e29
      rw [e64] at e29'
      have d : am_cl 95 [.ref 1] E A1 B1 C (fun r E' I' J' S' => r = .inl (some (.int (nI 3))) ∧ E' = E ∧ J' = B1 ∧ S' = C ∧ (∀ k, k ≠ 1 → k ≠ 5 → I' k = A1 k) ∧ I' 1 3 = ms A1 B1 64) := c95 hw' (fun z => absurd z e29') (fun _ A' a b => ⟨rfl, rfl, rfl, rfl, a, b⟩)
      obtain ⟨r, E', A', B', C', ⟨er, eE, eB, eC, q1, q2⟩, hQ⟩ := ww_det d
      subst er eE eB eC
      refine hb _ _ ⟨3, A', B', C', by decide, by decide, ?_, ?_, CF_tr hcf ⟨fun k hk => q1 k (by omega) (by omega), fun _ _ => rfl, fun _ _ => rfl⟩, fun Q' hq => h95 Q' (hQ _ (q_mkI hq))⟩ (RFR_tr f0 ?_)
      · rw [u_I_eq, upd_ne (by decide), upd_eq]
      · rw [u_I_eq, upd_eq, e64]; exact q2
      · refine ⟨fun k hk => u_I_ne (by omega), fun k _ => by rw [u_I_ne (by decide)], fun k _ => by rw [u_I_ne (by decide)], fun k _ => by rw [u_I_ne (by decide)], fun j _ _ k _ => by rw [u_I_ne (by omega)], fun k _ _ _ _ _ h22 h23 _ => by rw [u_I_eq, upd_ne h23, upd_ne h22]⟩
  · refine m194 hg hr hS h10 (fun z => t0 (e18.mpr z)) hdt hbd ⟨fun v p' I' A' B' C' T' g r a b d e f => q_mkI (hl v p' I' A' B' C' T' g r a b d e f), fun v I' f x => q_mkI (m188_f hd1 (FL_ne f) (hb v I' (FX_l f) (RFR_tr f0 x)))⟩
theorem m188_82 {d1 : Value} (hd1 : am_isL d1 = false) (hS : SW S)
    (hy : ∀ v I', FG0 Z A0 B0 C0 E I' → RFR I0 I' → I' 99 22 = 0 → am_ww 188 107 [.ref 99, d1, .int v] [] E I' J S Q)
    (hb : ∀ v I', FX Z A0 B0 C0 E I' → RFR I0 I' → am_ww 188 107 [.ref 99, d1, .int v] [] E I' J S Q) :
    ∀ m x2 T p A B C I, cnb x2 20 + (4 - T) ≤ m → GO Z A0 B0 C0 c n E p A B C → RG c n p I → A 1 10 = nI 0 → DT T I A B → BDN x2 (A 1 16) → RFR I0 I → am_ww 188 82 [.ref 99, d1, .int x2] [] E I J S Q := by
  intro m
  induction m with
  | zero =>
    intro x2 T p A B C I hm hg hr h10 hdt hbd f0
    refine m188_e hd1 hS hy hb hg hr h10 hdt hbd f0 (fun v p' I' A' B' C' T' g r a b d e f => ?_)
    have hT' := b.1.1
    exfalso
    rcases f with ⟨f1, f2⟩ | ⟨f1, k, k1, k2, k3⟩
    · omega
    · have := (cnb_le (x := x2) (k := k) (by omega) 20 (by decide)).2 k1 k2
      omega
  | succ m ih =>
    intro x2 T p A B C I hm hg hr h10 hdt hbd f0
    refine m188_e hd1 hS hy hb hg hr h10 hdt hbd f0 (fun v p' I' A' B' C' T' g r a b d e f => ?_)
    have hT' := b.1.1
    refine ih v T' p' A' B' C' I' ?_ g r a b d (RFR_tr f0 e)
    rcases f with ⟨f1, f2⟩ | ⟨f1, k, k1, k2, k3⟩
    · rw [f2]; omega
    · have := (cnb_le (x := x2) (k := k) (by omega) 20 (by decide)).2 k1 k2
      rw [k3]; omega
end
