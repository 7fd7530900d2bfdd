/-! the course: what class and reference hold of a run -/
/-- settings -/
def st_ok (I : Nat → Nat → Int32) : Prop := (∃ q, 1 ≤ q ∧ q ≤ 9 ∧ I 103 0 = nI q) ∧ (∃ q, 1 ≤ q ∧ q ≤ 50 ∧ I 103 2 = nI q) ∧ (∃ q, 2 ≤ q ∧ q ≤ 8 ∧ I 103 3 = nI q)
/-- what a step did -/
def dn (I : Nat → Nat → Int32) (t : Nat) : Prop := ∃ C p, C < (I 103 4).toNatClampNeg ∧ p < (I 105 C).toNatClampNeg ∧ I 119 t = nI (16 * C + p) ∧ I 118 t = nI C ∧ I 33 t = I 119 t ∧ rt I t 44 = nI C ∧ rt I (t - 1) (16 + 6 * C + 4) = nI p
def DG (I : Nat → Nat → Int32) (T : Nat) : Prop := ∀ i, i < T / (I 103 2).toNatClampNeg → I 32 i = dg (I 103 4).toNatClampNeg (rt I ((I 103 2).toNatClampNeg * (i + 1)))
/-- acts: T the time, g how much was given, behind the first j -/
def aw (I : Nat → Nat → Int32) : Nat → Nat → (Nat → Nat) → Prop
  | 0, _, _ => True
  | j + 1, T, g => (I 35 j = I 126 j ∧ I 36 j = I 127 j) ∧ ((I 126 j = -1 ∧ ∃ t, I 127 j = nI t ∧ t ≤ T ∧ I 37 j = rt I t 45 ∧ I 38 j = rt I t 46 ∧ aw I j t g) ∨ (∃ s, s < 3 ∧ I 126 j = nI s ∧ I 127 j = nI T ∧ 0 < g s ∧ (rt I T (48 + s)).toNatClampNeg ≤ g s - 1 ∧ aw I j T (fun z => if z = s then g z - 1 else g z)))
def AC (I : Nat → Nat → Int32) (T ac : Nat) : Prop := I 99 43 = nI ac ∧ I 34 4 = nI ac ∧ ac ≤ 40 ∧ aw I ac T (fun s => (I 124 s).toNatClampNeg)
def CR (I : Nat → Nat → Int32) (T cu ac n : Nat) : Prop := p_in I ∧ p_cl I ∧ st_ok I ∧ RW I T n ∧ sq I n ∧ gq I ∧ (∀ s, s < 3 → rt I T (48 + s) ≤ I 124 s) ∧ (I 99 12 = nI T ∧ I 18 10 = nI T) ∧ (I 99 13 = nI cu ∧ I 18 11 = nI cu ∧ cu ≤ T) ∧ (rm I 20 (rt I T) ∧ I 19 2 = rt I T 45 ∧ I 19 1 = rt I T 46) ∧ (∀ t, 1 ≤ t → t ≤ T → dn I t) ∧ DG I T ∧ AC I T ac ∧ (I 110 0 = I 18 12 ∧ I 110 1 = I 18 13)
/-- the same course -/
def ce (I I' : Nat → Nat → Int32) : Prop := (∀ k, 12 ≤ k ∧ k < 39 ∨ 103 ≤ k ∧ k < 111 ∨ 117 ≤ k ∧ k < 125 ∨ k = 126 ∨ k = 127 → I' k = I k) ∧ I' 99 12 = I 99 12 ∧ I' 99 13 = I 99 13 ∧ I' 99 43 = I 99 43
theorem ce_tr {I I' I'' : Nat → Nat → Int32} (h : ce I I') (h' : ce I' I'') : ce I I'' := ⟨fun k hk => (h'.1 k hk).trans (h.1 k hk), h'.2.1.trans h.2.1, h'.2.2.1.trans h.2.2.1, h'.2.2.2.trans h.2.2.2⟩
theorem ce_fb {I I' : Nat → Nat → Int32} {a c : Nat} (h : fb I I' a c) (ha : 39 ≤ a) (hc : c < 99) : ce I I' := ⟨fun k hk => h k (by omega), by rw [h 99 (by omega)], by rw [h 99 (by omega)], by rw [h 99 (by omega)]⟩
theorem ce_99 {I : Nat → Nat → Int32} {f : Nat} {x : Int32} (h : f ≠ 12 ∧ f ≠ 13 ∧ f ≠ 43) : ce I (u_I I 99 (upd (I 99) f x)) := ⟨fun k hk => u_I_ne (by omega), by rw [u_I_eq, upd_ne (by omega)], by rw [u_I_eq, upd_ne (by omega)], by rw [u_I_eq, upd_ne (by omega)]⟩
theorem aw_e {I I' : Nat → Nat → Int32} (h : ∀ k, k = 35 ∨ k = 36 ∨ k = 37 ∨ k = 38 ∨ k = 117 ∨ k = 126 ∨ k = 127 → I' k = I k) : ∀ j T g, aw I j T g → aw I' j T g := by
  have er : rt I' = rt I := rt_e (h 117 (by omega))
  intro j
  induction j with
  | zero => intro T g _; trivial
  | succ j ih =>
    intro T g hw
    obtain ⟨h1, h2⟩ := hw
    unfold aw
    rw [h 35 (by omega), h 36 (by omega), h 37 (by omega), h 38 (by omega), h 126 (by omega), h 127 (by omega), er]
    refine ⟨h1, ?_⟩
    rcases h2 with ⟨a, t, b, c, d, e, f⟩ | ⟨s, a, b, c, d, e, f⟩
    · exact Or.inl ⟨a, t, b, c, d, e, ih _ _ f⟩
    · exact Or.inr ⟨s, a, b, c, d, e, ih _ _ f⟩
theorem CR_e {I I' : Nat → Nat → Int32} {T cu ac n : Nat} (h : ce I I') (hc : CR I T cu ac n) : CR I' T cu ac n := by
  obtain ⟨h1, h2, h3, h4, h5, h6, h7, h8, h9, h10, h11, h12, h13, h14⟩ := hc
  obtain ⟨e, e12, e13, e43⟩ := h
  have hpe : p_eq I I' := fun k a b => e k (by omega)
  have hq : p_q I I' := ⟨fun k a b => e k (by omega), hpe⟩
  have hh : h_eq I I' := ⟨hpe, e 117 (by omega), e 120 (by omega), e 121 (by omega), e 122 (by omega), e 123 (by omega)⟩
  have er : rt I' = rt I := rt_e hh.2.1
  refine ⟨(p_in_e hpe).mpr h1, (p_cl_e hq).mpr h2, ?_, RW_e hh h4, ?_, (gq_e (fun k hk => e k (by omega))).mpr h6, ?_, ?_, ?_, ?_, ?_, ?_, ?_, ?_⟩
  · unfold st_ok
    rw [e 103 (by omega)]
    exact h3
  · unfold sq
    rw [e 18 (by omega), e 29 (by omega), e 30 (by omega), e 31 (by omega), hh.2.2.1, hh.2.2.2.1, hh.2.2.2.2.1]
    exact h5
  · rw [er, e 124 (by omega)]; exact h7
  · rw [e12, e 18 (by omega)]; exact h8
  · rw [e13, e 18 (by omega)]; exact h9
  · rw [er, e 19 (by omega)]
    exact ⟨rm_e h10.1 (fun k a b => e k (by omega)), h10.2⟩
  · intro t a b
    obtain ⟨C, p, q⟩ := h11 t a b
    refine ⟨C, p, ?_⟩
    rw [er, e 103 (by omega), e 105 (by omega), e 119 (by omega), e 118 (by omega), e 33 (by omega)]
    exact q
  · unfold DG
    rw [er, e 103 (by omega), e 32 (by omega)]
    exact h12
  · obtain ⟨a, b, c, d⟩ := h13
    refine ⟨by rw [e43]; exact a, by rw [e 34 (by omega)]; exact b, c, ?_⟩
    rw [e 124 (by omega)]
    exact aw_e (fun k hk => e k (by omega)) _ _ _ d
  · rw [e 110 (by omega), e 18 (by omega)]; exact h14
/-- the record's inputs -/
theorem CR_vr0 {I : Nat → Nat → Int32} {T cu ac n : Nat} (hc : CR I T cu ac n) : vr0 I T n := by
  obtain ⟨h1, h2, h3, h4, h5, h6, h7, h8, h9, h10, h11, h12, h13, h14⟩ := hc
  refine ⟨h1, h2, h4, h5, fun s hs => ?_⟩
  have v := (h4.2.1 T (Nat.le_refl _)).1.2.2.2 s hs
  refine ⟨h10.1.2.2.2.2.2.2 s hs, v, fun i hi => ?_⟩
  obtain ⟨g1, g2, g3⟩ := h6 s hs
  apply g3 i
  have hl := h7 s hs
  have v' := vb v
  have g2' := vb g2
  rw [vc v, vc g2, nI_leI (by omega) (by omega)] at hl
  have hi' : i < (rt I T (48 + s)).toNatClampNeg := hi
  omega
theorem vw_e {I I' : Nat → Nat → Int32} {T d : Nat} (h : ∀ k, 60 ≤ k ∧ k < 68 ∨ k = 117 → I' k = I k) (hw : vw I T d) : vw I' T d := by
  obtain ⟨w1, w2, w3, w4, w5, w6⟩ := hw
  have er : rt I' = rt I := rt_e (h 117 (by omega))
  refine ⟨?_, w2, ?_, ?_, ?_, ?_⟩
  · rw [h 60 (by omega)]; exact w1
  · rw [h 60 (by omega), er]; exact w3
  · rw [h 60 (by omega)]; exact w4
  · rw [h 60 (by omega)]; exact w5
  · rw [er]; exact rm_e w6 (fun k a b => h k (by omega))
/-- an image: the heap with the kept things in the places of the current ones -/
def sw (I : Nat → Nat → Int32) (k : Nat) : Nat → Int32 := if 18 ≤ k ∧ k < 39 then I (k + 21) else if k = 99 then upd (upd (upd (I 99) 12 (I 99 59)) 13 (I 99 60)) 43 (I 99 61) else if 117 ≤ k ∧ k < 125 then I (k + 17) else if k = 126 then I 142 else if k = 127 then I 143 else if k = 110 then I 144 else I k
/-- the state between two calls, but for the tape and the races -/
def IV (I : Nat → Nat → Int32) : Prop := (∃ T cu ac n d, CR I T cu ac n ∧ vw I T d) ∧ I 99 24 = I 0 12 ∧ ((I 99 58 = nI 0 ∧ I 0 13 = nI 0) ∨ (I 99 58 = nI 1 ∧ I 0 13 = nI 1 ∧ ∃ T cu ac n, CR (sw I) T cu ac n))
