/-! races: vector clocks -/
def aT (I : Nat → Nat → Int32) (t : Nat) : Nat := (I 119 t).toNatClampNeg
def cT (I : Nat → Nat → Int32) (t : Nat) : Nat := aT I t / 16
def lT (I : Nat → Nat → Int32) (t : Nat) : Nat := (I 107 (aT I t)).toNatClampNeg
def isLk (I : Nat → Nat → Int32) (t : Nat) : Prop := I 106 (aT I t) = nI 7
def rel (I : Nat → Nat → Int32) (t : Nat) : Prop := I 106 (aT I t) = nI 8 ∧ rt I (t - 1) (40 + lT I t) = nI (cT I t)
noncomputable def vrow (I : Nat → Nat → Int32) (t : Nat) (p : (Nat → Nat → Nat) × (Nat → Nat → Nat)) (i : Nat) : Nat := @ite _ (isLk I t) (Classical.propDecidable _) (max (if i = cT I t then t else p.1 (cT I t) i) (p.2 (lT I t) i)) (if i = cT I t then t else p.1 (cT I t) i)
noncomputable def vc_ (I : Nat → Nat → Int32) : Nat → (Nat → Nat → Nat) × (Nat → Nat → Nat)
  | 0 => (fun _ _ => 0, fun _ _ => 0)
  | s + 1 => (fun c i => if c = cT I (s + 1) then vrow I (s + 1) (vc_ I s) i else (vc_ I s).1 c i, fun l i => @ite _ (rel I (s + 1) ∧ l = lT I (s + 1)) (Classical.propDecidable _) (vrow I (s + 1) (vc_ I s) i) ((vc_ I s).2 l i))
noncomputable def V (I : Nat → Nat → Int32) (t i : Nat) : Nat := vrow I t (vc_ I (t - 1)) i
section
variable {I : Nat → Nat → Int32} {s t c l i e o : Nat}
theorem vcT_y : (vc_ I (s + 1)).1 (cT I (s + 1)) i = V I (s + 1) i := if_pos rfl
theorem vcT_n (h : c ≠ cT I (s + 1)) : (vc_ I (s + 1)).1 c i = (vc_ I s).1 c i := if_neg h
theorem vcL_y (h : rel I (s + 1)) : (vc_ I (s + 1)).2 (lT I (s + 1)) i = V I (s + 1) i := if_pos ⟨h, rfl⟩
theorem vcL_n (h : ¬ (rel I (s + 1) ∧ l = lT I (s + 1))) : (vc_ I (s + 1)).2 l i = (vc_ I s).2 l i := if_neg h
theorem V_lk (h : isLk I (s + 1)) : V I (s + 1) i = max (if i = cT I (s + 1) then s + 1 else (vc_ I s).1 (cT I (s + 1)) i) ((vc_ I s).2 (lT I (s + 1)) i) := if_pos h
theorem V_nl (h : ¬ isLk I (s + 1)) : V I (s + 1) i = (if i = cT I (s + 1) then s + 1 else (vc_ I s).1 (cT I (s + 1)) i) := if_neg h
/-- all are steps that were -/
theorem vc_le (I : Nat → Nat → Int32) : ∀ s c i, (vc_ I s).1 c i ≤ s ∧ (vc_ I s).2 c i ≤ s := by
  intro s
  induction s with
  | zero => intro c i; exact ⟨Nat.le_refl _, Nat.le_refl _⟩
  | succ s ih =>
    intro c i
    have v : V I (s + 1) i ≤ s + 1 := by
      have a := (ih (cT I (s + 1)) i).1
      have b := (ih (lT I (s + 1)) i).2
      by_cases h : isLk I (s + 1)
      · rw [V_lk h]
        refine Nat.max_le.mpr ⟨?_, by omega⟩
        split <;> omega
      · rw [V_nl h]
        split <;> omega
    refine ⟨?_, ?_⟩
    · by_cases h : c = cT I (s + 1)
      · rw [h, vcT_y]; exact v
      · rw [vcT_n h]; have := (ih c i).1; omega
    · by_cases h : rel I (s + 1) ∧ c = lT I (s + 1)
      · rw [h.2, vcL_y h.1]; exact v
      · rw [vcL_n h]; have := (ih c i).2; omega
theorem V_le (ht : 1 ≤ t) : V I t i ≤ t := by
  obtain ⟨s, rfl⟩ : ∃ s, t = s + 1 := ⟨t - 1, by omega⟩
  rw [← vcT_y]
  exact (vc_le I (s + 1) _ i).1
theorem V_self (ht : 1 ≤ t) : V I t (cT I t) = t := by
  obtain ⟨s, rfl⟩ : ∃ s, t = s + 1 := ⟨t - 1, by omega⟩
  by_cases h : isLk I (s + 1)
  · rw [V_lk h, if_pos rfl]
    have := (vc_le I s (lT I (s + 1)) (cT I (s + 1))).2
    exact Nat.max_eq_left (by omega)
  · rw [V_nl h, if_pos rfl]
/-- a thread's own clock grows -/
theorem vcT_mono : (vc_ I s).1 c i ≤ (vc_ I (s + 1)).1 c i := by
  by_cases h : c = cT I (s + 1)
  · subst h
    rw [vcT_y]
    have a := (vc_le I s (cT I (s + 1)) i).1
    have b : (vc_ I s).1 (cT I (s + 1)) i ≤ (if i = cT I (s + 1) then s + 1 else (vc_ I s).1 (cT I (s + 1)) i) := by split <;> omega
    by_cases h : isLk I (s + 1)
    · rw [V_lk h]; exact Nat.le_trans b (Nat.le_max_left _ _)
    · rw [V_nl h]; exact b
  · rw [vcT_n h]; exact Nat.le_refl _
end
/-- who holds a lock knows what its last release knew -/
def HL (I : Nat → Nat → Int32) (s : Nat) : Prop := ∀ l, l < 4 → ∀ c, c < 4 → rt I s (40 + l) = nI c → ∀ i, (vc_ I s).2 l i ≤ (vc_ I s).1 c i
theorem HL_all {I : Nat → Nat → Int32} {T n : Nat} (hp : p_in I) (hcl : p_cl I) (hR : RW I T n) (hd : ∀ t, 1 ≤ t → t ≤ T → dn I t) : ∀ s, s ≤ T → HL I s := by
  intro s
  induction s with
  | zero =>
    intro _ l hl c hc e i
    exact Nat.zero_le _
  | succ s ih =>
    intro hs l hl c hc e i
    obtain ⟨C, p, n', d1, d2, d3, d4', d5, d6, d7, d8, d9⟩ := own_step hp hcl hR (hd (s + 1) (by omega) (by omega)) (by omega) (by omega)
    have ea : aT I (s + 1) = 16 * C + p := by unfold aT; rw [d5, nI_clamp (by omega)]
    have ec : cT I (s + 1) = C := by unfold cT; rw [ea]; omega
    rw [d9 l hl, Nat.add_sub_cancel] at e
    have ih := ih (by omega)
    -- the lock's clock is the old one, and c held it before
    have old : rt I s (40 + l) = nI c → ¬ (rel I (s + 1) ∧ l = lT I (s + 1)) → (vc_ I (s + 1)).2 l i ≤ (vc_ I (s + 1)).1 c i := by
      intro h1 h2
      rw [vcL_n h2]
      exact Nat.le_trans (ih l hl c hc h1 i) vcT_mono
    have lt : lT I (s + 1) = (I 107 (16 * C + p)).toNatClampNeg := by unfold lT; rw [ea]
    unfold ow at e
    by_cases c7 : I 106 (16 * C + p) = nI 7
    · rw [if_pos c7] at e
      have nr : ¬ (rel I (s + 1) ∧ l = lT I (s + 1)) := fun q => by
        have := q.1.1
        rw [ea, c7, nI_eq (by omega) (by omega)] at this
        omega
      by_cases cl : l = (I 107 (16 * C + p)).toNatClampNeg
      · rw [if_pos cl, nI_eq (by omega) (by omega)] at e
        rw [vcL_n nr, ← e, ← ec, vcT_y, V_lk (show isLk I (s + 1) by unfold isLk; rw [ea]; exact c7), lt, ← cl]
        exact Nat.le_max_right _ _
      · rw [if_neg cl] at e
        exact old e nr
    · rw [if_neg c7] at e
      by_cases c8 : I 106 (16 * C + p) = nI 8
      · rw [if_pos c8] at e
        by_cases cl : l = (I 107 (16 * C + p)).toNatClampNeg
        · rw [if_pos cl] at e
          by_cases co : rt I s (40 + l) = nI C
          · rw [if_pos co] at e
            exact absurd e.symm (nI_nm (by omega))
          · rw [if_neg co] at e
            refine old e (fun q => co ?_)
            have := q.1.2
            rw [Nat.add_sub_cancel, ← q.2, ec] at this
            exact this
        · rw [if_neg cl] at e
          exact old e (fun q => cl (by rw [← lt]; exact q.2))
      · rw [if_neg c8] at e
        exact old e (fun q => c8 (by rw [← ea]; exact q.1.1))
/-- the clocks are above those of all earlier steps -/
def MO (I : Nat → Nat → Int32) (s : Nat) : Prop := (∀ o, 1 ≤ o → o ≤ s → ∀ i, V I o i ≤ (vc_ I s).1 (cT I o) i) ∧ (∀ o, 1 ≤ o → o ≤ s → rel I o → ∀ i, V I o i ≤ (vc_ I s).2 (lT I o) i) ∧ (∀ c i, (vc_ I s).1 c i = 0 ∨ ∃ o, 1 ≤ o ∧ o ≤ s ∧ cT I o = c ∧ V I o i = (vc_ I s).1 c i) ∧ (∀ l i, (vc_ I s).2 l i = 0 ∨ ∃ o, 1 ≤ o ∧ o ≤ s ∧ rel I o ∧ lT I o = l ∧ V I o i = (vc_ I s).2 l i)
theorem MO_all {I : Nat → Nat → Int32} {T n : Nat} (hp : p_in I) (hcl : p_cl I) (hR : RW I T n) (hd : ∀ t, 1 ≤ t → t ≤ T → dn I t) : ∀ s, s ≤ T → MO I s := by
  intro s
  induction s with
  | zero =>
    intro _
    exact ⟨fun o a b => absurd b (by omega), fun o a b => absurd b (by omega), fun c i => Or.inl rfl, fun l i => Or.inl rfl⟩
  | succ s ih =>
    intro hs
    obtain ⟨m1, m2, m3, m4⟩ := ih (by omega)
    have hl := HL_all hp hcl hR hd s (by omega)
    refine ⟨fun o a b i => ?_, fun o a b hr i => ?_, fun c i => ?_, fun l i => ?_⟩
    · by_cases ce : o = s + 1
      · rw [ce, vcT_y]; exact Nat.le_refl _
      · exact Nat.le_trans (m1 o a (by omega) i) vcT_mono
    · by_cases ce : o = s + 1
      · rw [ce]; rw [ce] at hr; rw [vcL_y hr]; exact Nat.le_refl _
      · have old := m2 o a (by omega) hr i
        by_cases cr : rel I (s + 1) ∧ lT I o = lT I (s + 1)
        · rw [cr.2, vcL_y cr.1]
          rw [cr.2] at old
          -- the one who releases knows what the last release knew
          obtain ⟨C, p, n', d1, d2, d3, d4', d5, d6, d7, d8, d9⟩ := own_step hp hcl hR (hd (s + 1) (by omega) (by omega)) (by omega) (by omega)
          have ea : aT I (s + 1) = 16 * C + p := by unfold aT; rw [d5, nI_clamp (by omega)]
          have ec : cT I (s + 1) = C := by unfold cT; rw [ea]; omega
          have h8 := cr.1.1
          rw [ea] at h8
          obtain ⟨o', ho', eo', q1, q2, _⟩ := d7
          rw [eo', nI_eq (by omega) (by omega)] at h8
          have lb : lT I (s + 1) < 4 := by unfold lT; rw [ea]; exact vb (q2 (by omega) (by omega) (by omega))
          have hown := cr.1.2
          rw [Nat.add_sub_cancel] at hown
          have k := hl (lT I (s + 1)) lb (cT I (s + 1)) (by omega) hown i
          have nl : ¬ isLk I (s + 1) := by unfold isLk; rw [cr.1.1, nI_eq (by omega) (by omega)]; omega
          rw [V_nl nl]
          have := (vc_le I s (cT I (s + 1)) i).1
          split <;> omega
        · rw [vcL_n (fun q => cr q)]; exact old
    · by_cases ce : c = cT I (s + 1)
      · rw [ce, vcT_y]; exact Or.inr ⟨s + 1, by omega, by omega, rfl, rfl⟩
      · rw [vcT_n ce]
        rcases m3 c i with z | ⟨o, a, b, d, e⟩
        · exact Or.inl z
        · exact Or.inr ⟨o, a, by omega, d, e⟩
    · by_cases ce : rel I (s + 1) ∧ l = lT I (s + 1)
      · rw [ce.2, vcL_y ce.1]; exact Or.inr ⟨s + 1, by omega, by omega, ce.1, rfl, rfl⟩
      · rw [vcL_n ce]
        rcases m4 l i with z | ⟨o, a, b, d, f, e⟩
        · exact Or.inl z
        · exact Or.inr ⟨o, a, by omega, d, f, e⟩
/-- what is before a step at once -/
def bef (I : Nat → Nat → Int32) (o s : Nat) : Prop := cT I o = cT I s ∨ (isLk I s ∧ rel I o ∧ lT I o = lT I s)
/-- what is ahead of a step, by clocks and by steps -/
theorem ahead_iff {I : Nat → Nat → Int32} {s e : Nat} (hm : MO I s) (h1 : 1 ≤ e) : (∃ o, 1 ≤ o ∧ o < s + 1 ∧ bef I o (s + 1) ∧ e ≤ o ∧ e ≤ V I o (cT I e)) ↔ (e < s + 1 ∧ e ≤ V I (s + 1) (cT I e)) := by
  obtain ⟨m1, m2, m3, m4⟩ := hm
  constructor
  · rintro ⟨o, o1, o2, ob, oe, ov⟩
    refine ⟨by omega, ?_⟩
    rcases ob with ob | ⟨k1, k2, k3⟩
    · have a := m1 o o1 (by omega) (cT I e)
      rw [ob] at a
      have b : (vc_ I s).1 (cT I (s + 1)) (cT I e) ≤ V I (s + 1) (cT I e) := by rw [← vcT_y]; exact vcT_mono
      omega
    · have a := m2 o o1 (by omega) k2 (cT I e)
      rw [k3] at a
      rw [V_lk k1]
      exact Nat.le_trans (Nat.le_trans ov a) (Nat.le_max_right _ _)
  · rintro ⟨e1, e2⟩
    by_cases cs : cT I e = cT I (s + 1)
    · refine ⟨e, h1, by omega, Or.inl cs, Nat.le_refl _, ?_⟩
      rw [V_self h1]
      exact Nat.le_refl _
    · have byT : e ≤ (vc_ I s).1 (cT I (s + 1)) (cT I e) → ∃ o, 1 ≤ o ∧ o < s + 1 ∧ bef I o (s + 1) ∧ e ≤ o ∧ e ≤ V I o (cT I e) := by
        intro z
        rcases m3 (cT I (s + 1)) (cT I e) with q | ⟨o, a, b, d, f⟩
        · omega
        · refine ⟨o, a, by omega, Or.inl d, ?_, by omega⟩
          have := V_le (I := I) (i := cT I e) a
          omega
      by_cases k : isLk I (s + 1)
      · rw [V_lk k, if_neg cs] at e2
        rcases Nat.le_total ((vc_ I s).1 (cT I (s + 1)) (cT I e)) ((vc_ I s).2 (lT I (s + 1)) (cT I e)) with z | z
        · rw [Nat.max_eq_right z] at e2
          rcases m4 (lT I (s + 1)) (cT I e) with q | ⟨o, a, b, d, f, g⟩
          · omega
          · refine ⟨o, a, by omega, Or.inr ⟨k, d, f⟩, ?_, by omega⟩
            have := V_le (I := I) (i := cT I e) a
            omega
        · rw [Nat.max_eq_left z] at e2
          exact byT e2
      · rw [V_nl k, if_neg cs] at e2
        exact byT e2
/-! longs by their bits -/
def bl (x : Int64) (k : Nat) : Bool := x.toBitVec.getLsbD k
theorem bl_or (x y : Int64) (k : Nat) : bl (x ||| y) k = (bl x k || bl y k) := by unfold bl; rw [Int64.toBitVec_or, BitVec.getLsbD_or]
theorem bl_0 (k : Nat) : bl (lN 0) k = false := BitVec.getLsbD_zero
theorem bl_ext {x y : Int64} (h : ∀ i, i < 64 → bl x i = bl y i) : x = y := Int64.toBitVec_inj.mp (BitVec.eq_of_getLsbD_eq (fun i hi => h i hi))
theorem sl_l : ∀ n, n < 64 → (((nI n).toInt64 &&& 63).toBitVec.smod 64).toNat = n := by decide +kernel
theorem bl_1 : ∀ k, k < 64 → bl (lN 1) k = decide (k = 0) := by decide +kernel
theorem bl_shl (n : Nat) (hn : n < 64) (x : Int64) {i : Nat} (hi : i < 64) : bl (x <<< ((nI n).toInt64 &&& 63)) i = (decide (n ≤ i) && bl x (i - n)) := by
  unfold bl
  rw [Int64.toBitVec_shiftLeft]
  show (x.toBitVec <<< (((nI n).toInt64 &&& 63).toBitVec.smod 64).toNat).getLsbD i = _
  rw [sl_l n hn, BitVec.getLsbD_shiftLeft]
  rcases Nat.lt_or_ge i n with h | h
  · simp [h, Nat.not_le.mpr h]
  · simp [hi, h, Nat.not_lt.mpr h]
theorem bl_bit (n : Nat) (hn : n < 64) {i : Nat} (hi : i < 64) : bl (lN 1 <<< ((nI n).toInt64 &&& 63)) i = decide (i = n) := by
  rw [bl_shl n hn _ hi]
  by_cases c : n ≤ i
  · rw [decide_eq_true c, Bool.true_and, bl_1 _ (by omega)]
    exact decide_eq_decide.mpr (by omega)
  · rw [decide_eq_false c, Bool.false_and, decide_eq_false (by omega)]
theorem bl_sshr (n : Nat) (hn : n < 64) (x : Int64) {i : Nat} (hi : i < 64) : bl (x >>> ((nI n).toInt64 &&& 63)) i = if n + i < 64 then bl x (n + i) else bl x 63 := by
  unfold bl
  rw [Int64.toBitVec_shiftRight]
  show (x.toBitVec.sshiftRight (((nI n).toInt64 &&& 63).toBitVec.smod 64).toNat).getLsbD i = _
  rw [sl_l n hn, BitVec.getLsbD_sshiftRight, BitVec.msb_eq_getLsbD_last]
  simp [hi]
theorem bl_and (x y : Int64) (k : Nat) : bl (x &&& y) k = (bl x k && bl y k) := by unfold bl; rw [Int64.toBitVec_and, BitVec.getLsbD_and]
theorem lg_0 {x y : Int64} : lg_cmp x y = 0 ↔ x = y := by
  unfold lg_cmp
  constructor
  · intro h
    by_cases c1 : x > y
    · rw [if_pos c1] at h
      exact absurd h (by decide)
    · rw [if_neg c1] at h
      by_cases c2 : x = y
      · exact c2
      · simp [c2] at h
  · intro h
    subst h
    exact lg_self x
/-- the test of a bit -/
theorem bl_test (n : Nat) (hn : n < 64) (x : Int64) : lg_cmp ((x >>> ((nI n).toInt64 &&& 63)) &&& lN 1) (lN 1) = 0 ↔ bl x n = true := by
  rw [lg_0]
  constructor
  · intro h
    have := congrArg (fun z => bl z 0) h
    rw [bl_and, bl_1 0 (by omega), bl_sshr n hn x (by omega), if_pos (by omega)] at this
    simpa using this
  · intro h
    apply bl_ext
    intro i hi
    rw [bl_and, bl_1 i hi]
    by_cases c : i = 0
    · subst c
      rw [bl_sshr n hn x (by omega), if_pos (by omega), Nat.add_zero, h]
      rfl
    · rw [decide_eq_false c, Bool.and_false]
