/-! races: the class's clocks, step by step -/
/-- the class's clocks behind s steps; A: what was put down of the steps from 1 on -/
def CK (I I1 : Nat → Nat → Int32) (s : Nat) : Prop := (∀ c, c < 4 → ∀ i, i < 4 → I1 93 (4 * c + i) = nI ((vc_ I s).1 c i)) ∧ (∀ l, l < 4 → ∀ i, i < 4 → I1 94 (4 * l + i) = nI ((vc_ I s).2 l i)) ∧ (∀ t, 1 ≤ t → t ≤ s → ∀ i, i < 4 → I1 92 (4 * t + i) = nI (V I t i)) ∧ (∀ l, l < 4 → I1 88 l = rt I s (40 + l))
theorem cpy_b {f g : Nat → Int32} {a b n j : Nat} : va_cpy f g a b n j = if b ≤ j ∧ j < b + n then f (a + (j - b)) else g j := rfl
theorem c148 {E : am_Ev} {J : Nat → Nat → Int64} {S : Nat → Nat → Option Nat} {Q : am_Qt} {I I1 : Nat → Nat → Int32} {T s : Nat} (hT : T ≤ 400) (hF : FT I T) (hs : s + 1 ≤ T) (ff : ∀ k, k < 88 ∨ 95 < k → I1 k = I k) (hK : CK I I1 s) (h : ∀ I', (∀ k, k ≠ 92 → k ≠ 93 → k ≠ 94 → I' k = I1 k) → (∀ c, c < 4 → ∀ i, i < 4 → I' 93 (4 * c + i) = nI ((vc_ I (s + 1)).1 c i)) → (∀ l, l < 4 → ∀ i, i < 4 → I' 94 (4 * l + i) = nI ((vc_ I (s + 1)).2 l i)) → (∀ t, 1 ≤ t → t ≤ s + 1 → ∀ i, i < 4 → I' 92 (4 * t + i) = nI (V I t i)) → Q (.inl none) E I' J S) : am_cl 148 [.ref 89, .ref 12, .int (nI (aT I (s + 1))), .int (nI (s + 1)), .ref 87] E I1 J S Q := by
  show am_ww 148 0 [.ref 89, .ref 12, .int (nI (aT I (s + 1))), .int (nI (s + 1)), .ref 87, am_U, am_U, am_U, am_U] [] E I1 J S Q
  obtain ⟨s2, s3, s4, s5, s6, ⟨sn', s7⟩, s8⟩ := hF (s + 1) (by omega) hs
  obtain ⟨k1, k2, k3, k4⟩ := hK
  have ec : aT I (s + 1) / 16 = cT I (s + 1) := rfl
  have el : lT I (s + 1) = (I 107 (aT I (s + 1))).toNatClampNeg := rfl
  obtain ⟨C, p, hC, hpp, eCp⟩ : ∃ C p, C < 4 ∧ p < 16 ∧ aT I (s + 1) = 16 * C + p := ⟨aT I (s + 1) / 16, aT I (s + 1) % 16, by omega, by omega, by omega⟩
  have eC : cT I (s + 1) = C := by unfold cT; omega
  have ok1 : p_ok I1 (16 * C + p) sn' := by
    unfold p_ok
    rw [ff 106 (by omega), ff 107 (by omega), ff 108 (by omega), ff 109 (by omega), ← eCp]
    exact s7
  have op1 : p_op I1 (16 * C + p) := by
    unfold p_op
    rw [ff 106 (by omega), ff 107 (by omega), ff 108 (by omega), ff 109 (by omega), ff 13 (by omega), ff 14 (by omega), ← eCp]
    exact s8
  obtain ⟨o, o1, o2, o3, o4, o5, o6, o7, o8⟩ := id s8
  obtain ⟨o', ho', eo', q1, q2, q3, q4, q5, q6⟩ := id s7
  have eoo : o' = o := by rw [o2, nI_eq (by omega) (by omega)] at eo'; exact eo'.symm
  subst eoo
  have vb1 : ∀ c i, (vc_ I s).1 c i ≤ 400 ∧ (vc_ I s).2 c i ≤ 400 := fun c i => by have := vc_le I s c i; omega
  apply g148_0
  rw [nI_divI (by omega) (by omega), ec, nI_mulI, nI_mulI, nI_add, nI_add, nI_clamp (by omega), nI_clamp (by omega), nI_clamp (by omega), ff 14 (by omega), ff 13 (by omega), o3, nI_eq (by omega) (by omega)]
  refine ⟨vp_in_nI (by omega) (by omega), fun w2 e2 => ⟨vp_in_nI (by omega) (by omega), vp_in_nI (by omega) (by omega), ?_⟩⟩
  -- the own place
  have z93 : ∀ i, i < 4 → u_I I1 93 (upd (I1 93) (cT I (s + 1) * 4 + cT I (s + 1)) (nI (s + 1))) 93 (4 * cT I (s + 1) + i) = nI (if i = cT I (s + 1) then s + 1 else (vc_ I s).1 (cT I (s + 1)) i) := fun i hi => by
    rw [u_I_eq]
    by_cases c : i = cT I (s + 1)
    · rw [if_pos c, c, show 4 * cT I (s + 1) + cT I (s + 1) = cT I (s + 1) * 4 + cT I (s + 1) by omega, upd_eq]
    · rw [if_neg c, upd_ne (by omega)]; exact k1 _ (by omega) i hi
  have z93' : ∀ c, c < 4 → c ≠ cT I (s + 1) → ∀ i, i < 4 → u_I I1 93 (upd (I1 93) (cT I (s + 1) * 4 + cT I (s + 1)) (nI (s + 1))) 93 (4 * c + i) = nI ((vc_ I s).1 c i) := fun c hc hne i hi => by
    rw [u_I_eq, upd_ne (by omega)]; exact k1 c hc i hi
  have zo : ∀ k, k ≠ 93 → u_I I1 93 (upd (I1 93) (cT I (s + 1) * 4 + cT I (s + 1)) (nI (s + 1))) k = I1 k := fun k hk => u_I_ne hk
  generalize u_I I1 93 (upd (I1 93) (cT I (s + 1) * 4 + cT I (s + 1)) (nI (s + 1))) = I2 at z93 z93' zo ⊢
  -- the end: the row is put down
  have fin : ∀ I3 : Nat → Nat → Int32, (∀ k, k ≠ 92 → k ≠ 93 → k ≠ 94 → I3 k = I1 k) → I3 92 = I1 92 → (∀ i, i < 4 → I3 93 (4 * cT I (s + 1) + i) = nI (V I (s + 1) i)) → (∀ c, c < 4 → c ≠ cT I (s + 1) → ∀ i, i < 4 → I3 93 (4 * c + i) = nI ((vc_ I s).1 c i)) → (∀ l, l < 4 → ∀ i, i < 4 → I3 94 (4 * l + i) = nI ((vc_ I (s + 1)).2 l i)) → Q (.inl none) E (u_I I3 92 (va_cpy (I3 93) (I3 92) (cT I (s + 1) * 4) ((s + 1) * 4) 4)) J S := by
    intro I3 f3 e92 v3 v3' l3
    refine h _ (fun k a b c => by rw [u_I_ne a]; exact f3 k a b c) (fun c hc i hi => ?_) (fun l hl i hi => ?_) (fun t t1 t2 i hi => ?_)
    · rw [u_I_ne (by decide)]
      by_cases cc : c = cT I (s + 1)
      · rw [cc, vcT_y]; exact v3 i hi
      · rw [vcT_n cc]; exact v3' c hc cc i hi
    · rw [u_I_ne (by decide)]; exact l3 l hl i hi
    · rw [u_I_eq, cpy_b]
      by_cases ct : t = s + 1
      · rw [if_pos (by omega), ct, show cT I (s + 1) * 4 + (4 * (s + 1) + i - (s + 1) * 4) = 4 * cT I (s + 1) + i by omega]
        exact v3 i hi
      · rw [if_neg (by omega), e92]
        exact k3 t t1 (by omega) i hi
  have cpo : am_cpOk (nI (cT I (s + 1) * 4)) (nI ((s + 1) * 4)) (nI 4) 16 1604 := ⟨nI_pos (by omega), nI_pos (by omega), nI_pos (by omega), by rw [nI_clamp (by omega), nI_clamp (by omega)]; omega, by rw [nI_clamp (by omega), nI_clamp (by omega)]; omega⟩
  refine ⟨fun c7 => ?_, fun c7 => ?_⟩
  · -- it locks
    have o7' : o' = 7 := by omega
    have isl : isLk I (s + 1) := by unfold isLk; rw [o2, o7']
    have v := q2 (by omega) (by omega) (by omega)
    have lb : lT I (s + 1) < 4 := vb v
    rw [o4 (by omega) (by omega), vc v, ← el] at e2
    subst e2
    have nr : ∀ l, ¬ (rel I (s + 1) ∧ l = lT I (s + 1)) := fun l q => by
      have := q.1.1
      rw [o2, nI_eq (by omega) (by omega)] at this
      omega
    have lp : ∀ m x (I3 : Nat → Nat → Int32) (d8 : Value), am_isL d8 = false → x + m = 4 → (∀ k, k ≠ 93 → I3 k = I1 k) → (∀ i, i < x → I3 93 (4 * cT I (s + 1) + i) = nI (V I (s + 1) i)) → (∀ i, x ≤ i → i < 4 → I3 93 (4 * cT I (s + 1) + i) = nI (if i = cT I (s + 1) then s + 1 else (vc_ I s).1 (cT I (s + 1)) i)) → (∀ c, c < 4 → c ≠ cT I (s + 1) → ∀ i, i < 4 → I3 93 (4 * c + i) = nI ((vc_ I s).1 c i)) → am_ww 148 26 [.ref 89, .ref 12, .int (nI (aT I (s + 1))), .int (nI (s + 1)), .ref 87, .int (nI (cT I (s + 1))), .int (nI (lT I (s + 1))), .int (nI x), d8] [] E I3 J S Q := by
      intro m
      induction m with
      | zero =>
        intro x I3 d8 hd8 ex f3 v3 _ v3'
        apply g148_26 rfl rfl rfl hd8
        rw [nI_leI (by omega) (by omega), nI_mulI, nI_mulI, nI_clamp (by omega), nI_clamp (by omega)]
        refine ⟨fun _ => ⟨cpo, fin I3 (fun k _ b _ => f3 k b) (f3 92 (by omega)) (fun i hi => v3 i (by omega)) v3' (fun l hl i hi => ?_)⟩, fun q => absurd (by omega) q⟩
        rw [f3 94 (by omega), vcL_n (nr l)]
        exact k2 l hl i hi
      | succ m ih =>
        intro x I3 d8 hd8 ex f3 v3 w3 v3'
        apply g148_26 rfl rfl rfl hd8
        have b1 := vb1 (cT I (s + 1)) x
        have b2 := vb1 (lT I (s + 1)) x
        rw [nI_leI (by omega) (by omega), nI_mulI, nI_mulI, nI_mulI, nI_add, nI_add, nI_add, nI_clamp (show cT I (s + 1) * 4 + x < 2 ^ 31 by omega), nI_clamp (show lT I (s + 1) * 4 + x < 2 ^ 31 by omega), show cT I (s + 1) * 4 + x = 4 * cT I (s + 1) + x by omega, show lT I (s + 1) * 4 + x = 4 * lT I (s + 1) + x by omega, w3 x (Nat.le_refl _) (by omega), f3 94 (by omega), k2 _ lb x (by omega), nI_max (by split <;> omega) (by omega), ← V_lk isl]
        refine ⟨fun q => absurd q (by omega), fun _ => ⟨vp_in_nI (by omega) (by omega), vp_in_nI (by omega) (by omega), ih (x + 1) _ _ rfl (by omega) (fun k hk => by rw [u_I_ne hk]; exact f3 k hk) (fun i hi => ?_) (fun i a b => ?_) (fun c hc hne i hi => ?_)⟩⟩
        · rw [u_I_eq]
          by_cases ci : i = x
          · rw [ci, upd_eq]
          · rw [upd_ne (by omega)]; exact v3 i (by omega)
        · rw [u_I_eq, upd_ne (by omega)]; exact w3 i (by omega) b
        · rw [u_I_eq, upd_ne (by omega)]; exact v3' c hc hne i hi
    exact lp 4 0 I2 _ rfl (by omega) zo (fun i hi => absurd hi (by omega)) (fun i _ hi => z93 i hi) z93'
  · have nl : ¬ isLk I (s + 1) := by unfold isLk; rw [o2, nI_eq (by omega) (by omega)]; omega
    have zV : ∀ i, i < 4 → I2 93 (4 * cT I (s + 1) + i) = nI (V I (s + 1) i) := fun i hi => by rw [V_nl nl]; exact z93 i hi
    rw [eCp]
    have ok2 : p_ok I2 (16 * C + p) sn' := by
      unfold p_ok
      rw [zo 106 (by omega), zo 107 (by omega), zo 108 (by omega), zo 109 (by omega)]
      exact ok1
    have op2 : p_op I2 (16 * C + p) := by
      unfold p_op
      rw [zo 106 (by omega), zo 107 (by omega), zo 108 (by omega), zo 109 (by omega), zo 13 (by omega), zo 14 (by omega)]
      exact op1
    have e106 : I2 106 (16 * C + p) = I 106 (aT I (s + 1)) := by rw [zo 106 (by omega), ff 106 (by omega), eCp]
    have e107 : (I2 107 (16 * C + p)).toNatClampNeg = lT I (s + 1) := by rw [zo 107 (by omega), ff 107 (by omega), ← eCp]; rfl
    refine c149 hC hpp ok2 op2 (fun y1 y2 => q_mkI ⟨fun q => absurd q (by decide), fun _ => ?_⟩) (fun y => q_mkI ⟨fun _ => ?_, fun q => absurd nI_0 q⟩)
    · -- it releases
      rw [e106] at y1
      have o8' : o' = 8 := by rw [o2, nI_eq (by omega) (by omega)] at y1; exact y1
      have v := q2 (by omega) (by omega) (by omega)
      have lb : lT I (s + 1) < 4 := vb v
      rw [e107, zo 88 (by omega), k4 _ lb] at y2
      have hrel : rel I (s + 1) := ⟨y1, by rw [Nat.add_sub_cancel, eC]; exact y2⟩
      rw [o4 (by omega) (by omega), vc v, ← el] at e2
      subst e2
      rw [nI_mulI, nI_mulI, nI_clamp (by omega), nI_clamp (by omega), nI_clamp (by omega)]
      refine ⟨⟨nI_pos (by omega), nI_pos (by omega), nI_pos (by omega), by rw [nI_clamp (by omega), nI_clamp (by omega)]; omega, by rw [nI_clamp (by omega), nI_clamp (by omega)]; omega⟩, cpo, ?_⟩
      have w93 : u_I I2 94 (va_cpy (I2 93) (I2 94) (cT I (s + 1) * 4) (lT I (s + 1) * 4) 4) 93 = I2 93 := u_I_ne (by decide)
      have w92 : u_I I2 94 (va_cpy (I2 93) (I2 94) (cT I (s + 1) * 4) (lT I (s + 1) * 4) 4) 92 = I2 92 := u_I_ne (by decide)
      have := fin (u_I I2 94 (va_cpy (I2 93) (I2 94) (cT I (s + 1) * 4) (lT I (s + 1) * 4) 4)) (fun k a b c => by rw [u_I_ne c]; exact zo k b) (by rw [w92]; exact zo 92 (by omega)) (fun i hi => by rw [w93]; exact zV i hi) (fun c hc hne i hi => by rw [w93]; exact z93' c hc hne i hi) (fun l hl i hi => ?_)
      · rw [w93, w92] at this
        exact this
      · rw [u_I_eq, cpy_b]
        by_cases cl : l = lT I (s + 1)
        · rw [if_pos (by omega), cl, vcL_y hrel, show cT I (s + 1) * 4 + (4 * lT I (s + 1) + i - lT I (s + 1) * 4) = 4 * cT I (s + 1) + i by omega]
          exact zV i hi
        · rw [if_neg (by omega), vcL_n (fun q => cl q.2), zo 94 (by omega)]
          exact k2 l hl i hi
    · rw [nI_mulI, nI_clamp (by omega), nI_clamp (by omega)]
      refine ⟨cpo, fin I2 (fun k _ b _ => zo k b) (zo 92 (by omega)) zV z93' (fun l hl i hi => ?_)⟩
      rw [zo 94 (by omega), vcL_n (fun q => ?_)]
      · exact k2 l hl i hi
      · apply y
        rw [e106, e107]
        have h8 := q.1.1
        have o8' : o' = 8 := by rw [o2, nI_eq (by omega) (by omega)] at h8; exact h8
        have lb : lT I (s + 1) < 4 := vb (q2 (by omega) (by omega) (by omega))
        refine ⟨h8, ?_⟩
        have := q.1.2
        rw [Nat.add_sub_cancel, eC] at this
        rw [zo 88 (by omega), k4 _ lb]
        exact this
