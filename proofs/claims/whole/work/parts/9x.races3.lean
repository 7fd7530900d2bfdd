/-! races: found -/
theorem aT_e {I I' : Nat → Nat → Int32} (h : I' 119 = I 119) : aT I' = aT I := by funext t; unfold aT; rw [h]
theorem cT_e {I I' : Nat → Nat → Int32} (h : I' 119 = I 119) : cT I' = cT I := by funext t; unfold cT; rw [aT_e h]
theorem lT_e {I I' : Nat → Nat → Int32} (h : I' 119 = I 119) (h7 : I' 107 = I 107) : lT I' = lT I := by funext t; unfold lT; rw [aT_e h, h7]
/-- the clocks of two heaps that have the same steps up to T -/
theorem vc_c {I I' : Nat → Nat → Int32} {T : Nat} (ha : ∀ t, 1 ≤ t → t ≤ T → aT I' t = aT I t) (h6 : I' 106 = I 106) (h7 : I' 107 = I 107) (hl : ∀ t, 1 ≤ t → t ≤ T → (rel I' t ↔ rel I t)) : ∀ s, s ≤ T → vc_ I' s = vc_ I s := by
  intro s
  induction s with
  | zero => intro _; rfl
  | succ s ih =>
    intro hs
    have e := ih (by omega)
    have a := ha (s + 1) (by omega) hs
    have c : cT I' (s + 1) = cT I (s + 1) := by unfold cT; rw [a]
    have l : lT I' (s + 1) = lT I (s + 1) := by unfold lT; rw [a, h7]
    have k : isLk I' (s + 1) = isLk I (s + 1) := by unfold isLk; rw [a, h6]
    have r : rel I' (s + 1) = rel I (s + 1) := propext (hl (s + 1) (by omega) hs)
    have v : vrow I' (s + 1) (vc_ I' s) = vrow I (s + 1) (vc_ I s) := by
      funext i
      unfold vrow
      rw [e, c, l, k]
    show (_, _) = (_, _)
    rw [v, c, l, r, e]
theorem V_c {I I' : Nat → Nat → Int32} {T : Nat} (ha : ∀ t, 1 ≤ t → t ≤ T → aT I' t = aT I t) (h6 : I' 106 = I 106) (h7 : I' 107 = I 107) (hl : ∀ t, 1 ≤ t → t ≤ T → (rel I' t ↔ rel I t)) {t i : Nat} (t1 : 1 ≤ t) (tT : t ≤ T) : V I' t i = V I t i := by
  have e := vc_c ha h6 h7 hl (t - 1) (by omega)
  have a := ha t t1 tT
  have c : cT I' t = cT I t := by unfold cT; rw [a]
  have l : lT I' t = lT I t := by unfold lT; rw [a, h7]
  have k : isLk I' t = isLk I t := by unfold isLk; rw [a, h6]
  unfold V vrow
  rw [e, c, l, k]
/-- the same steps, the same instructions -/
def sst (I I' : Nat → Nat → Int32) (T : Nat) : Prop := (∀ t, 1 ≤ t → t ≤ T → aT I' t = aT I t) ∧ (I' 106 = I 106 ∧ I' 107 = I 107 ∧ I' 108 = I 108) ∧ (∀ t, 1 ≤ t → t ≤ T → (rel I' t ↔ rel I t))
theorem tc_c {I I' : Nat → Nat → Int32} {T t : Nat} (h : sst I I' T) (t1 : 1 ≤ t) (tT : t ≤ T) : tc I' t = tc I t := by
  unfold tc ct
  rw [h.1 t t1 tT, h.2.1.1, h.2.1.2.1, h.2.1.2.2]
theorem rc_c {I I' : Nat → Nat → Int32} {T e l : Nat} (h : sst I I' T) (e1 : 1 ≤ e) (el : e < l) (lT' : l ≤ T) : rc I' e l ↔ rc I e l := by
  have c : cT I' e = cT I e := by unfold cT; rw [h.1 e e1 (by omega)]
  unfold rc
  rw [tc_c h e1 (by omega), tc_c h (by omega) lT', h.1 e e1 (by omega), h.1 l (by omega) lT', h.2.1.1, V_c h.1 h.2.1.1 h.2.1.2.1 h.2.2 (by omega) lT', c]
theorem nc_c {P P' : Nat → Prop} : ∀ m e, (∀ j, e ≤ j → j < e + m → (P' j ↔ P j)) → nc P' m e = nc P m e := by
  intro m
  induction m with
  | zero => intro e _; rfl
  | succ m ih =>
    intro e h
    have i := ih (e + 1) (fun j a b => h j (by omega) (by omega))
    by_cases c : P e
    · rw [nc_y c, nc_y ((h e (Nat.le_refl _) (by omega)).mpr c), i]
    · rw [nc_n c, nc_n (fun q => c ((h e (Nat.le_refl _) (by omega)).mp q)), i]
theorem cnR_c {I I' : Nat → Nat → Int32} {T l : Nat} (h : sst I I' T) (l1 : 1 ≤ l) (lT' : l ≤ T) : cnR I' l = cnR I l := nc_c _ _ (fun j a b => rc_c h a (by omega) lT')
theorem inE_c {I I' : Nat → Nat → Int32} {T l : Nat} (h : sst I I' T) (lT' : l ≤ T) : ∀ m e x, 1 ≤ e → e + m ≤ l → inE I' l m e x = inE I l m e x := by
  intro m
  induction m with
  | zero => intro e x _ _; rfl
  | succ m ih =>
    intro e x e1 el
    show inE I' l m (e + 1) (stp I' e l x) = inE I l m (e + 1) (stp I e l x)
    have : stp I' e l x = stp I e l x := by
      by_cases c : rc I e l
      · rw [stp_y c, stp_y ((rc_c h e1 (by omega) lT').mpr c), tc_c h (by omega) lT', h.1 e e1 (by omega), h.1 l (by omega) lT']
      · rw [stp_n c, stp_n (fun q => c ((rc_c h e1 (by omega) lT').mp q))]
    rw [this]
    exact ih _ _ (by omega) (by omega)
theorem ouL_c {I I' : Nat → Nat → Int32} {T : Nat} (h : sst I I' T) : ∀ m l x, 1 ≤ l → l + m ≤ T + 1 → ouL I' m l x = ouL I m l x := by
  intro m
  induction m with
  | zero => intro l x _ _; rfl
  | succ m ih =>
    intro l x l1 lm
    show ouL I' m (l + 1) (inE I' l (l - 1) 1 x) = ouL I m (l + 1) (inE I l (l - 1) 1 x)
    rw [inE_c h (by omega) (l - 1) 1 x (by omega) (by omega)]
    exact ih _ _ (by omega) (by omega)
/-- what was found is right -/
def RDV (I : Nat → Nat → Int32) (J : Nat → Nat → Int64) (T : Nat) : Prop := (∀ l, 1 ≤ l → l ≤ T → I 90 l = nI (cnR I l)) ∧ (∀ t, 1 ≤ t → t ≤ T → I 91 t = tc I t) ∧ (∀ t, 1 ≤ t → t ≤ T → ∀ i, i < 4 → I 92 (4 * t + i) = nI (V I t i)) ∧ CS I J (ouL I T 1 x0)
theorem RDV_c {I I' : Nat → Nat → Int32} {J J' : Nat → Nat → Int64} {T : Nat} (h : sst I I' T) (hk : ∀ k, 89 ≤ k → k < 96 → I' k = I k) (hJ : J' 95 = J 95) (hr : RDV I J T) : RDV I' J' T := by
  obtain ⟨r1, r2, r3, r4⟩ := hr
  refine ⟨fun l a b => ?_, fun t a b => ?_, fun t a b i hi => ?_, ?_⟩
  · rw [hk 90 (by omega) (by omega), cnR_c h a b]; exact r1 l a b
  · rw [hk 91 (by omega) (by omega), tc_c h a b]; exact r2 t a b
  · rw [hk 92 (by omega) (by omega), V_c h.1 h.2.1.1 h.2.1.2.1 h.2.2 a b]; exact r3 t a b i hi
  · unfold CS
    rw [hk 89 (by omega) (by omega), hJ, ouL_c h T 1 x0 (by omega) (by omega)]
    exact r4
theorem sst_e {I I' : Nat → Nat → Int32} {T : Nat} (h : ∀ k, k = 106 ∨ k = 107 ∨ k = 108 ∨ k = 117 ∨ k = 119 → I' k = I k) : sst I I' T := by
  have ea := aT_e (h 119 (by omega))
  refine ⟨fun t _ _ => by rw [ea], ⟨h 106 (by omega), h 107 (by omega), h 108 (by omega)⟩, fun t _ _ => ?_⟩
  unfold rel
  rw [ea, h 106 (by omega), rt_e (h 117 (by omega)), lT_e (h 119 (by omega)) (h 107 (by omega)), cT_e (h 119 (by omega))]
/-- two courses with the same steps -/
theorem sst_of {I I' : Nat → Nat → Int32} {T cu ac n cu' ac' n' : Nat} (hc : CR I T cu ac n) (hc' : CR I' T cu' ac' n') (e33 : I' 33 = I 33) (hp : ∀ k, 103 ≤ k → k < 110 → I' k = I k) : sst I I' T := by
  obtain ⟨h1, h2, h3, h4, h5, h6, h7, h8, h9, h10, h11, h12, h13, h14⟩ := hc
  obtain ⟨h1', h2', h3', h4', h5', h6', h7', h8', h9', h10', h11', h12', h13', h14'⟩ := hc'
  have ea : ∀ t, 1 ≤ t → t ≤ T → aT I' t = aT I t := by
    intro t a b
    obtain ⟨C, p, _, _, d3, _, d5, _⟩ := h11 t a b
    obtain ⟨C', p', _, _, d3', _, d5', _⟩ := h11' t a b
    unfold aT
    rw [← d5, ← d5', e33]
  have own : ∀ t, t ≤ T → ∀ l, l < 4 → rt I' t (40 + l) = rt I t (40 + l) := by
    intro t
    induction t with
    | zero =>
      intro _ l hl
      rw [← h4.2.2.1 _ (by omega), ← h4'.2.2.1 _ (by omega)]
      unfold m_first
      rw [if_neg (by omega), if_pos (by omega), if_neg (by omega), if_pos (by omega)]
    | succ t ih =>
      intro ht l hl
      obtain ⟨C, p, m, d1, d2, d3, d4, d5, d6, d7, d8, d9⟩ := own_step h1 h2 h4 (h11 (t + 1) (by omega) ht) (by omega) ht
      obtain ⟨C', p', m', d1', d2', d3', d4', d5', d6', d7', d8', d9'⟩ := own_step h1' h2' h4' (h11' (t + 1) (by omega) ht) (by omega) ht
      have e : 16 * C' + p' = 16 * C + p := by
        have := ea (t + 1) (by omega) ht
        unfold aT at this
        rw [d5, d5', nI_clamp (by omega), nI_clamp (by omega)] at this
        exact this
      have eC : C' = C := by omega
      rw [d9 l hl, d9' l hl, e, eC]
      unfold ow
      dsimp only
      rw [hp 106 (by omega) (by omega), hp 107 (by omega) (by omega), Nat.add_sub_cancel]
      simp only [ih (by omega) l hl]
  refine ⟨ea, ⟨hp 106 (by omega) (by omega), hp 107 (by omega) (by omega), hp 108 (by omega) (by omega)⟩, fun t a b => ?_⟩
  obtain ⟨C, p, m, d1, d2, d3, d4, d5, d6, d7, d8, d9⟩ := own_step h1 h2 h4 (h11 t a b) a b
  have eaT : aT I t = 16 * C + p := by unfold aT; rw [d5, nI_clamp (by omega)]
  unfold rel
  rw [ea t a b, hp 106 (by omega) (by omega), show cT I' t = cT I t by unfold cT; rw [ea t a b]]
  have el : lT I' t = lT I t := by unfold lT; rw [ea t a b, hp 107 (by omega) (by omega)]
  rw [el]
  constructor
  · rintro ⟨q1, q2⟩
    refine ⟨q1, ?_⟩
    obtain ⟨o, ho, eo, x1, x2, _⟩ := d7
    rw [eaT, eo, nI_eq (by omega) (by omega)] at q1
    have lb : lT I t < 4 := by unfold lT; rw [eaT]; exact vb (x2 (by omega) (by omega) (by omega))
    rw [← own (t - 1) (by omega) _ lb]
    exact q2
  · rintro ⟨q1, q2⟩
    refine ⟨q1, ?_⟩
    obtain ⟨o, ho, eo, x1, x2, _⟩ := d7
    rw [eaT, eo, nI_eq (by omega) (by omega)] at q1
    have lb : lT I t < 4 := by unfold lT; rw [eaT]; exact vb (x2 (by omega) (by omega) (by omega))
    rw [own (t - 1) (by omega) _ lb]
    exact q2
theorem c145_l {E : am_Ev} {S : Nat → Nat → Option Nat} {Q : am_Qt} {I : Nat → Nat → Int32} {T : Nat} (hT : T ≤ 400) (eT : I 18 10 = nI T) (hF : FT I T) (hO : ∀ t, 1 ≤ t → t ≤ T → ∀ l, l < 4 → rt I t (40 + l) = ow I (aT I t) (nI (cT I t)) (fun l => rt I (t - 1) (40 + l)) l) : ∀ m s (I1 : Nat → Nat → Int32) (J : Nat → Nat → Int64) x (d5 : Value), am_isL d5 = false → s + m = T → (∀ k, k < 88 ∨ 95 < k → I1 k = I k) → CK I I1 s → (∀ u, 1 ≤ u → u ≤ s → I1 91 u = tc I u ∧ I1 90 u = nI (cnR I u)) → (∀ u, s < u → u ≤ T → I1 90 u = nI 0) → CS I1 J x → x.1 ≤ 400 * s → (∀ I' J', (∀ k, k < 88 ∨ 95 < k → I' k = I k) → (∀ k, k ≠ 95 → J' k = J k) → I' 89 8 = nI 1 → (∀ u, 1 ≤ u → u ≤ T → I' 91 u = tc I u ∧ I' 90 u = nI (cnR I u)) → (∀ t, 1 ≤ t → t ≤ T → ∀ i, i < 4 → I' 92 (4 * t + i) = nI (V I t i)) → CS I' J' (ouL I m (s + 1) x) → Q (.inl none) E I' J' S) → am_ww 145 10 [.ref 89, .ref 12, .ref 18, .ref 87, .int (nI (s + 1)), d5] [] E I1 J S Q := by
  intro m
  induction m with
  | zero =>
    intro s I1 J x d5 hd5 es ff hK h1 h2 hS hx h
    apply g145_10 hd5
    rw [ff 18 (by omega), eT, nI_ltI (by omega) (by omega)]
    have : s = T := by omega
    subst this
    refine ⟨fun _ => h _ J (fun k hk => by rw [u_I_ne (by omega)]; exact ff k hk) (fun _ _ => rfl) (by rw [u_I_eq, upd_eq]) (fun u a b => by rw [u_I_ne (by decide), u_I_ne (by decide)]; exact h1 u a b) (fun t a b i hi => by rw [u_I_ne (by decide)]; exact hK.2.2.1 t a b i hi) ⟨?_, ?_, hS.2.2⟩, fun q => absurd (by omega) q⟩
    · rw [u_I_eq, upd_ne (by omega)]; exact hS.1
    · rw [u_I_eq, upd_ne (by omega)]; exact hS.2.1
  | succ m ih =>
    intro s I1 J x d5 hd5 es ff hK h1 h2 hS hx h
    apply g145_10 hd5
    obtain ⟨s2, s3, s4, s5, s6, ⟨sn', s7⟩, s8⟩ := hF (s + 1) (by omega) (by omega)
    obtain ⟨C, p, hC, hpp, eCp⟩ : ∃ C p, C < 4 ∧ p < 16 ∧ aT I (s + 1) = 16 * C + p := ⟨aT I (s + 1) / 16, aT I (s + 1) % 16, by omega, by omega, by omega⟩
    have eC : cT I (s + 1) = C := by unfold cT; omega
    rw [ff 18 (by omega), eT, nI_ltI (by omega) (by omega), nI_clamp (by omega), ff 33 (by omega), s5, nI_add]
    refine ⟨fun q => absurd q (by omega), fun _ => ⟨vp_in_nI (by omega) (by omega), ?_⟩⟩
    refine c148 hT hF (by omega) ff hK (fun I2 f2 a93 a94 a92 => q_mkV ?_)
    have ff2 : ∀ k, k < 88 ∨ 95 < k → I2 k = I k := fun k hk => by rw [f2 k (by omega) (by omega) (by omega)]; exact ff k hk
    have okh : ∀ I3 : Nat → Nat → Int32, (∀ k, k < 88 ∨ 95 < k → I3 k = I k) → p_ok I3 (16 * C + p) sn' ∧ p_op I3 (16 * C + p) := by
      intro I3 f3
      refine ⟨?_, ?_⟩
      · unfold p_ok
        rw [f3 106 (by omega), f3 107 (by omega), f3 108 (by omega), f3 109 (by omega), ← eCp]
        exact s7
      · unfold p_op
        rw [f3 106 (by omega), f3 107 (by omega), f3 108 (by omega), f3 109 (by omega), f3 13 (by omega), f3 14 (by omega), ← eCp]
        exact s8
    rw [eCp]
    refine c150 hC hpp (okh I2 ff2).1 (okh I2 ff2).2 (fun I3 f3 o3 => q_mkV ?_)
    have ff3 : ∀ k, k < 88 ∨ 95 < k → I3 k = I k := fun k hk => by rw [f3 k (by omega)]; exact ff2 k hk
    refine c138 (by omega) (okh I3 ff3).1 (okh I3 ff3).2 (q_mkI ?_)
    have ect : ct I3 (16 * C + p) = tc I (s + 1) := by
      unfold tc ct
      rw [ff3 106 (by omega), ff3 107 (by omega), ff3 108 (by omega), eCp]
    rw [ect, upd_eq]
    have z91 : ∀ u, 1 ≤ u → u ≤ s + 1 → u_I I3 91 (upd (I3 91) (s + 1) (tc I (s + 1))) 91 u = tc I u := fun u a b => by
      rw [u_I_eq]
      by_cases c : u = s + 1
      · rw [c, upd_eq]
      · rw [upd_ne c, f3 91 (by omega), f2 91 (by omega) (by omega) (by omega)]; exact (h1 u a (by omega)).1
    have zo : ∀ k, k ≠ 91 → u_I I3 91 (upd (I3 91) (s + 1) (tc I (s + 1))) k = I3 k := fun k hk => u_I_ne hk
    generalize u_I I3 91 (upd (I3 91) (s + 1) (tc I (s + 1))) = I4 at z91 zo ⊢
    have ff4 : ∀ k, k < 88 ∨ 95 < k → I4 k = I k := fun k hk => by rw [zo k (by omega)]; exact ff3 k hk
    have e4 : ∀ k, k = 89 ∨ k = 90 → I4 k = I1 k := fun k hk => by rw [zo k (by omega), f3 k (by omega), f2 k (by omega) (by omega) (by omega)]
    have ck4 : CK I I4 (s + 1) := by
      refine ⟨fun c hc i hi => by rw [zo 93 (by omega), f3 93 (by omega)]; exact a93 c hc i hi, fun l hl i hi => by rw [zo 94 (by omega), f3 94 (by omega)]; exact a94 l hl i hi, fun t a b i hi => by rw [zo 92 (by omega), f3 92 (by omega)]; exact a92 t a b i hi, fun l hl => ?_⟩
      rw [zo 88 (by omega), o3 l hl, hO (s + 1) (by omega) (by omega) l hl, eCp, eC, Nat.add_sub_cancel]
      unfold ow
      rw [ff2 106 (by omega), ff2 107 (by omega), f2 88 (by omega) (by omega) (by omega), hK.2.2.2 l hl]
    have hS4 : CS I4 J x := by
      unfold CS
      rw [e4 89 (by omega)]
      exact hS
    have h' : ∀ I' J', (∀ k, k < 88 ∨ 95 < k → I' k = I k) → (∀ k, k ≠ 95 → J' k = J k) → I' 89 8 = nI 1 → (∀ u, 1 ≤ u → u ≤ T → I' 91 u = tc I u ∧ I' 90 u = nI (cnR I u)) → (∀ t, 1 ≤ t → t ≤ T → ∀ i, i < 4 → I' 92 (4 * t + i) = nI (V I t i)) → CS I' J' (ouL I m (s + 1 + 1) (inE I (s + 1) (s + 1 - 1) 1 x)) → Q (.inl none) E I' J' S := h
    refine ⟨fun c => ?_, fun c => ?_⟩
    · rw [inE_id c] at h'
      have cn0 : cnR I (s + 1) = 0 := nc_0 _ _ (fun j _ _ q => q.2.1 c)
      refine ih (s + 1) I4 J x _ rfl (by omega) ff4 ck4 (fun u a b => ⟨z91 u a b, ?_⟩) (fun u a b => by rw [e4 90 (by omega)]; exact h2 u (by omega) b) hS4 (by omega) h'
      rw [e4 90 (by omega)]
      by_cases cu : u = s + 1
      · rw [cu, cn0]; exact h2 (s + 1) (by omega) (by omega)
      · exact (h1 u a (by omega)).2
    · refine c151 (I := I) (I0 := I4) hT hF (by omega) (by omega) c ff4 z91 (fun i hi => ck4.2.2.1 (s + 1) (by omega) (by omega) i hi) (x := x) (by omega) hS4 (by rw [e4 90 (by omega)]; exact h2 (s + 1) (by omega) (by omega)) (fun I5 J5 f5 g5 j5 cs5 e90 => q_mkV ?_)
      have ff5 : ∀ k, k < 88 ∨ 95 < k → I5 k = I k := fun k hk => by rw [f5 k (by omega) (by omega)]; exact ff4 k hk
      refine ih (s + 1) I5 J5 _ _ rfl (by omega) ff5 ?_ (fun u a b => ⟨by rw [f5 91 (by omega) (by omega)]; exact z91 u a b, ?_⟩) (fun u a b => ?_) cs5 ?_ (fun I' J' q1 q2 q3 q4 q5 q6 => h' I' J' q1 (fun k hk => by rw [q2 k hk, j5 k hk]) q3 q4 q5 q6)
      · exact ⟨fun c hc i hi => by rw [f5 93 (by omega) (by omega)]; exact ck4.1 c hc i hi, fun l hl i hi => by rw [f5 94 (by omega) (by omega)]; exact ck4.2.1 l hl i hi, fun t a b i hi => by rw [f5 92 (by omega) (by omega)]; exact ck4.2.2.1 t a b i hi, fun l hl => by rw [f5 88 (by omega) (by omega)]; exact ck4.2.2.2 l hl⟩
      · rw [e90]
        by_cases cu : u = s + 1
        · rw [cu, upd_eq]
        · rw [upd_ne cu, e4 90 (by omega)]; exact (h1 u a (by omega)).2
      · rw [e90, upd_ne (by omega), e4 90 (by omega)]; exact h2 u (by omega) b
      · rw [inE_n]
        have := nc_le (P := fun e => rc I e (s + 1)) (s + 1 - 1) 1
        omega
theorem c145 {E : am_Ev} {I : Nat → Nat → Int32} {J : Nat → Nat → Int64} {S : Nat → Nat → Option Nat} {Q : am_Qt} {T cu ac n : Nat} (hcr : CR I T cu ac n) (hfr : I 89 8 = nI 0 ∨ (I 89 8 = nI 1 ∧ RDV I J T)) (h : ∀ I' J', (∀ k, k < 88 ∨ 95 < k → I' k = I k) → (∀ k, k ≠ 95 → J' k = J k) → I' 89 8 = nI 1 → RDV I' J' T → Q (.inl none) E I' J' S) : am_cl 145 [.ref 89, .ref 12, .ref 18, .ref 87] E I J S Q := by
  show am_ww 145 0 [.ref 89, .ref 12, .ref 18, .ref 87, am_U, am_U] [] E I J S Q
  obtain ⟨h1, h2, h3, h4, h5, h6, h7, h8, h9, h10, h11, h12, h13, h14⟩ := id hcr
  have hT4 := h4.1.1
  have hF := FT_of h1 h2 h4 h11
  apply g145_0
  rcases hfr with z | ⟨z, hr⟩
  · refine ⟨fun _ => ?_, fun q => absurd (z.trans nI_0) q⟩
    refine c13_90 (q_mkV (c13_93 (q_mkV (c13_94 (q_mkV (c62_95 (q_mkV (c13_88 (q_mkV ?_)))))))))
    have hO : ∀ t, 1 ≤ t → t ≤ T → ∀ l, l < 4 → rt I t (40 + l) = ow I (aT I t) (nI (cT I t)) (fun l => rt I (t - 1) (40 + l)) l := by
      intro t a b l hl
      obtain ⟨C, p, n', d1, d2, d3, d4, d5, d6, d7, d8, d9⟩ := own_step h1 h2 h4 (h11 t a b) a b
      have ea : aT I t = 16 * C + p := by unfold aT; rw [d5, nI_clamp (by omega)]
      have ec : cT I t = C := by unfold cT; rw [ea]; omega
      rw [ea, ec]
      exact d9 l hl
    refine c145_l hT4 h8.2 hF hO T 0 _ _ x0 _ rfl (by omega) (fun k hk => ?_) ⟨fun c hc i hi => ?_, fun l hl i hi => ?_, fun t a b => absurd b (by omega), fun l hl => ?_⟩ (fun u a b => absurd b (by omega)) (fun u a b => ?_) ⟨?_, ?_, fun a ha b hb => ?_⟩ (by show (0 : Nat) ≤ _; omega) (fun I' J' f' j' e8 h91 h92 hcs => h I' J' f' (fun k hk => by rw [j' k hk, u_J_ne hk]) e8 ?_)
    · rw [u_I_ne (by omega), u_I_ne (by omega), u_I_ne (by omega), u_I_ne (by omega), u_I_ne (by omega)]
    · rw [u_I_ne (by decide), u_I_ne (by decide), u_I_ne (by decide), u_I_eq]
      exact if_pos (by omega)
    · rw [u_I_ne (by decide), u_I_ne (by decide), u_I_eq]
      exact if_pos (by omega)
    · rw [u_I_eq, ← h4.2.2.1 _ (by omega)]
      unfold fil m_first
      rw [if_pos hl, if_neg (by omega), if_pos (by omega)]
    · rw [u_I_ne (by decide), u_I_ne (by decide), u_I_ne (by decide), u_I_ne (by decide), u_I_eq]
      exact if_pos (by omega)
    · rw [u_I_ne (by decide), u_I_eq, upd_ne (by omega), upd_eq]
      rfl
    · rw [u_I_ne (by decide), u_I_eq, upd_eq]
      rfl
    · rw [u_J_eq]
      show bl (filL (J 95) 64 (lN 0) a) b = false
      unfold filL
      rw [if_pos ha, bl_0]
    · have ss : sst I I' T := sst_e (fun k hk => f' k (by omega))
      refine ⟨fun l a b => ?_, fun t a b => ?_, fun t a b i hi => ?_, ?_⟩
      · rw [cnR_c ss a b]; exact (h91 l a b).2
      · rw [tc_c ss a b]; exact (h91 t a b).1
      · rw [V_c ss.1 ss.2.1.1 ss.2.1.2.1 ss.2.2 a b]; exact h92 t a b i hi
      · rw [ouL_c ss T 1 x0 (by omega) (by omega)]; exact hcs
  · exact ⟨fun q => absurd (z.symm.trans q) (by decide), fun _ => h I J (fun _ _ => rfl) (fun _ _ => rfl) z hr⟩
