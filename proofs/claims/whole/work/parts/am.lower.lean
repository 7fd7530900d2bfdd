/-! the lower halves alone -/
/-- the same steps, the same instructions there -/
def ssl (I I' : Nat → Nat → Int32) (T : Nat) : Prop := ∀ t, 1 ≤ t → t ≤ T → aT I' t = aT I t ∧ I' 106 (aT I t) = I 106 (aT I t) ∧ I' 107 (aT I t) = I 107 (aT I t) ∧ I' 108 (aT I t) = I 108 (aT I t) ∧ (rel I' t ↔ rel I t)
section
variable {I I' : Nat → Nat → Int32} {T : Nat}
theorem ssl_p {t : Nat} (h : ssl I I' T) (t1 : 1 ≤ t) (tT : t ≤ T) : aT I' t = aT I t ∧ cT I' t = cT I t ∧ lT I' t = lT I t ∧ isLk I' t = isLk I t ∧ rel I' t = rel I t ∧ tc I' t = tc I t := by
  obtain ⟨a, b, d, e, f⟩ := h t t1 tT
  refine ⟨a, by unfold cT; rw [a], by unfold lT; rw [a, d], by unfold isLk; rw [a, b], propext f, by unfold tc ct; rw [a, b, d, e]⟩
theorem vc_l (h : ssl I I' T) : ∀ s, s ≤ T → vc_ I' s = vc_ I s := by
  intro s
  induction s with
  | zero => intro _; rfl
  | succ s ih =>
    intro hs
    have e := ih (by omega)
    obtain ⟨a, c, l, k, r, _⟩ := ssl_p h (show 1 ≤ s + 1 by omega) hs
    have v : vrow I' (s + 1) (vc_ I' s) = vrow I (s + 1) (vc_ I s) := by
      funext i
      unfold vrow
      rw [e, c, l, k]
    show (_, _) = (_, _)
    rw [v, c, l, r, e]
theorem V_l (h : ssl I I' T) {t i : Nat} (t1 : 1 ≤ t) (tT : t ≤ T) : V I' t i = V I t i := by
  have e := vc_l h (t - 1) (by omega)
  obtain ⟨a, c, l, k, r, _⟩ := ssl_p h t1 tT
  unfold V vrow
  rw [e, c, l, k]
theorem rc_l {e l : Nat} (h : ssl I I' T) (e1 : 1 ≤ e) (el : e < l) (lT' : l ≤ T) : rc I' e l ↔ rc I e l := by
  obtain ⟨a, c, _, _, _, t⟩ := ssl_p h e1 (show e ≤ T by omega)
  obtain ⟨a', _, _, _, _, t'⟩ := ssl_p h (show 1 ≤ l by omega) lT'
  have x := (h e e1 (by omega)).2.1
  have x' := (h l (by omega) lT').2.1
  unfold rc
  rw [t, t', a, a', x, x', V_l h (by omega) lT', c]
theorem cnR_l {l : Nat} (h : ssl I I' T) (l1 : 1 ≤ l) (lT' : l ≤ T) : cnR I' l = cnR I l := nc_c _ _ (fun j a b => rc_l h a (by omega) lT')
theorem inE_l {l : Nat} (h : ssl I I' T) (lT' : l ≤ T) : ∀ m e x, 1 ≤ e → e + m ≤ l → inE I' l m e x = inE I l m e x := by
  intro m
  induction m with
  | zero => intro e x _ _; rfl
  | succ m ih =>
    intro e x e1 el
    show inE I' l m (e + 1) (stp I' e l x) = inE I l m (e + 1) (stp I e l x)
    have : stp I' e l x = stp I e l x := by
      by_cases c : rc I e l
      · rw [stp_y c, stp_y ((rc_l h e1 (by omega) lT').mpr c), (ssl_p h (show 1 ≤ l by omega) lT').2.2.2.2.2, (ssl_p h e1 (show e ≤ T by omega)).1, (ssl_p h (show 1 ≤ l by omega) lT').1]
      · rw [stp_n c, stp_n (fun q => c ((rc_l h e1 (by omega) lT').mp q))]
    rw [this]
    exact ih _ _ (by omega) (by omega)
theorem ouL_l (h : ssl I I' T) : ∀ m l x, 1 ≤ l → l + m ≤ T + 1 → ouL I' m l x = ouL I m l x := by
  intro m
  induction m with
  | zero => intro l x _ _; rfl
  | succ m ih =>
    intro l x l1 lm
    show ouL I' m (l + 1) (inE I' l (l - 1) 1 x) = ouL I m (l + 1) (inE I l (l - 1) 1 x)
    rw [inE_l h (by omega) (l - 1) 1 x (by omega) (by omega)]
    exact ih _ _ (by omega) (by omega)
theorem RDV_l {J J' : Nat → Nat → Int64} (h : ssl I I' T) (hk : ∀ k, 89 ≤ k → k < 96 → I' k = I k) (hJ : J' 95 = J 95) (hr : RDV I J T) : RDV I' J' T := by
  obtain ⟨r1, r2, r3, r4⟩ := hr
  refine ⟨fun l a b => ?_, fun t a b => ?_, fun t a b i hi => ?_, ?_⟩
  · rw [hk 90 (by omega) (by omega), cnR_l h a b]; exact r1 l a b
  · rw [hk 91 (by omega) (by omega), (ssl_p h a b).2.2.2.2.2]; exact r2 t a b
  · rw [hk 92 (by omega) (by omega), V_l h a b]; exact r3 t a b i hi
  · unfold CS at *
    rw [hk 89 (by omega) (by omega), hJ, ouL_l h T 1 x0 (by omega) (by omega)]
    exact r4
/-- the program's lower halves are the same -/
def plo (I I' : Nat → Nat → Int32) : Prop := (∀ k, k < 5 → I' 103 k = I 103 k) ∧ (∀ k, k < 16 → I' 104 k = I 104 k) ∧ (∀ k, k < 4 → I' 105 k = I 105 k) ∧ (∀ j, 106 ≤ j → j < 110 → ∀ k, k < 64 → I' j k = I j k)
theorem p_ok_lo {i n : Nat} (h : plo I I') (hi : i < 64) (hp : p_ok I i n) : p_ok I' i n := by
  obtain ⟨_, _, _, h4⟩ := h
  unfold p_ok at *
  rw [h4 106 (by omega) (by omega) i hi, h4 107 (by omega) (by omega) i hi, h4 108 (by omega) (by omega) i hi, h4 109 (by omega) (by omega) i hi]
  exact hp
theorem p_in_lo (h : plo I I') (hp : p_in I) : p_in I' := by
  obtain ⟨h1, h2⟩ := hp
  have b := vb h1
  unfold p_in
  rw [h.1 4 (by omega)]
  refine ⟨h1, fun t ht => ?_⟩
  obtain ⟨h3, h4⟩ := h2 t ht
  have b3 := vb h3
  rw [h.2.2.1 t (by omega)]
  exact ⟨h3, fun l hl => p_ok_lo h (by omega) (h4 l hl)⟩
theorem p_cl_lo (h : plo I I') (hc' : ∀ k, 12 ≤ k → k < 18 → I' k = I k) (hp : p_in I) (hc : p_cl I) : p_cl I' := by
  obtain ⟨c1, c2, c3, c4⟩ := hc
  have b := vb hp.1
  unfold p_cl
  rw [hc' 12 (by omega) (by omega), hc' 15 (by omega) (by omega), hc' 16 (by omega) (by omega), hc' 17 (by omega) (by omega), h.1 4 (by omega)]
  refine ⟨c1, fun t ht => ?_, fun k hk => by rw [h.2.1 k hk]; exact c3 k hk, fun k hk => by rw [h.1 k (by omega)]; exact c4 k hk⟩
  obtain ⟨c5, c6⟩ := c2 t ht
  have b3 := vb (hp.2 t ht).1
  rw [h.2.2.1 t (by omega)]
  refine ⟨c5, fun l hl => ?_⟩
  have := c6 l hl
  have hi : 16 * t + l < 64 := by omega
  unfold p_op at *
  rw [hc' 13 (by omega) (by omega), hc' 14 (by omega) (by omega), h.2.2.2 106 (by omega) (by omega) _ hi, h.2.2.2 107 (by omega) (by omega) _ hi, h.2.2.2 108 (by omega) (by omega) _ hi, h.2.2.2 109 (by omega) (by omega) _ hi]
  exact this
theorem r_ok_lo {r : Nat → Int32} (h : plo I I') (hp : p_in I) (hr : r_ok I r) : r_ok I' r := by
  obtain ⟨a1, a2, a3, a4⟩ := hr
  have b := vb hp.1
  unfold r_ok
  rw [h.1 4 (by omega)]
  exact ⟨fun t ht => by rw [h.2.2.1 t (by omega)]; exact a1 t ht, a2, a3, a4⟩
theorem go_lo {L s r2 : Nat → Int32} {C : Nat} (h : plo I I') (h3 : I' 123 = I 123) (hp : p_in I) (hr : r_ok I s) (hg : go I L s r2 C) : go I' L s r2 C := by
  obtain ⟨g1, g2, g3, g4, g5⟩ := hg
  obtain ⟨p, n, ep, en, hpn, hn, hi, ht4, hok⟩ := r_at hp hr g2
  have hs := (m_can_t g3).1
  rw [ep, en, nI_ltI (by omega) (by omega)] at hs
  have h64 : m_i s C < 64 := by rw [hi]; omega
  have e6 := h.2.2.2 106 (by omega) (by omega) _ h64
  have e7 := h.2.2.2 107 (by omega) (by omega) _ h64
  have e8 := h.2.2.2 108 (by omega) (by omega) _ h64
  have e9 := h.2.2.2 109 (by omega) (by omega) _ h64
  have e5 := h.2.2.1 C ht4
  refine ⟨g1, by rw [h.1 4 (by omega)]; exact g2, ?_, ?_, g5⟩
  · unfold m_can at *
    rw [e5, e6, e7, e8]
    exact g3
  · unfold m_do m_val m_to m_isB m_ri at *
    simp only [e6, e7, e8, e9, h3] at *
    exact g4
theorem m_first_lo {seed : Int32} (h : plo I I') {k : Nat} : m_first I' seed k = m_first I seed k := by
  unfold m_first
  by_cases c : k < 16
  · rw [if_pos c, if_pos c, h.2.1 k c]
  · rw [if_neg c, if_neg c]
/-- a course, with the upper halves changed -/
theorem CR_lo {cu ac n : Nat} (h : plo I I') (he : ∀ k, 12 ≤ k ∧ k < 18 ∨ 19 ≤ k ∧ k < 39 ∨ 117 ≤ k ∧ k < 125 ∨ k = 126 ∨ k = 127 → I' k = I k) (h18 : ∀ f, f ≠ 12 → I' 18 f = I 18 f) (h12 : I' 99 12 = I 99 12) (h13' : I' 99 13 = I 99 13) (h43 : I' 99 43 = I 99 43) (hst : I' 110 0 = I' 18 12 ∧ I' 110 1 = I' 18 13) (hc : CR I T cu ac n) : CR I' T cu ac n := by
  obtain ⟨h1, h2, h3, h4, h5, h6, h7, h8, h9, h10, h11, h12', h13, h14⟩ := hc
  have b := vb h1.1
  have er : rt I' = rt I := rt_e (he 117 (by omega))
  refine ⟨p_in_lo h h1, p_cl_lo h (fun k a b => he k (by omega)) h1 h2, ?_, ?_, ?_, (gq_e (fun k hk => he k (by omega))).mpr h6, ?_, ?_, ?_, ?_, ?_, ?_, ?_, hst⟩
  · unfold st_ok
    rw [h.1 0 (by omega), h.1 2 (by omega), h.1 3 (by omega)]
    exact h3
  · obtain ⟨w1, w2, w3, w4, w5, w6⟩ := h4
    refine ⟨w1, fun t ht => ?_, fun k hk => ?_, by rw [er]; exact w4, fun t ht => ?_, ?_⟩
    · rw [er]
      exact ⟨r_ok_lo h h1 (w2 t ht).1, (w2 t ht).2⟩
    · rw [h.1 1 (by omega), m_first_lo h, er]
      exact w3 k hk
    · obtain ⟨k, k1, k2⟩ := (w2 t (by omega)).2.1
      have hs := w5 t ht
      obtain ⟨s, C, t1, t2⟩ := hs
      have hko : k_ok I n (-1) 0 := ⟨by omega, w6, fun q => absurd q.symm (nI_nm (by omega))⟩
      obtain ⟨a, _, _⟩ := m_tk_ok (wh := 0) h1 (w2 t (by omega)).1 k2 (by omega) hko t1
      refine ⟨s, C, ?_, ?_⟩
      · rw [er]
        unfold m_tk m_due m_nx at *
        rw [he 120 (by omega), he 121 (by omega), he 122 (by omega)]
        exact t1
      · have el : lm I' T = lm I T := by funext z; unfold lm; rw [er]
        rw [er, el]
        exact go_lo h (he 123 (by omega)) h1 a t2
    · rw [he 122 (by omega), h.1 4 (by omega)]
      exact w6
  · unfold sq
    rw [h18 9 (by decide), he 29 (by omega), he 30 (by omega), he 31 (by omega), he 120 (by omega), he 121 (by omega), he 122 (by omega)]
    exact h5
  · rw [er, he 124 (by omega)]; exact h7
  · rw [h12, h18 10 (by decide)]; exact h8
  · rw [h13', h18 11 (by decide)]; exact h9
  · rw [er, he 19 (by omega)]
    exact ⟨rm_e h10.1 (fun k a b => he k (by omega)), h10.2⟩
  · intro t a b'
    obtain ⟨C, p, q1, q2, q3⟩ := h11 t a b'
    refine ⟨C, p, ?_⟩
    rw [er, h.1 4 (by omega), h.2.2.1 C (by omega), he 119 (by omega), he 118 (by omega), he 33 (by omega)]
    exact ⟨q1, q2, q3⟩
  · unfold DG
    rw [er, h.1 2 (by omega), h.1 4 (by omega), he 32 (by omega)]
    exact h12'
  · obtain ⟨a, b, c, d⟩ := h13
    refine ⟨by rw [h43]; exact a, by rw [he 34 (by omega)]; exact b, c, ?_⟩
    rw [he 124 (by omega)]
    exact aw_e (fun k hk => he k (by omega)) _ _ _ d
theorem ssl_lo {cu ac n : Nat} (h : plo I I') (hc : CR I T cu ac n) (h9 : I' 119 = I 119) (h7 : I' 117 = I 117) : ssl I I' T := by
  intro t t1 tT
  obtain ⟨h1, h2, h3, h4, h5, h6, h7', h8, h9', h10, h11, h12', h13, h14⟩ := hc
  have b := vb h1.1
  obtain ⟨C, p, q1, q2, q3, _⟩ := h11 t t1 tT
  have b2 := vb (h1.2 C q1).1
  have ea : aT I t = 16 * C + p := by unfold aT; rw [q3, nI_clamp (by omega)]
  have ea' : aT I' t = aT I t := by unfold aT; rw [h9]
  have h64 : aT I t < 64 := by rw [ea]; omega
  have e6 := h.2.2.2 106 (by omega) (by omega) _ h64
  have e7 := h.2.2.2 107 (by omega) (by omega) _ h64
  have e8 := h.2.2.2 108 (by omega) (by omega) _ h64
  refine ⟨ea', e6, e7, e8, ?_⟩
  unfold rel lT cT
  rw [ea', e6, e7, rt_e h7]
theorem FRS_lo {J J' : Nat → Nat → Int64} {cu ac n : Nat} (h : plo I I') (hc : CR I T cu ac n) (hk : ∀ k, 89 ≤ k ∧ k < 96 ∨ k = 117 ∨ k = 119 → I' k = I k) (hJ : J' 95 = J 95) (hf : FRS I J T) : FRS I' J' T := by
  rcases hf with z | ⟨z, r⟩
  · exact Or.inl (by rw [hk 89 (by omega)]; exact z)
  · exact Or.inr ⟨by rw [hk 89 (by omega)]; exact z, RDV_l (ssl_lo h hc (hk 119 (by omega)) (hk 117 (by omega))) (fun k a b => hk k (by omega)) hJ r⟩
end
