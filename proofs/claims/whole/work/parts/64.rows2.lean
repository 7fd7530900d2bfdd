/-! rows: cut off, and one more -/
theorem RW_shrink {I : Nat → Nat → Int32} {T T' n n' : Nat} (hp : p_in I) (h : RW I T n) (hT : T' ≤ T) (e : rt I T' 47 = nI n') (hn' : n' ≤ T') : RW I T' n' := by
  have hR := h
  obtain ⟨⟨h1, h1'⟩, h2, h3, h4, h5, h6⟩ := h
  have mT : n' ≤ n := (RW_mono hp hR (T - T') T' (by omega)).1 n' n e (by rw [show T' + (T - T') = T by omega]; exact h4) (by omega) (by omega)
  refine ⟨⟨by omega, hn'⟩, fun t ht => h2 t (by omega), h3, e, fun t ht => ?_, fun i hi => h6 i (by omega)⟩
  obtain ⟨r1, ⟨k, k1, ek⟩, _⟩ := h2 t (by omega)
  obtain ⟨r2, ⟨k2, k12, ek2⟩, _⟩ := h2 (t + 1) (by omega)
  have m := RW_mono hp hR (T' - (t + 1)) (t + 1) (by omega)
  rw [show t + 1 + (T' - (t + 1)) = T' by omega] at m
  exact cs_mv hp r1 ek ek2 (by omega) (by omega) (by omega) (by omega) h6 (fun _ _ _ => rfl) rfl (fun _ _ => ⟨rfl, rfl, rfl⟩) (m.1 k2 n' ek2 e (by omega) (by omega)) (fun a b => absurd b (by omega)) (fun z hz => m.2 z hz) (h5 t (by omega))
theorem m_st_ok {P : Nat → Nat → Int32} {G gv s : Nat → Int32} {T : Nat} (hp : p_in P) (hr : r_ok P s) (hT : T < (P 103 4).toNatClampNeg) (h44 : s 44 = nI T) (hG : ∀ z, z < 3 → vp_in (G z) 31) (hcan : m_can P G s T = true) : r_ok P (m_st P gv s) := by
  have hm := vb hp.1
  obtain ⟨g1, g2, g3⟩ := m_can_t hcan
  obtain ⟨p, n, ep, en, hpn, hn, hi, ht4, hok⟩ := r_at hp hr hT
  have g1' := g1
  rw [ep, en, nI_ltI (by omega) (by omega)] at g1'
  obtain ⟨o, ho, eo, q1, q2, q3, q4, q5, q6⟩ := hok g1'
  refine r_ok_c hp (m_do_ok (t := T) (x := m_inp P gv s T) hp hr hT g1 (fun c6 => ?_)) (c_eq_st (by omega) h44)
  have g2' := g2 c6
  rw [hi] at c6 g2' ⊢
  have o6 : o = 6 := by rw [eo, nI_eq (by omega) (by omega)] at c6; exact c6
  have bz := vb (q5 o6)
  have v1 := hG _ bz
  have v1' := vb v1
  have v2 := hr.2.2.2 _ bz
  have v2' := vb v2
  rw [vc v1, vc v2, nI_ltI (by omega) (by omega)] at g2'
  omega
theorem RW_live {I I' : Nat → Nat → Int32} {T n q : Nat} {G r s1 : Nat → Int32} (hp : p_in I) (h : RW I T n) (hT : T < 400) (hr : e51 r (rt I T)) (hG : ∀ z, z < 3 → vp_in (G z) 31) (hpre : m_pre I G q r = some s1) (hpe : p_eq I I') (e123 : I' 123 = I 123) (e120 : I' 120 = m_rec true r s1 (I 120) (m_lb r)) (e121 : I' 121 = m_rec true r s1 (I 121) (m_lp r)) (e122 : I' 122 = m_rec true r s1 (I 122) (s1 44)) (hrt : ∀ t, t ≤ T → rt I' t = rt I t) (hnew : e51 (m_st I (I 123) s1) (rt I' (T + 1))) : ∃ n', RW I' (T + 1) n' ∧ ((s1 44 = r 44 ∧ n' = n) ∨ (¬ s1 44 = r 44 ∧ n' = n + 1)) := by
  have hR := h
  obtain ⟨⟨h1, h1'⟩, h2, h3, h4, h5, h6⟩ := h
  have hm := vb hp.1
  obtain ⟨rT1, _, rT3⟩ := h2 T (Nat.le_refl _)
  have hrr : r_ok I r := r_ok_c hp rT1 (fun k hk => (hr k (by omega)).symm)
  have r47 : r 47 = nI n := by rw [hr 47 (by omega)]; exact h4
  obtain ⟨C, c1, c2, c3, c4, c5, c6, c7⟩ := m_pre_ok hp hrr hpre
  have hp' : p_in I' := (p_in_e hpe).mpr hp
  have e103 : I' 103 = I 103 := hpe 103 (by omega) (by omega)
  have rst : r_ok I (m_st I (I 123) s1) := m_st_ok hp c6 c1 c2 hG c4
  have key : ∀ n', n' ≤ n + 1 → n ≤ n' → m_st I (I 123) s1 47 = nI n' → cs I' n' (fun z => m_st I (I 123) s1 (48 + z)) r (m_st I (I 123) s1) → (∀ k, k < n → I' 120 k = I 120 k ∧ I' 121 k = I 121 k ∧ I' 122 k = I 122 k) → (∀ i, i < n' → vp_in (I' 122 i) (I' 103 4).toNatClampNeg) → (n' = n + 1 → ¬ r 44 = -1 → I' 120 n = r (16 + 6 * (r 44).toNatClampNeg + 5) ∧ I' 121 n = r (16 + 6 * (r 44).toNatClampNeg + 4)) → RW I' (T + 1) n' := by
    intro n' k1 k2 k3 k4 k5 k6 k7
    have hr' : r_ok I' r := (r_ok_e hpe).mpr hrr
    -- the new step
    have hnewcs : cs I' n' (lm I' (T + 1)) (rt I' T) (rt I' (T + 1)) := by
      obtain ⟨s, D, t1, t2⟩ := k4
      obtain ⟨s', u1, u2⟩ := m_tk_51 hp' hr' (r' := rt I' T) (by rw [hrt T (Nat.le_refl _)]; exact hr) t1
      have hs : r_ok I' s := (m_tk_ok (wh := 0) hp' hr' r47 (by omega) ⟨by omega, k6, fun q => absurd q.symm (nI_nm (by omega))⟩ t1).1
      refine ⟨s', D, u1, go_51 hp' hs u2 hnew (go_mv hp' hs (fun _ _ _ => rfl) rfl (fun z hz => ?_) t2)⟩
      show m_st I (I 123) s1 (48 + z) ≤ rt I' (T + 1) (48 + z)
      rw [hnew _ (by omega)]
      exact Int32.le_refl _
    have rTok : r_ok I' (rt I' T) := by rw [hrt T (Nat.le_refl _)]; exact (r_ok_e hpe).mpr rT1
    have eT47 : rt I' T 47 = nI n := by rw [hrt T (Nat.le_refl _)]; exact h4
    have hrdT := cs_rd hp' rTok eT47 (by omega) (by omega) k6 hnewcs
    refine ⟨⟨by omega, by omega⟩, fun t ht => ?_, ?_, ?_, fun t ht => ?_, k6⟩
    · by_cases ct : t = T + 1
      · subst ct
        refine ⟨r_ok_c hp' ((r_ok_e hpe).mpr rst) (e51_c hnew), ⟨n', by omega, by rw [← hnew _ (by omega)]; exact k3⟩, fun c hc => ?_⟩
        obtain ⟨s, D, a, hg, b, _⟩ := cs_step hp' rTok eT47 (by omega) (by omega) k6 hnewcs
        obtain ⟨bb, hb1, hb2⟩ := rT3 c hc
        have sb : s (16 + 6 * c + 5) = nI bb := by rw [b _ (by omega) (by omega), hrt T (Nat.le_refl _)]; exact hb2
        by_cases cD : c = D
        · subst cD
          obtain ⟨g1, p0, b', p', g2, g3, g4, g5, g6, g7, g8⟩ := go_lx hp' a sb (by omega) hg
          exact ⟨b', by omega, g3⟩
        · exact ⟨bb, by omega, by rw [go_br hp' a hc cD hg]; exact sb⟩
      · rw [hrt t (by omega)]
        obtain ⟨a, b, c⟩ := h2 t (by omega)
        exact ⟨(r_ok_e hpe).mpr a, ⟨b.choose, b.choose_spec.1, b.choose_spec.2⟩, c⟩
    · rw [hrt 0 (by omega), e103]
      intro k hk
      rw [← h3 k hk]
      unfold m_first
      rw [hpe 104 (by omega) (by omega)]
    · rw [← hnew _ (by omega)]; exact k3
    · by_cases ct : t = T
      · subst ct; exact hnewcs
      · rw [hrt t (by omega), hrt (t + 1) (by omega)]
        obtain ⟨r1, ⟨k, kk1, ek⟩, rb⟩ := h2 t (by omega)
        obtain ⟨r2, ⟨kk2, kk12, ek2⟩, _⟩ := h2 (t + 1) (by omega)
        have m := RW_mono hp hR (T - (t + 1)) (t + 1) (by omega)
        rw [show t + 1 + (T - (t + 1)) = T by omega] at m
        have m0 := RW_mono hp hR (T - t) t (by omega)
        rw [show t + (T - t) = T by omega] at m0
        have q1 := m.1 kk2 n ek2 h4 (by omega) (by omega)
        have q0 := m0.1 k n ek h4 (by omega) (by omega)
        refine cs_mv hp r1 ek ek2 (by omega) (by omega) (by omega) (by omega) h6 hpe e123 (fun a _ => k5 k a) (by omega) (fun a b => ?_) (fun z hz => ?_) (h5 t (by omega))
        · -- the new switch is not due at an elder row
          have ekn : k = n := by omega
          subst ekn
          obtain ⟨s, D, sa, hg, sb, hkk⟩ := cs_step hp r1 ek (by omega) (by omega) h6 (h5 t (by omega))
          have hs : s = rt I t := by
            rcases hkk with ⟨q, _⟩ | ⟨q, _⟩
            · exact q
            · omega
          subst hs
          obtain ⟨bb, hb1, hb2⟩ := rb D (by have := hg.2.1; omega)
          obtain ⟨pp, m', ep, em, hpm, hm16, hi, ht4, hok⟩ := r_at hp r1 hg.2.1
          have seq := RW_seq hp hR (T - t - 1) t k D bb pp (by omega) ek (by omega) (by rw [show t + (T - t - 1) + 1 = T by omega]; exact h4) hg.1 ht4 hb2 hb1 ep (by omega)
          rw [show t + (T - t - 1) + 1 = T by omega] at seq
          obtain ⟨s44, b', p', sb', sp', slt, sb4, sp4⟩ := seq
          have r44 : r 44 = nI D := by rw [hr 44 (by omega)]; exact s44
          have rn : ¬ r 44 = -1 := by rw [r44]; exact nI_nm (by omega)
          obtain ⟨z1, z2⟩ := k7 (by omega) rn
          rw [r44, nI_clamp (by omega), hr _ (by omega)] at z1 z2
          intro d
          rcases d with d | ⟨d1, d2⟩
          · exact nI_nm (show D < 2 ^ 31 by omega) (hg.1.symm.trans d)
          · rw [hg.1, nI_clamp (by omega), hb2, z1, sb'] at d1
            rw [hg.1, nI_clamp (by omega), ep, z2, sp'] at d2
            have y1 := nI_inj (by omega) (by omega) d1
            have y2 := nI_inj (by omega) (by omega) d2
            omega
        · have x1 := m.2 z hz
          have x2 := hrdT z hz
          rw [hrt T (Nat.le_refl _)] at x2
          exact Int32.le_trans x1 x2
  rcases live_cs hp hrr r47 (by omega) hpre hpe e123 e120 e121 e122 with ⟨a, b, c⟩ | ⟨a, b, c⟩
  · rw [m_rec_n a] at e120 e121 e122
    refine ⟨n, key n (by omega) (by omega) b c (fun k hk => by rw [e120, e121, e122]; exact ⟨rfl, rfl, rfl⟩) (fun i hi => by rw [e122, e103]; exact h6 i hi) (fun q => absurd q (by omega)), Or.inl ⟨a, rfl⟩⟩
  · rw [m_rec_t a, r47, nI_clamp (by omega)] at e120 e121 e122
    refine ⟨n + 1, key (n + 1) (by omega) (by omega) b c (fun k hk => by rw [e120, e121, e122, upd_ne (by omega), upd_ne (by omega), upd_ne (by omega)]; exact ⟨rfl, rfl, rfl⟩) (fun i hi => ?_) (fun _ rn => ?_), Or.inr ⟨a, rfl⟩⟩
    · rw [e122, e103]
      by_cases ci : i = n
      · rw [ci, upd_eq, c2]; exact vp_in_nI c1 (by omega)
      · rw [upd_ne ci]; exact h6 i (by omega)
    · rw [e120, e121, upd_eq, upd_eq]
      unfold m_lb m_lp
      rw [if_neg rn, if_neg rn]
      exact ⟨rfl, rfl⟩
