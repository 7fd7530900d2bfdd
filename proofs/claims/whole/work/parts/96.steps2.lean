/-! steps: the class puts one down -/
theorem st_k {P : Nat → Nat → Int32} {G gv r s : Nat → Int32} {q k : Nat} (hp : p_in P) (hr : r_ok P r) (h : m_pre P G q r = some s) (hk : k = 44 ∨ k = 46 ∨ k = 47) : m_st P gv s k = s k := by
  obtain ⟨T, t1, t2, t3, t4, t5, t6, t7⟩ := m_pre_ok hp hr h
  have hm := vb hp.1
  unfold m_st
  rw [upd_ne (by omega), t2, nI_clamp (by omega), m_do_k hp t6 t1 (m_can_t t4).1 (by omega) (by omega)]
theorem c29 {E : am_Ev} {I : Nat → Nat → Int32} {J : Nat → Nat → Int64} {S : Nat → Nat → Option Nat} {Q : am_Qt} {r : Nat → Int32} {q pt T n : Nat} (hp : p_in I) (hc : p_cl I) (hr : r_ok I r) (hm : rm I 20 r) (h45 : I 19 2 = r 45) (h46 : I 19 1 = r 46) (hg : gq I) (hq : 0 < q) (hq9 : q < 10) (eq : I 17 0 = nI q) (hpt : 1 ≤ pt) (hpt5 : pt ≤ 50) (ept : I 17 2 = nI pt) (eT : I 18 10 = nI T) (hT : T < 400) (en : I 18 9 = nI n) (er : r 47 = nI n) (hn : n ≤ T)
    (h0 : m_pre I (I 124) q r = none → Q (.inl (some (.int (nI 0)))) E (u_I I 19 (upd (I 19) 4 (nI 0))) J S)
    (h1 : ∀ s I', m_pre I (I 124) q r = some s → rm I' 20 (m_st I (I 123) s) → I' 19 2 = m_st I (I 123) s 45 → I' 19 1 = m_st I (I 123) s 46 → I' 29 = m_rec true r s (I 29) (m_lb r) → I' 30 = m_rec true r s (I 30) (m_lp r) → I' 31 = m_rec true r s (I 31) (s 44) → I' 18 = upd (upd (I 18) 9 (s 47)) 10 (nI (T + 1)) → I' 33 = upd (I 33) (T + 1) (nI (m_i r (s 44).toNatClampNeg)) → I' 32 = (if (T + 1) % pt = 0 then upd (I 32) ((T + 1) / pt - 1) (dg (I 103 4).toNatClampNeg (m_st I (I 123) s)) else I 32) → (∀ k, k < 18 ∨ 26 < k ∧ k < 29 ∨ 33 < k → I' k = I k) → Q (.inl (some (.int (nI 1)))) E I' J S) : am_cl 29 [.ref 18, .ref 12] E I J S Q := by
  show am_ww 29 0 [.ref 18, .ref 12] [] E I J S Q
  apply g29_0
  rw [eT, eq, nI_leI (by omega) (by omega)]
  refine ⟨fun q => absurd q (by omega), fun _ => ?_⟩
  refine c30_19 hp hc hr hm h45 h46 hg hq hq9 (fun e => q_mkI ⟨fun _ => h0 e, fun q => absurd nI_0 q⟩) (fun s I1 e m1 l1 d1 r1 t1 w1 f1 => q_mkI ⟨fun q => absurd q (by decide), fun _ => ?_⟩)
  obtain ⟨U, u1, u2, u3, u4, u5, u6, u7⟩ := m_pre_ok hp hr e
  have hmm := vb hp.1
  have s44 := st_k (gv := I 123) hp hr e (k := 44) (by omega)
  have e18 : I1 18 = I 18 := f1 18 (by omega)
  have hp1 : p_eq I I1 := p_eq_fb f1 (by omega)
  have hq1 : p_q I I1 := p_q_fb f1 (by omega)
  -- behind the switch
  have key : ∀ I2 : Nat → Nat → Int32, (∀ k, 19 ≤ k ∧ k ≤ 26 → I2 k = I1 k) → (∀ k, k < 18 ∨ 26 < k ∧ k < 29 ∨ 31 < k → I2 k = I k) → I2 29 = m_rec true r s (I 29) (m_lb r) → I2 30 = m_rec true r s (I 30) (m_lp r) → I2 31 = m_rec true r s (I 31) (s 44) → I2 18 = upd (I 18) 9 (s 47) → am_ww 29 55 [.ref 18, .ref 12] [] E I2 J S Q := by
    intro I2 k1 k2 k29 k30 k31 k18
    apply g29_55
    have y10 : I2 18 10 = nI T := by rw [k18, upd_ne (by omega)]; exact eT
    have y17 : I2 17 2 = nI pt := by rw [k2 17 (by omega)]; exact ept
    have ew : (if nI 1 < nI pt then nI pt else nI 1) = nI pt := by
      by_cases c : 1 < pt
      · rw [if_pos ((nI_ltI (by omega) (by omega)).mpr c)]
      · rw [if_neg (fun q => c ((nI_ltI (by omega) (by omega)).mp q)), show pt = 1 by omega]
    rw [y10, y17, ew, nI_add, nI_clamp (by omega), k1 19 (by omega), r1]
    refine ⟨vp_in_nI (by omega) (by omega), fun w2 e2 => ?_⟩
    subst e2
    refine ⟨nI_ne0 (by omega) (by omega), ?_⟩
    rw [nI_remI (by omega) (by omega), nI_e0 (by have := Nat.mod_lt (T + 1) (show pt > 0 by omega); omega)]
    have z18 : u_I (u_I I2 18 (upd (I2 18) 10 (nI (T + 1)))) 33 (upd (I2 33) (T + 1) (nI (m_i r (s 44).toNatClampNeg))) 18 = upd (upd (I 18) 9 (s 47)) 10 (nI (T + 1)) := by rw [u_I_ne (by decide), u_I_eq, k18]
    have z33 : u_I (u_I I2 18 (upd (I2 18) 10 (nI (T + 1)))) 33 (upd (I2 33) (T + 1) (nI (m_i r (s 44).toNatClampNeg))) 33 = upd (I 33) (T + 1) (nI (m_i r (s 44).toNatClampNeg)) := by rw [u_I_eq, k2 33 (by omega)]
    have zo : ∀ k, k ≠ 18 → k ≠ 33 → u_I (u_I I2 18 (upd (I2 18) 10 (nI (T + 1)))) 33 (upd (I2 33) (T + 1) (nI (m_i r (s 44).toNatClampNeg))) k = I2 k := fun k a b => by rw [u_I_ne b, u_I_ne a]
    generalize u_I (u_I I2 18 (upd (I2 18) 10 (nI (T + 1)))) 33 (upd (I2 33) (T + 1) (nI (m_i r (s 44).toNatClampNeg))) = I3 at z18 z33 zo ⊢
    have m3 : rm I3 20 (m_st I (I 123) s) := rm_e m1 (fun k a b => by rw [zo k (by omega) (by omega), k1 k (by omega)])
    have hpe3 : p_q I I3 := ⟨fun k a b => by rw [zo k (by omega) (by omega), k2 k (by omega)], fun k a b => by rw [zo k (by omega) (by omega), k2 k (by omega)]⟩
    obtain ⟨D1, D2⟩ := dv (p := pt) (T := T) (by omega)
    refine ⟨fun c => ?_, fun c => ?_⟩
    · intro w3 e3
      subst e3
      refine ⟨nI_ne0 (by omega) (by omega), ?_⟩
      refine c40_20 ((p_in_e hpe3.2).mpr hp) ((p_cl_e hpe3).mpr hc) m3 (q_mkI ?_)
      have b1 : (T + 1) / pt ≤ T + 1 := Nat.div_le_self _ _
      have b2 := (D1 c).1
      have b3 : 1 ≤ (T + 1) / pt := by rw [b2]; exact Nat.le_add_left _ _
      have b4 : (T + 1) / pt - 1 < 400 := by omega
      generalize hdd : (T + 1) / pt = dd at b1 b2 b3 b4
      rw [nI_divI (by omega) (by omega), hdd, nI_subI b3, nI_clamp (by omega), zo 32 (by omega) (by omega), k2 32 (by omega), hpe3.2 103 (by omega) (by omega)]
      refine ⟨vp_in_nI (by omega) (by omega), h1 s _ e (rm_e m3 (fun k a b => u_I_ne (by omega))) ?_ ?_ ?_ ?_ ?_ ?_ ?_ ?_ ?_⟩
      · rw [u_I_ne (by decide), zo 19 (by omega) (by omega), k1 19 (by omega)]; exact l1
      · rw [u_I_ne (by decide), zo 19 (by omega) (by omega), k1 19 (by omega)]; exact d1
      · rw [u_I_ne (by decide), zo 29 (by omega) (by omega)]; exact k29
      · rw [u_I_ne (by decide), zo 30 (by omega) (by omega)]; exact k30
      · rw [u_I_ne (by decide), zo 31 (by omega) (by omega)]; exact k31
      · rw [u_I_ne (by decide)]; exact z18
      · rw [u_I_ne (by decide)]; exact z33
      · rw [u_I_eq, if_pos c, hdd]
      · intro k hk
        rw [u_I_ne (by omega), zo k (by omega) (by omega), k2 k (by omega)]
    · refine h1 s _ e m3 ?_ ?_ ?_ ?_ ?_ z18 z33 ?_ ?_
      · rw [zo 19 (by omega) (by omega), k1 19 (by omega)]; exact l1
      · rw [zo 19 (by omega) (by omega), k1 19 (by omega)]; exact d1
      · rw [zo 29 (by omega) (by omega)]; exact k29
      · rw [zo 30 (by omega) (by omega)]; exact k30
      · rw [zo 31 (by omega) (by omega)]; exact k31
      · rw [zo 32 (by omega) (by omega), k2 32 (by omega), if_neg c]
      · intro k hk
        rw [zo k (by omega) (by omega), k2 k (by omega)]
  rw [t1]
  by_cases c : s 44 = r 44
  · rw [if_pos c]
    refine ⟨fun _ => key I1 (fun k _ => rfl) (fun k hk => f1 k (by omega)) ?_ ?_ ?_ ?_, fun q => absurd nI_0 q⟩
    · rw [f1 29 (by omega), m_rec_n c]
    · rw [f1 30 (by omega), m_rec_n c]
    · rw [f1 31 (by omega), m_rec_n c]
    · rw [e18, u7, if_pos c, er, upd_id en]
  · rw [if_neg c, e18, en, nI_leI (by omega) (by omega), (w1 c).1, (w1 c).2]
    refine ⟨fun q => absurd q (by decide), fun _ => ⟨fun q => absurd q (by omega), fun _ => ⟨vp_in_nI (by omega) (by omega), ?_⟩⟩⟩
    rw [nI_clamp (by omega), f1 29 (by omega), f1 30 (by omega), f1 31 (by omega), m1.2.2.2.2.2.1, s44, nI_add]
    have er' : (r 47).toNatClampNeg = n := by rw [er, nI_clamp (by omega)]
    refine key _ (fun k hk => ?_) (fun k hk => ?_) ?_ ?_ ?_ ?_
    · rw [u_I_ne (by omega), u_I_ne (by omega), u_I_ne (by omega), u_I_ne (by omega)]
    · rw [u_I_ne (by omega), u_I_ne (by omega), u_I_ne (by omega), u_I_ne (by omega), f1 k (by omega)]
    · rw [u_I_ne (by decide), u_I_ne (by decide), u_I_ne (by decide), u_I_eq, m_rec_t c, er']
    · rw [u_I_ne (by decide), u_I_ne (by decide), u_I_eq, m_rec_t c, er']
    · rw [u_I_ne (by decide), u_I_eq, m_rec_t c, er']
    · rw [u_I_eq, u7, if_neg c, er, nI_add]
/-- the course relation, one step on; M: the class's objects with the reference's, M' behind the step -/
theorem CR_live {M M' : Nat → Nat → Int32} {r s : Nat → Int32} {T cu ac n q : Nat} (hcr : CR M T cu ac n) (hT : T < 400) (hr : e51 r (rt M T)) (hpre : m_pre M (M 124) q r = some s) (hst : ∃ j, ac = j + 1 ∧ M 126 j = -1)
    (m20 : rm M' 20 (m_st M (M 123) s)) (l19 : M' 19 2 = m_st M (M 123) s 45) (d19 : M' 19 1 = m_st M (M 123) s 46) (e29 : M' 29 = m_rec true r s (M 29) (m_lb r)) (e30 : M' 30 = m_rec true r s (M 30) (m_lp r)) (e31 : M' 31 = m_rec true r s (M 31) (s 44)) (e18 : M' 18 = upd (upd (M 18) 9 (s 47)) 10 (nI (T + 1))) (e33 : M' 33 = upd (M 33) (T + 1) (nI (m_i r (s 44).toNatClampNeg))) (e32 : M' 32 = (if (T + 1) % (M 103 2).toNatClampNeg = 0 then upd (M 32) ((T + 1) / (M 103 2).toNatClampNeg - 1) (dg (M 103 4).toNatClampNeg (m_st M (M 123) s)) else M 32))
    (e12 : M' 99 12 = nI (T + 1)) (e13 : M' 99 13 = M 99 13) (e43 : M' 99 43 = M 99 43) (e117 : M' 117 = cpk (M 117) (m_st M (M 123) s) (51 * (T + 1)) 51) (e118 : M' 118 = upd (M 118) (T + 1) (s 44)) (e119 : M' 119 = upd (M 119) (T + 1) (nI (m_i r (s 44).toNatClampNeg))) (e120 : M' 120 = m_rec true r s (M 120) (m_lb r)) (e121 : M' 121 = m_rec true r s (M 121) (m_lp r)) (e122 : M' 122 = m_rec true r s (M 122) (s 44))
    (hf : ∀ k, 12 ≤ k ∧ k < 18 ∨ 27 ≤ k ∧ k < 29 ∨ 34 ≤ k ∧ k < 39 ∨ 103 ≤ k ∧ k < 111 ∨ 123 ≤ k ∧ k < 125 ∨ 126 ≤ k ∧ k < 128 → M' k = M k) : ∃ n', CR M' (T + 1) cu ac n' ∧ e51 (m_st M (M 123) s) (rt M' (T + 1)) := by
  obtain ⟨h1, h2, h3, h4, h5, h6, h7, h8, h9, h10, h11, h12, h13, h14⟩ := hcr
  have hpe : p_eq M M' := fun j a b => hf j (by omega)
  have hq : p_q M M' := ⟨fun j a b => hf j (by omega), hpe⟩
  have hm := vb h1.1
  have hG : ∀ z, z < 3 → vp_in (M 124 z) 31 := fun z hz => (h6 z hz).2.1
  have hrt : ∀ t, t ≤ T → rt M' t = rt M t := by
    intro t ht
    funext k
    unfold rt
    by_cases c : k < 51
    · rw [if_pos c, if_pos c, e117, cpk_out (by omega)]
    · rw [if_neg c, if_neg c]
  have hnew : e51 (m_st M (M 123) s) (rt M' (T + 1)) := by
    intro k hk
    rw [rt_k hk, e117, cpk_in hk]
  obtain ⟨n', hR, hn'⟩ := RW_live h1 h4 hT hr hG hpre hpe (hf 123 (by omega)) e120 e121 e122 hrt hnew
  have hrr : r_ok M r := r_ok_c h1 (h4.2.1 T (Nat.le_refl _)).1 (fun k hk => (hr k (by omega)).symm)
  have r47 : r 47 = nI n := by rw [hr 47 (by omega)]; exact h4.2.2.2.1
  obtain ⟨U, u1, u2, u3, u4, u5, u6, u7⟩ := m_pre_ok h1 hrr hpre
  have hnT := h4.1.2
  have er' : (r 47).toNatClampNeg = n := by rw [r47, nI_clamp (by omega)]
  have s44 := st_k (gv := M 123) h1 hrr hpre (k := 44) (by omega)
  have f18 : ∀ f, f ≠ 9 → f ≠ 10 → M' 18 f = M 18 f := fun f a b => by rw [e18, upd_ne b, upd_ne a]
  refine ⟨n', ⟨(p_in_e hpe).mpr h1, (p_cl_e hq).mpr h2, ?_, hR, ?_, ?_, ?_, ⟨e12, ?_⟩, ⟨?_, ?_, ?_⟩, ⟨?_, ?_, ?_⟩, ?_, ?_, ?_, ?_⟩, hnew⟩
  · unfold st_ok
    rw [hf 103 (by omega)]
    exact h3
  · refine ⟨?_, fun i hi => ?_⟩
    · rw [e18, upd_ne (by omega), upd_eq, u7]
      rcases hn' with ⟨a, b⟩ | ⟨a, b⟩
      · rw [if_pos a, r47, b]
      · rw [if_neg a, r47, nI_add, b]
    · rw [e29, e30, e31, e120, e121, e122]
      rcases hn' with ⟨a, b⟩ | ⟨a, b⟩
      · rw [m_rec_n a, m_rec_n a, m_rec_n a, m_rec_n a, m_rec_n a, m_rec_n a]
        exact h5.2 i (by omega)
      · rw [m_rec_t a, m_rec_t a, m_rec_t a, m_rec_t a, m_rec_t a, m_rec_t a, er']
        by_cases c : i = n
        · subst c
          rw [upd_eq, upd_eq, upd_eq, upd_eq, upd_eq, upd_eq]
          exact ⟨rfl, rfl, rfl⟩
        · rw [upd_ne c, upd_ne c, upd_ne c, upd_ne c, upd_ne c, upd_ne c]
          exact h5.2 i (by omega)
  · exact (gq_e (fun k hk => hf k (by omega))).mpr h6
  · intro z hz
    rw [hf 124 (by omega), ← hnew _ (by omega)]
    refine st_rd h1 hrr hG hpre hz ?_
    rw [hr _ (by omega)]
    exact h7 z hz
  · rw [e18, upd_eq]
  · rw [e13]; exact h9.1
  · rw [f18 11 (by omega) (by omega)]; exact h9.2.1
  · have := h9.2.2; omega
  · exact rm_c m20 (e51_c hnew)
  · rw [l19, hnew 45 (by omega)]
  · rw [d19, hnew 46 (by omega)]
  · intro t a b
    by_cases c : t = T + 1
    · subst c
      obtain ⟨p, l, ep, en, hpn, hn, hi, ht4, hok⟩ := r_at h1 hrr u1
      have g1 := (m_can_t u3).1
      rw [ep, en, nI_ltI (by omega) (by omega)] at g1
      have eU : (s 44).toNatClampNeg = U := by rw [u2, nI_clamp (by omega)]
      refine ⟨U, p, ?_, ?_, ?_, ?_, ?_, ?_, ?_⟩
      · rw [hf 103 (by omega)]; exact u1
      · rw [hf 105 (by omega), en, nI_clamp (by omega)]; exact g1
      · rw [e119, upd_eq, eU, hi]
      · rw [e118, upd_eq, u2]
      · rw [e33, e119, upd_eq, upd_eq]
      · rw [← hnew 44 (by omega), s44, u2]
      · rw [show T + 1 - 1 = T by omega, hrt T (Nat.le_refl _), ← hr _ (by omega)]; exact ep
    · obtain ⟨C, p, v⟩ := h11 t a (by omega)
      refine ⟨C, p, ?_⟩
      rw [hrt t (by omega), hrt (t - 1) (by omega), hf 103 (by omega), hf 105 (by omega), e119, e118, e33, upd_ne c, upd_ne c, upd_ne c]
      exact v
  · obtain ⟨pt, p1, p2, p3⟩ := h3.2.1
    have ep : (M 103 2).toNatClampNeg = pt := by rw [p3, nI_clamp (by omega)]
    obtain ⟨D1, D2⟩ := dv (p := pt) (T := T) (by omega)
    rw [ep] at e32
    unfold DG at h12 ⊢
    rw [hf 103 (by omega), ep]
    rw [ep] at h12
    intro i hi
    by_cases c : (T + 1) % pt = 0
    · obtain ⟨D1, D3⟩ := D1 c
      rw [if_pos c] at e32
      rw [e32]
      by_cases ci : i = (T + 1) / pt - 1
      · subst ci
        rw [upd_eq, show (T + 1) / pt - 1 + 1 = (T + 1) / pt by omega, D3]
        exact dg_c (by omega) (e51_c hnew)
      · have e4 : pt * (i + 1) ≤ pt * (T / pt) := Nat.mul_le_mul_left _ (by omega)
        have e5 : pt * (T / pt) ≤ T := Nat.mul_div_le _ _
        rw [upd_ne ci, hrt _ (by omega)]
        exact h12 i (by omega)
    · rw [D2 c] at hi
      have e4 : pt * (i + 1) ≤ pt * (T / pt) := Nat.mul_le_mul_left _ hi
      have e5 : pt * (T / pt) ≤ T := Nat.mul_div_le _ _
      rw [if_neg c] at e32
      rw [e32, hrt _ (by omega)]
      exact h12 i hi
  · obtain ⟨a, b, c, d⟩ := h13
    obtain ⟨j, rfl, ej⟩ := hst
    refine ⟨by rw [e43]; exact a, by rw [hf 34 (by omega)]; exact b, c, ?_⟩
    rw [hf 124 (by omega)]
    obtain ⟨w1, w2⟩ := d
    unfold aw
    rw [hf 35 (by omega), hf 36 (by omega), hf 37 (by omega), hf 38 (by omega), hf 126 (by omega), hf 127 (by omega)]
    refine ⟨w1, ?_⟩
    rcases w2 with ⟨x1, t, x2, x3, x4, x5, x6⟩ | ⟨z, x1, x2, x3, x4, x5, x6⟩
    · refine Or.inl ⟨x1, t, x2, by omega, by rw [hrt t x3]; exact x4, by rw [hrt t x3]; exact x5, aw_r (fun k hk => hf k (by omega)) hrt _ _ _ x3 x6⟩
    · exact absurd (ej.symm.trans x2) (m1_0 (by omega))
  · rw [hf 110 (by omega), f18 12 (by omega) (by omega), f18 13 (by omega) (by omega)]
    exact h14
