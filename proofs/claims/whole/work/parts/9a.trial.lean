/-! trials -/
theorem st_51 {P : Nat → Nat → Int32} {gv s s' : Nat → Int32} {T : Nat} (hp : p_in P) (hr : r_ok P s) (hT : T < (P 103 4).toNatClampNeg) (h44 : s 44 = nI T) (hs : s (16 + 6 * T + 4) < P 105 T) (h : e51 s s') : e51 (m_st P gv s) (m_st P gv s') := by
  have hm := vb hp.1
  have hr' : r_ok P s' := r_ok_c hp hr (e51_c h)
  have h44' : s' 44 = nI T := by rw [← h 44 (by omega)]; exact h44
  have hs' : s' (16 + 6 * T + 4) < P 105 T := by rw [← h _ (by omega)]; exact hs
  obtain ⟨p, n, ep, en, hpn, hn, hi, ht4, hok⟩ := r_at hp hr hT
  have ep' : s' (16 + 6 * T + 4) = nI p := by rw [← h _ (by omega)]; exact ep
  have hi' : m_i s' T = 16 * T + p := by unfold m_i; rw [ep', nI_clamp (by omega)]
  have hs2 := hs
  rw [ep, en, nI_ltI (by omega) (by omega)] at hs2
  obtain ⟨o, ho, eo, q1, q2, q3, q4, q5, q6⟩ := hok hs2
  have ei : m_inp P gv s T = m_inp P gv s' T := by
    unfold m_inp
    rw [hi, hi', eo]
    by_cases c : o = 6
    · have b := vb (q5 c)
      rw [h _ (by omega)]
    · rw [if_neg (by rw [nI_eq (by omega) (by omega)]; exact c), if_neg (by rw [nI_eq (by omega) (by omega)]; exact c)]
  have hc := m_do_c (x := m_inp P gv s T) hp hr hT hs (e51_c h)
  intro k hk
  unfold m_st
  rw [h44, h44', nI_clamp (by omega), ← ei]
  by_cases c : k = 45
  · subst c
    rw [upd_eq, upd_eq, h 45 (by omega)]
  · rw [upd_ne c, upd_ne c]
    by_cases c2 : k < 45 ∨ 48 ≤ k
    · exact hc k (by omega)
    · rw [m_do_k hp hr hT hs (by omega) (by omega), m_do_k hp hr' hT hs' (by omega) (by omega), h k hk]
theorem pre_51 {P : Nat → Nat → Int32} {G r r' : Nat → Int32} {q : Nat} (hp : p_in P) (hr : r_ok P r) (h : e51 r r') : (m_pre P G q r = none → m_pre P G q r' = none) ∧ (∀ s, m_pre P G q r = some s → ∃ s', m_pre P G q r' = some s' ∧ e51 s s') := by
  have hm := vb hp.1
  have hcan : ∀ t, t < (P 103 4).toNatClampNeg → m_can P G r t = m_can P G r' t := fun t ht => m_can_c hp hr ht (e51_c h)
  have hcnt : m_cnt (m_can P G r) (P 103 4).toNatClampNeg 0 = m_cnt (m_can P G r') (P 103 4).toNatClampNeg 0 := m_cnt_congr _ _ (fun j _ hj => hcan j (by omega))
  have hsel : ∀ k, m_sel (m_can P G r) (P 103 4).toNatClampNeg 0 k = m_sel (m_can P G r') (P 103 4).toNatClampNeg 0 k := fun k => m_sel_congr _ _ _ (fun j _ hj => hcan j (by omega))
  have hneed : m_need P G r = m_need P G r' := by
    unfold m_need
    rw [← h 44 (by omega), ← h 45 (by omega)]
    rcases hr.2.2.1 with c | c
    · simp only [decide_eq_true c, Bool.true_or]
    · rw [hcan _ (vb c)]
  unfold m_pre
  rw [← hneed, ← hcnt]
  by_cases c : m_need P G r = true
  · rw [if_pos c, if_pos c]
    by_cases c2 : m_cnt (m_can P G r) (P 103 4).toNatClampNeg 0 = 0
    · rw [if_pos c2, if_pos c2]
      exact ⟨fun _ => rfl, fun s e => nomatch e⟩
    · rw [if_neg c2, if_neg c2]
      refine ⟨fun e => (nomatch e), fun s e => ⟨_, rfl, ?_⟩⟩
      cases e
      obtain ⟨a1, a2, a3, a4⟩ := m_ch_all (P := P) (G := G) (r := r) (q := q)
      obtain ⟨b1, b2, b3, b4⟩ := m_ch_all (P := P) (G := G) (r := r') (q := q)
      obtain ⟨_, _, _, _, _, x47⟩ := m_ch_at (q := q) c2
      obtain ⟨_, _, _, _, _, y47⟩ := m_ch_at (P := P) (G := G) (r := r') (q := q) (by rw [← hcnt]; exact c2)
      have e44 : m_ch P G q r 44 = m_ch P G q r' 44 := by rw [a1, b1, h 46 (by omega), hcnt, hsel]
      intro k hk
      by_cases k44 : k = 44
      · rw [k44]; exact e44
      by_cases k45 : k = 45
      · rw [k45, a2, b2, h 46 (by omega)]
      by_cases k46 : k = 46
      · rw [k46, a3, b3, h 46 (by omega)]
      by_cases k47 : k = 47
      · rw [k47, x47, y47, e44, h 44 (by omega), h 47 (by omega)]
      rw [a4 k (by omega), b4 k (by omega), h k hk]
  · rw [if_neg c, if_neg c]
    refine ⟨fun e => (nomatch e), fun s e => ⟨r', rfl, ?_⟩⟩
    cases e
    exact h
/-- so many steps, or as many as can be -/
def tr (P : Nat → Nat → Int32) (q : Nat) : Nat → (Nat → Int32) → Nat → Int32
  | 0, r => r
  | n + 1, r => match m_pre P (P 124) q r with
    | some s => tr P q n (m_st P (P 123) s)
    | none => r
theorem tr_s {P : Nat → Nat → Int32} {q n : Nat} {r s : Nat → Int32} (h : m_pre P (P 124) q r = some s) : tr P q (n + 1) r = tr P q n (m_st P (P 123) s) := by
  show (match m_pre P (P 124) q r with | some s => tr P q n (m_st P (P 123) s) | none => r) = _
  rw [h]
theorem tr_n {P : Nat → Nat → Int32} {q n : Nat} {r : Nat → Int32} (h : m_pre P (P 124) q r = none) : tr P q n r = r := by
  cases n with
  | zero => rfl
  | succ n =>
    show (match m_pre P (P 124) q r with | some s => tr P q n (m_st P (P 123) s) | none => r) = _
    rw [h]
theorem tr_e {P P' : Nat → Nat → Int32} {q : Nat} (h : p_eq P P') (h3 : P' 123 = P 123) (h4 : P' 124 = P 124) : ∀ n r, tr P' q n r = tr P q n r := by
  intro n
  induction n with
  | zero => intro r; rfl
  | succ n ih =>
    intro r
    have e : m_pre P' (P' 124) q r = m_pre P (P 124) q r := by rw [m_pre_e h, h4]
    cases c : m_pre P (P 124) q r with
    | none => rw [tr_n c, tr_n (e.trans c)]
    | some s => rw [tr_s c, tr_s (e.trans c), ih, m_st_e h, h3]
theorem first_e {P P' : Nat → Nat → Int32} {x : Int32} (h : p_eq P P') : m_first P' x = m_first P x := by
  funext k
  unfold m_first
  rw [h 104 (by omega) (by omega)]
theorem first_ok {I : Nat → Nat → Int32} {T n : Nat} {x : Int32} (hp : p_in I) (h : RW I T n) : r_ok I (m_first I x) := by
  refine r_ok_c hp (h.2.1 0 (Nat.zero_le _)).1 (fun k hk => ?_)
  rw [← h.2.2.1 k (by omega)]
  unfold m_first
  by_cases c1 : k < 16
  · rw [if_pos c1, if_pos c1]
  rw [if_neg c1, if_neg c1]
  by_cases c2 : 40 ≤ k ∧ k < 45
  · rw [if_pos c2, if_pos c2]
  rw [if_neg c2, if_neg c2, if_neg (by omega), if_neg (by omega)]
/-- what the trials change -/
theorem c179 {E : am_Ev} {I : Nat → Nat → Int32} {J : Nat → Nat → Int64} {S : Nat → Nat → Option Nat} {Q : am_Qt} {seed : Int32} {q n : Nat} (hp : p_in I) (hc : p_cl I) (hg : gq I) (hr : r_ok I (m_first I seed)) (hq : 0 < q) (hq9 : q < 10) (hn : n ≤ 400) (h : ∀ I', rm I' 77 (tr I q n (m_first I seed)) → fb I I' 76 83 → Q (.inl (some (.int (tr I q n (m_first I seed) 47)))) E I' J S) : am_cl 179 [.ref 0, .int (nI n), .int seed, .int (nI q)] E I J S Q := by
  show am_ww 179 0 [.ref 0, .int (nI n), .int seed, .int (nI q), am_U, am_U] [] E I J S Q
  apply g179_0
  have l : ∀ m j r (I1 : Nat → Nat → Int32), j + m = n → rm I1 77 r → I1 76 2 = r 45 → I1 76 1 = r 46 → r_ok I r → fb I I1 76 83 → (∀ I', rm I' 77 (tr I q m r) → fb I I' 76 83 → Q (.inl (some (.int (tr I q m r 47)))) E I' J S) → am_ww 179 10 [.ref 0, .int (nI n), .int seed, .int (nI q), .int (r 47), .int (nI j)] [] E I1 J S Q := by
    intro m
    induction m with
    | zero =>
      intro j r I1 ej m1 e2 e1 hr f1 h
      apply g179_10 rfl
      rw [nI_leI (by omega) (by omega)]
      exact ⟨fun _ => h I1 m1 f1, fun q => absurd (by omega) q⟩
    | succ m ih =>
      intro j r I1 ej m1 e2 e1 hr f1 h
      apply g179_10 rfl
      rw [nI_leI (by omega) (by omega)]
      refine ⟨fun q => absurd q (by omega), fun _ => ?_⟩
      have hpe : p_eq I I1 := p_eq_fb f1 (by omega)
      have hpq : p_q I I1 := p_q_fb f1 (by omega)
      have epre : m_pre I1 (I1 124) q r = m_pre I (I 124) q r := by rw [m_pre_e hpe, f1 124 (by omega)]
      refine c30_76 ((p_in_e hpe).mpr hp) ((p_cl_e hpq).mpr hc) ((r_ok_e hpe).mpr hr) m1 e2 e1 ((gq_e (fun k hk => f1 k (by omega))).mpr hg) hq hq9 (fun en => q_mkI ⟨fun _ => ?_, fun q => absurd nI_0 q⟩) (fun s I2 es m2 l2 d2 r2 t2 w2 f2 => q_mkI ⟨fun q => absurd q (by decide), fun _ => ?_⟩)
      · rw [epre] at en
        rw [tr_n en] at h
        exact h _ (rm_e m1 (fun k a b => u_I_ne (by omega))) (fb_u f1 (by omega) (by omega))
      · rw [epre] at es
        rw [tr_s es] at h
        have est : m_st I1 (I1 123) s = m_st I (I 123) s := by rw [m_st_e hpe, f1 123 (by omega)]
        rw [est] at m2 l2 d2
        obtain ⟨U, u1, u2, u3, u4, u5, u6, u7⟩ := m_pre_ok hp hr es
        have hok : r_ok I (m_st I (I 123) s) := m_st_ok hp u6 u1 u2 (fun z hz => (hg z hz).2.1) u4
        have e47 := st_k (gv := I 123) hp hr es (k := 47) (by omega)
        have nx := ih (j + 1) (m_st I (I 123) s) I2 (by omega) m2 l2 d2 hok (fb_tr f1 f2) h
        rw [e47, u7] at nx
        rw [t2, nI_add]
        by_cases c : s 44 = r 44
        · rw [if_pos c] at nx ⊢
          exact ⟨fun _ => nx, fun q => absurd nI_0 q⟩
        · rw [if_neg c] at nx ⊢
          exact ⟨fun q => absurd q (by decide), fun _ => nx⟩
  refine c15_76 (seed := seed) hc.2.2.1 (fun I1 m1 e1 f1 => q_mkV ?_)
  have h45 : m_first I seed 45 = nI 0 := rfl
  have h46 : m_first I seed 46 = seed := rfl
  have h47 : m_first I seed 47 = nI 0 := rfl
  have := l n 0 (m_first I seed) I1 (by omega) m1 (by rw [e1, upd_eq, h45]) (by rw [e1, upd_ne (by omega), upd_eq, h46]) hr f1 h
  rw [h47] at this
  exact this
theorem m285 {E : am_Ev} {I : Nat → Nat → Int32} {J : Nat → Nat → Int64} {S : Nat → Nat → Option Nat} {Q : am_Qt} {seed : Int32} {q n : Nat} (hp : p_in I) (hG : ∀ s, s < 3 → vp_in (I 124 s) 31) (hr : r_ok I (m_first I seed)) (hq : 0 < q) (hq9 : q < 10) (hn : n ≤ 400) (h : ∀ I', e51 (I' 116) (tr I q n (m_first I seed)) → fr I I' [99, 116] → (∀ f, f ≠ 39 → f ≠ 40 → I' 99 f = I 99 f) → Q (.inl none) E I' J S) : am_cl 285 [.ref 99, .int seed, .int (nI q), .int (nI n)] E I J S Q := by
  show am_ww 285 0 [.ref 99, .int seed, .int (nI q), .int (nI n), am_U, am_U] [] E I J S Q
  apply g285_0
  have l : ∀ m j r (I1 : Nat → Nat → Int32), j + m = n → e51 (I1 116) r → r_ok I r → fr I I1 [99, 116] → (∀ f, f ≠ 39 → f ≠ 40 → I1 99 f = I 99 f) → (∀ I', e51 (I' 116) (tr I q m r) → fr I I' [99, 116] → (∀ f, f ≠ 39 → f ≠ 40 → I' 99 f = I 99 f) → Q (.inl none) E I' J S) → am_ww 285 7 [.ref 99, .int seed, .int (nI q), .int (nI n), .int (nI 1), .int (nI j)] [] E I1 J S Q := by
    intro m
    induction m with
    | zero =>
      intro j r I1 ej e1 hr f1 g1 h
      apply g285_7 rfl
      rw [nI_leI (by omega) (by omega)]
      exact ⟨fun _ => h I1 e1 f1 g1, fun q => absurd (by omega) q⟩
    | succ m ih =>
      intro j r I1 ej e1 hr f1 g1 h
      apply g285_7 rfl
      rw [nI_leI (by omega) (by omega)]
      refine ⟨fun q => absurd q (by omega), fun _ => ⟨fun q => absurd q (by decide), fun _ => ?_⟩⟩
      have hpe : p_eq I I1 := p_eq_fr f1 (by simp)
      have e124 : I1 124 = I 124 := f1 124 (by decide)
      have e123 : I1 123 = I 123 := f1 123 (by decide)
      have hr1 : r_ok I (I1 116) := r_ok_c hp hr (fun k hk => (e1 k (by omega)).symm)
      have epre : m_pre I1 (I1 124) q (I1 116) = m_pre I (I 124) q (I1 116) := by rw [m_pre_e hpe, e124]
      obtain ⟨x1, x2⟩ := pre_51 (G := I 124) (q := q) hp hr1 e1
      refine m236 (b := false) ((p_in_e hpe).mpr hp) ((r_ok_e hpe).mpr hr1) (by rw [e124]; exact hG) hq hq9 (fun q => (nomatch q)) (fun en => q_mkI ?_) (fun s I2 es p1 p2 p3 p4 p5 p6 => q_mkI ?_)
      · unfold m_live at en
        have en := Option.map_eq_none_iff.mp en
        rw [epre] at en
        have en := x1 en
        rw [tr_n en] at h
        apply g285_7 rfl
        have t := h I1 e1 f1 g1
        exact ⟨fun _ => t, fun _ => ⟨fun _ => t, fun q => absurd nI_0 q⟩⟩
      · rw [epre] at es
        obtain ⟨s', es', e51s⟩ := x2 s es
        rw [tr_s es'] at h
        obtain ⟨U, u1, u2, u3, u4, u5, u6, u7⟩ := m_pre_ok hp hr1 es
        obtain ⟨U', v1, v2, v3, v4, v5, v6, v7⟩ := m_pre_ok hp hr es'
        have hok : r_ok I (m_st I (I 123) s') := m_st_ok hp v6 v1 v2 hG v4
        rw [m_rec_f] at p3 p4 p5
        rw [nI_add]
        refine ih (j + 1) (m_st I (I 123) s') I2 (by omega) ?_ hok (fun k hk => ?_) (fun f a b => ?_) h
        · rw [p1, m_st_e hpe, e123]
          exact st_51 hp u6 u1 u2 (m_can_t u4).1 e51s
        · simp only [List.mem_cons, List.not_mem_nil, or_false, not_or] at hk
          by_cases c0 : k = 120
          · subst c0; rw [p3]; exact f1 120 (by decide)
          by_cases c1 : k = 121
          · subst c1; rw [p4]; exact f1 121 (by decide)
          by_cases c2 : k = 122
          · subst c2; rw [p5]; exact f1 122 (by decide)
          rw [p6 k (by simp [hk.1, hk.2, c0, c1, c2]), f1 k (by simp [hk.1, hk.2])]
        · rw [p2, upd_ne b, upd_ne a]
          exact g1 f a b
  refine m184 (seed := seed) (fun f ef => q_mkV ?_)
  refine l n 0 (m_first I seed) _ (by omega) (by rw [u_I_eq]; exact ef) hr (fun k hk => u_I_ne (fun q => hk (by simp [q]))) (fun f _ _ => by rw [u_I_ne (by decide)]) h
