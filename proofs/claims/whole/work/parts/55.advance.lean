/-! the class: a step that is drawn -/
theorem m_ch_all {P : Nat → Nat → Int32} {G r : Nat → Int32} {q : Nat} : m_ch P G q r 44 = nI (m_sel (m_can P G r) (P 103 4).toNatClampNeg 0 (m_b (m_d (r 46)) % m_cnt (m_can P G r) (P 103 4).toNatClampNeg 0)) ∧ m_ch P G q r 45 = nI (m_b (m_d (m_d (r 46))) % q + 1) ∧ m_ch P G q r 46 = m_d (m_d (r 46)) ∧ (∀ k, k < 44 ∨ 48 ≤ k → m_ch P G q r k = r k) := by
  unfold m_ch
  generalize m_sel (m_can P G r) (P 103 4).toNatClampNeg 0 (m_b (m_d (r 46)) % m_cnt (m_can P G r) (P 103 4).toNatClampNeg 0) = T
  by_cases c : nI T = r 44
  · rw [if_pos c]
    refine ⟨by rw [upd_ne (by omega), upd_ne (by omega), c], by rw [upd_eq], by rw [upd_ne (by omega), upd_eq], fun k hk => by rw [upd_ne (by omega), upd_ne (by omega)]⟩
  · rw [if_neg c]
    refine ⟨by rw [upd_eq], by rw [upd_ne (by omega), upd_ne (by omega), upd_eq], by rw [upd_ne (by omega), upd_ne (by omega), upd_ne (by omega), upd_eq], fun k hk => by rw [upd_ne (by omega), upd_ne (by omega), upd_ne (by omega), upd_ne (by omega)]⟩
/-- an instruction leaves 44 .. 47 -/
theorem m_do_k {P : Nat → Nat → Int32} {r : Nat → Int32} {t k : Nat} {x : Int32} (hp : p_in P) (hr : r_ok P r) (ht : t < (P 103 4).toNatClampNeg) (hs : r (16 + 6 * t + 4) < P 105 t) (hk : 44 ≤ k) (hk' : k < 48) : m_do P r t x k = r k := by
  obtain ⟨p, n, ep, en, hpn, hn, hi, ht4, hok⟩ := r_at hp hr ht
  rw [ep, en, nI_ltI (by omega) (by omega)] at hs
  unfold m_do
  rw [upd_ne (by omega), upd_ne (by omega), m_val_ne hi (hok hs) ht4 (by omega) (by omega) (by omega) (by omega)]
theorem c_eq_st {P : Nat → Nat → Int32} {gv s : Nat → Int32} {T : Nat} (hT : T < 4) (h44 : s 44 = nI T) : c_eq (m_do P s T (m_inp P gv s T)) (m_st P gv s) := by
  unfold m_st
  rw [h44, nI_clamp (by omega)]
  exact c_eq_upd (c_eq_refl _) (by omega)
theorem c30_19 {E : am_Ev} {I : Nat → Nat → Int32} {J : Nat → Nat → Int64} {S : Nat → Nat → Option Nat} {Q : am_Qt} {r : Nat → Int32} {q : Nat} (hp : p_in I) (hc : p_cl I) (hr : r_ok I r) (hm : rm I 20 r) (h45 : I 19 2 = r 45) (h46 : I 19 1 = r 46) (hg : gq I) (hq : 0 < q) (hq9 : q < 10)
    (h0 : m_pre I (I 124) q r = none → Q (.inl (some (.int (nI 0)))) E (u_I I 19 (upd (I 19) 4 (nI 0))) J S)
    (h1 : ∀ s I', m_pre I (I 124) q r = some s → rm I' 20 (m_st I (I 123) s) → I' 19 2 = m_st I (I 123) s 45 → I' 19 1 = m_st I (I 123) s 46 → I' 19 3 = nI (m_i r (s 44).toNatClampNeg) → I' 19 4 = (if s 44 = r 44 then nI 0 else nI 1) → (¬ s 44 = r 44 → I' 19 5 = m_lb r ∧ I' 19 6 = m_lp r) → fb I I' 19 26 → Q (.inl (some (.int (nI 1)))) E I' J S) : am_cl 30 [.ref 19, .ref 12, .ref 18, .int (nI q)] E I J S Q := by
  show am_ww 30 0 [.ref 19, .ref 12, .ref 18, .int (nI q), am_U, am_U] [] E I J S Q
  have hmm := vb hp.1
  have hG : ∀ s, s < 3 → I 28 s = I 124 s := fun s hs => (hg s hs).1
  have hPG : m_pre I (I 124) q r = m_pre I (I 28) q r := (m_pre_G hp hr hG).symm
  have f0 : fb I (u_I I 19 (upd (I 19) 4 (nI 0))) 19 26 := fb_u fb_id (by omega) (by omega)
  have f0n : u_I I 19 (upd (I 19) 4 (nI 0)) 19 = upd (I 19) 4 (nI 0) := u_I_eq
  have fk : ∀ k, k ≠ 19 → u_I I 19 (upd (I 19) 4 (nI 0)) k = I k := fun k hk => u_I_ne hk
  apply g30_0_19
  generalize u_I I 19 (upd (I 19) 4 (nI 0)) = I0 at f0 f0n fk h0 ⊢
  have hq0 : p_q I I0 := p_q_fb f0 (by omega)
  have hp0 : p_in I0 := (p_in_e hq0.2).mpr hp
  have hc0 : p_cl I0 := (p_cl_e hq0).mpr hc
  have hr0 : r_ok I0 r := (r_ok_e hq0.2).mpr hr
  have hm0 : rm I0 20 r := rm_e hm (fun k h1 h2 => fk k (by omega))
  have hg0 : gq I0 := (gq_e (fun k hk => fk k (by omega))).mpr hg
  have ecan : m_can I0 (I0 28) r = m_can I (I 28) r := by rw [fk 28 (by omega), m_can_ef hq0.2]
  have e103 : I0 103 = I 103 := fk 103 (by omega)
  -- the step, from a row that is known
  have go : ∀ (s : Nat → Int32) (T : Nat) (I3 : Nat → Nat → Int32) (v : Value), am_isL v = false → m_pre I (I 28) q r = some s → s 44 = nI T → T < (I 103 4).toNatClampNeg → rm I3 20 s → fb I I3 19 26 → I3 19 2 = s 45 → I3 19 1 = s 46 → I3 19 4 = (if s 44 = r 44 then nI 0 else nI 1) → (¬ s 44 = r 44 → I3 19 5 = m_lb r ∧ I3 19 6 = m_lp r) → am_ww 30 44 [.ref 19, .ref 12, .ref 18, .int (nI q), .ref 28, v] [] E I3 J S Q := by
    intro s T I3 v hv hpre hs44 hT hm3 f3 k2 k1 k4 k56
    have hq3 : p_q I I3 := p_q_fb f3 (by omega)
    obtain ⟨T', t1, t2, t3, t4, t5, t6, t7⟩ := m_pre_ok hp hr hpre
    have eT : T' = T := by rw [hs44, nI_eq (by omega) (by omega)] at t2; exact t2.symm
    subst eT
    obtain ⟨g1, g2, g3⟩ := m_can_t t4
    have hg3 : gq I3 := (gq_e (fun k hk => f3 k (by omega))).mpr hg
    have e3 := fun k (h1 : 103 ≤ k) (h2 : k < 110) => hq3.2 k h1 h2
    have e123 : I3 123 = I 123 := f3 123 (by omega)
    have e124 : I3 124 = I 124 := f3 124 (by omega)
    refine c30_44_19 (s := s) (T := T') rfl rfl hv ((p_in_e hq3.2).mpr hp) ((p_cl_e hq3).mpr hc) ((r_ok_e hq3.2).mpr t6) hm3 (by rw [e3 103 (by omega) (by omega)]; exact hT) hs44 ?_ hg3 ?_
    · rw [m_can_e hq3.2, e124, ← m_can_G hp t6 hT hG]
      exact t4
    · intro I' a e f
      rw [m_do_e hq3.2, m_inp_e hq3.2, e123] at a
      have dk : ∀ k, 44 ≤ k → k < 48 → k ≠ 45 → m_st I (I 123) s k = s k := by
        intro k h1 h2 h3
        unfold m_st
        rw [hs44, nI_clamp (by omega), upd_ne h3]
        exact m_do_k hp t6 hT g1 h1 h2
      refine h1 s I' (by rw [hPG]; exact hpre) (rm_c a (c_eq_st (by omega) hs44)) ?_ ?_ ?_ ?_ ?_ (fb_tr f3 f)
      · rw [e, upd_eq, k2]
        unfold m_st
        rw [upd_eq]
      · rw [e, upd_ne (by omega), upd_ne (by omega), k1, dk 46 (by omega) (by omega) (by omega)]
      · rw [e, upd_ne (by omega), upd_eq, hs44, nI_clamp (by omega)]
        unfold m_i
        rw [t5 _ (by omega)]
      · rw [e, upd_ne (by omega), upd_ne (by omega), k4]
      · intro c
        rw [e, upd_ne (by omega), upd_ne (by omega), upd_ne (by omega), upd_ne (by omega)]
        exact k56 c
  have key : m_need I (I 28) r = true → am_ww 30 18 [.ref 19, .ref 12, .ref 18, .int (nI q), .ref 28, am_U] [] E I0 J S Q := by
    intro hn
    apply g30_18_19 rfl
    have hle := m_cnt_le (m_can I (I 28) r) (I 103 4).toNatClampNeg 0
    refine c22_20 hp0 hc0 hr0 hm0 (q_mkI ?_)
    rw [ecan, e103]
    refine ⟨fun c => ?_, fun c => ?_⟩
    · rw [nI_e0 (by omega)] at c
      apply h0
      rw [hPG]
      unfold m_pre
      rw [if_pos hn, if_pos c]
    · rw [nI_e0 (by omega)] at c
      have hpre : m_pre I (I 28) q r = some (m_ch I (I 28) q r) := by
        unfold m_pre
        rw [if_pos hn, if_neg c]
      obtain ⟨ch44, ch45, ch46, chk⟩ := m_ch_all (P := I) (G := I 28) (q := q) (r := r)
      have hk : m_b (m_d (r 46)) % m_cnt (m_can I (I 28) r) (I 103 4).toNatClampNeg 0 < m_cnt (m_can I (I 28) r) (I 103 4).toNatClampNeg 0 := Nat.mod_lt _ (by omega)
      obtain ⟨s1, s2, s3⟩ := m_sel_lt (m_can I (I 28) r) (I 103 4).toNatClampNeg 0 _ hk
      generalize hN : m_cnt (m_can I (I 28) r) (I 103 4).toNatClampNeg 0 = N at hle c hk ch44 s1 s2 s3 ⊢
      have e01 : I0 19 1 = r 46 := by rw [f0n, upd_ne (by omega)]; exact h46
      rw [e01]
      intro w2 e2
      have e2' : w2 = nI (m_b (m_d (r 46))) := e2.trans (m_b_u (m_d (r 46)))
      subst e2'
      have mb1 := (m_b_eq (m_d (r 46))).2
      have mb2 := (m_b_eq (m_d (m_d (r 46)))).2
      refine ⟨fun _ => ⟨nI_ne0 (by omega) (by omega), ?_⟩, fun q => absurd (nI_le (by omega) (by omega)) q⟩
      rw [nI_remI (by omega) (by omega)]
      have f1 : fb I0 (u_I I0 19 (upd (I0 19) 1 (r 46 * nI 1103515245 + nI 12345))) 19 26 := fb_u fb_id (by omega) (by omega)
      have f1n : u_I I0 19 (upd (I0 19) 1 (r 46 * nI 1103515245 + nI 12345)) 19 = upd (I0 19) 1 (m_d (r 46)) := u_I_eq
      have f1k : ∀ k, k ≠ 19 → u_I I0 19 (upd (I0 19) 1 (r 46 * nI 1103515245 + nI 12345)) k = I0 k := fun k hk => u_I_ne hk
      generalize u_I I0 19 (upd (I0 19) 1 (r 46 * nI 1103515245 + nI 12345)) = I1 at f1 f1n f1k ⊢
      have hq1 : p_q I I1 := p_q_fb (fb_tr f0 f1) (by omega)
      have ecan1 : m_can I1 (I1 28) r = m_can I (I 28) r := by rw [f1k 28 (by omega), fk 28 (by omega), m_can_ef hq1.2]
      have e1031 : I1 103 = I 103 := by rw [f1k 103 (by omega), e103]
      have hm1 : rm I1 20 r := rm_e hm0 (fun k h1 h2 => f1k k (by omega))
      have hp1 : p_in I1 := (p_in_e hq1.2).mpr hp
      refine c32_19 hp1 ((p_cl_e hq1).mpr hc) ((r_ok_e hq1.2).mpr hr) hm1 (k := m_b (m_d (r 46)) % N) ?_ (q_mkI ?_)
      · rw [ecan1, e1031, hN]
        exact hk
      · rw [ecan1, e1031]
        generalize m_sel (m_can I (I 28) r) (I 103 4).toNatClampNeg 0 (m_b (m_d (r 46)) % N) = T at ch44 s1 s2 s3 ⊢
        refine c33_19 hp1 ((r_ok_e hq1.2).mpr hr) hm1 (q_mkV ?_)
        have f2 : fb I1 (u_I (u_I I1 19 (upd (upd (upd (I1 19) 4 (if nI T = r 44 then nI 0 else nI 1)) 5 (m_lb r)) 6 (m_lp r))) 20 (upd (I1 20) 6 (nI T))) 19 26 := fb_u (fb_u fb_id (by omega) (by omega)) (by omega) (by omega)
        have f2n : u_I (u_I I1 19 (upd (upd (upd (I1 19) 4 (if nI T = r 44 then nI 0 else nI 1)) 5 (m_lb r)) 6 (m_lp r))) 20 (upd (I1 20) 6 (nI T)) 19 = upd (upd (upd (I1 19) 4 (if nI T = r 44 then nI 0 else nI 1)) 5 (m_lb r)) 6 (m_lp r) := by rw [u_I_ne (by decide), u_I_eq]
        have hm2 : rm (u_I (u_I I1 19 (upd (upd (upd (I1 19) 4 (if nI T = r 44 then nI 0 else nI 1)) 5 (m_lb r)) 6 (m_lp r))) 20 (upd (I1 20) 6 (nI T))) 20 (upd r 44 (nI T)) := by
          have hx : rm (u_I I1 19 (upd (upd (upd (I1 19) 4 (if nI T = r 44 then nI 0 else nI 1)) 5 (m_lb r)) 6 (m_lp r))) 20 r := rm_e hm1 (fun k h1 h2 => u_I_ne (by omega))
          have hy := rm_cur (v := nI T) hx
          rw [u_I_ne (show 20 ≠ 19 by decide)] at hy
          exact hy
        generalize u_I (u_I I1 19 (upd (upd (upd (I1 19) 4 (if nI T = r 44 then nI 0 else nI 1)) 5 (m_lb r)) 6 (m_lp r))) 20 (upd (I1 20) 6 (nI T)) = I2 at f2 f2n hm2 ⊢
        have e21 : I2 19 1 = m_d (r 46) := by rw [f2n, upd_ne (by omega), upd_ne (by omega), upd_ne (by omega), f1n, upd_eq]
        rw [e21]
        intro w5 e5
        have e5' : w5 = nI (m_b (m_d (m_d (r 46)))) := e5.trans (m_b_u (m_d (m_d (r 46))))
        subst e5'
        refine ⟨fun _ => ⟨nI_ne0 hq (by omega), ?_⟩, fun z => absurd (nI_le (by omega) (by omega)) z⟩
        rw [nI_remI (by omega) (by omega), nI_add]
        refine go (m_ch I (I 28) q r) T _ _ rfl hpre ch44 (by omega) ?_ (fb_u (fb_tr (fb_tr f0 f1) f2) (by omega) (by omega)) ?_ ?_ ?_ ?_
        · refine rm_c (rm_e hm2 (fun k h1 h2 => u_I_ne (by omega))) ?_
          intro k hk
          by_cases k44 : k = 44
          · rw [k44, upd_eq, ch44]
          · rw [upd_ne k44, chk k (by omega)]
        · rw [u_I_eq, upd_eq, ch45]
        · rw [u_I_eq, upd_ne (by omega), upd_eq, ch46]
          rfl
        · rw [u_I_eq, upd_ne (by omega), upd_ne (by omega), f2n, upd_ne (by omega), upd_ne (by omega), upd_eq, ch44]
        · intro _
          rw [u_I_eq, upd_ne (by omega), upd_ne (by omega), upd_ne (by omega), upd_ne (by omega), f2n, upd_ne (by omega), upd_eq, upd_eq]
          exact ⟨rfl, rfl⟩
  refine ⟨fun c => key ?_, fun c => ?_⟩
  · rw [h45] at c
    unfold m_need
    rw [decide_eq_true c, Bool.or_true]
    rfl
  · rw [h45] at c
    by_cases c44 : r 44 = -1
    · have e44 : I 20 6 = -1 := hm.2.2.2.2.2.1.trans c44
      rw [e44]
      refine c23n_20 (q_mkI ⟨fun _ => key ?_, fun z => absurd nI_0 z⟩)
      unfold m_need
      rw [decide_eq_true c44]
      rfl
    · have h44 := hr.2.2.1.resolve_left c44
      have e44 : I 20 6 = nI (r 44).toNatClampNeg := hm.2.2.2.2.2.1.trans (vc h44)
      rw [e44]
      refine c23_20 hp0 hc0 hr0 hm0 (by rw [e103]; exact vb h44) (q_mkI ?_)
      rw [ecan, bI_0]
      refine ⟨fun cc => key ?_, fun cc => ?_⟩
      · unfold m_need
        rw [cc]
        simp
      · rw [Bool.not_eq_false] at cc
        have hpre : m_pre I (I 28) q r = some r := by
          unfold m_pre
          rw [if_neg]
          unfold m_need
          rw [cc, decide_eq_false c44, decide_eq_false c]
          decide
        refine go r (r 44).toNatClampNeg I0 am_U rfl hpre (vc h44) (vb h44) hm0 f0 ?_ ?_ ?_ (fun z => absurd rfl z)
        · rw [f0n, upd_ne (by omega)]; exact h45
        · rw [f0n, upd_ne (by omega)]; exact h46
        · rw [f0n, upd_eq, if_pos rfl]
theorem c30_76 {E : am_Ev} {I : Nat → Nat → Int32} {J : Nat → Nat → Int64} {S : Nat → Nat → Option Nat} {Q : am_Qt} {r : Nat → Int32} {q : Nat} (hp : p_in I) (hc : p_cl I) (hr : r_ok I r) (hm : rm I 77 r) (h45 : I 76 2 = r 45) (h46 : I 76 1 = r 46) (hg : gq I) (hq : 0 < q) (hq9 : q < 10)
    (h0 : m_pre I (I 124) q r = none → Q (.inl (some (.int (nI 0)))) E (u_I I 76 (upd (I 76) 4 (nI 0))) J S)
    (h1 : ∀ s I', m_pre I (I 124) q r = some s → rm I' 77 (m_st I (I 123) s) → I' 76 2 = m_st I (I 123) s 45 → I' 76 1 = m_st I (I 123) s 46 → I' 76 3 = nI (m_i r (s 44).toNatClampNeg) → I' 76 4 = (if s 44 = r 44 then nI 0 else nI 1) → (¬ s 44 = r 44 → I' 76 5 = m_lb r ∧ I' 76 6 = m_lp r) → fb I I' 76 83 → Q (.inl (some (.int (nI 1)))) E I' J S) : am_cl 30 [.ref 76, .ref 12, .ref 18, .int (nI q)] E I J S Q := by
  show am_ww 30 0 [.ref 76, .ref 12, .ref 18, .int (nI q), am_U, am_U] [] E I J S Q
  have hmm := vb hp.1
  have hG : ∀ s, s < 3 → I 28 s = I 124 s := fun s hs => (hg s hs).1
  have hPG : m_pre I (I 124) q r = m_pre I (I 28) q r := (m_pre_G hp hr hG).symm
  have f0 : fb I (u_I I 76 (upd (I 76) 4 (nI 0))) 76 83 := fb_u fb_id (by omega) (by omega)
  have f0n : u_I I 76 (upd (I 76) 4 (nI 0)) 76 = upd (I 76) 4 (nI 0) := u_I_eq
  have fk : ∀ k, k ≠ 76 → u_I I 76 (upd (I 76) 4 (nI 0)) k = I k := fun k hk => u_I_ne hk
  apply g30_0_76
  generalize u_I I 76 (upd (I 76) 4 (nI 0)) = I0 at f0 f0n fk h0 ⊢
  have hq0 : p_q I I0 := p_q_fb f0 (by omega)
  have hp0 : p_in I0 := (p_in_e hq0.2).mpr hp
  have hc0 : p_cl I0 := (p_cl_e hq0).mpr hc
  have hr0 : r_ok I0 r := (r_ok_e hq0.2).mpr hr
  have hm0 : rm I0 77 r := rm_e hm (fun k h1 h2 => fk k (by omega))
  have hg0 : gq I0 := (gq_e (fun k hk => fk k (by omega))).mpr hg
  have ecan : m_can I0 (I0 28) r = m_can I (I 28) r := by rw [fk 28 (by omega), m_can_ef hq0.2]
  have e103 : I0 103 = I 103 := fk 103 (by omega)
  -- the step, from a row that is known
  have go : ∀ (s : Nat → Int32) (T : Nat) (I3 : Nat → Nat → Int32) (v : Value), am_isL v = false → m_pre I (I 28) q r = some s → s 44 = nI T → T < (I 103 4).toNatClampNeg → rm I3 77 s → fb I I3 76 83 → I3 76 2 = s 45 → I3 76 1 = s 46 → I3 76 4 = (if s 44 = r 44 then nI 0 else nI 1) → (¬ s 44 = r 44 → I3 76 5 = m_lb r ∧ I3 76 6 = m_lp r) → am_ww 30 44 [.ref 76, .ref 12, .ref 18, .int (nI q), .ref 28, v] [] E I3 J S Q := by
    intro s T I3 v hv hpre hs44 hT hm3 f3 k2 k1 k4 k56
    have hq3 : p_q I I3 := p_q_fb f3 (by omega)
    obtain ⟨T', t1, t2, t3, t4, t5, t6, t7⟩ := m_pre_ok hp hr hpre
    have eT : T' = T := by rw [hs44, nI_eq (by omega) (by omega)] at t2; exact t2.symm
    subst eT
    obtain ⟨g1, g2, g3⟩ := m_can_t t4
    have hg3 : gq I3 := (gq_e (fun k hk => f3 k (by omega))).mpr hg
    have e3 := fun k (h1 : 103 ≤ k) (h2 : k < 110) => hq3.2 k h1 h2
    have e123 : I3 123 = I 123 := f3 123 (by omega)
    have e124 : I3 124 = I 124 := f3 124 (by omega)
    refine c30_44_76 (s := s) (T := T') rfl rfl hv ((p_in_e hq3.2).mpr hp) ((p_cl_e hq3).mpr hc) ((r_ok_e hq3.2).mpr t6) hm3 (by rw [e3 103 (by omega) (by omega)]; exact hT) hs44 ?_ hg3 ?_
    · rw [m_can_e hq3.2, e124, ← m_can_G hp t6 hT hG]
      exact t4
    · intro I' a e f
      rw [m_do_e hq3.2, m_inp_e hq3.2, e123] at a
      have dk : ∀ k, 44 ≤ k → k < 48 → k ≠ 45 → m_st I (I 123) s k = s k := by
        intro k h1 h2 h3
        unfold m_st
        rw [hs44, nI_clamp (by omega), upd_ne h3]
        exact m_do_k hp t6 hT g1 h1 h2
      refine h1 s I' (by rw [hPG]; exact hpre) (rm_c a (c_eq_st (by omega) hs44)) ?_ ?_ ?_ ?_ ?_ (fb_tr f3 f)
      · rw [e, upd_eq, k2]
        unfold m_st
        rw [upd_eq]
      · rw [e, upd_ne (by omega), upd_ne (by omega), k1, dk 46 (by omega) (by omega) (by omega)]
      · rw [e, upd_ne (by omega), upd_eq, hs44, nI_clamp (by omega)]
        unfold m_i
        rw [t5 _ (by omega)]
      · rw [e, upd_ne (by omega), upd_ne (by omega), k4]
      · intro c
        rw [e, upd_ne (by omega), upd_ne (by omega), upd_ne (by omega), upd_ne (by omega)]
        exact k56 c
  have key : m_need I (I 28) r = true → am_ww 30 18 [.ref 76, .ref 12, .ref 18, .int (nI q), .ref 28, am_U] [] E I0 J S Q := by
    intro hn
    apply g30_18_76 rfl
    have hle := m_cnt_le (m_can I (I 28) r) (I 103 4).toNatClampNeg 0
    refine c22_77 hp0 hc0 hr0 hm0 (q_mkI ?_)
    rw [ecan, e103]
    refine ⟨fun c => ?_, fun c => ?_⟩
    · rw [nI_e0 (by omega)] at c
      apply h0
      rw [hPG]
      unfold m_pre
      rw [if_pos hn, if_pos c]
    · rw [nI_e0 (by omega)] at c
      have hpre : m_pre I (I 28) q r = some (m_ch I (I 28) q r) := by
        unfold m_pre
        rw [if_pos hn, if_neg c]
      obtain ⟨ch44, ch45, ch46, chk⟩ := m_ch_all (P := I) (G := I 28) (q := q) (r := r)
      have hk : m_b (m_d (r 46)) % m_cnt (m_can I (I 28) r) (I 103 4).toNatClampNeg 0 < m_cnt (m_can I (I 28) r) (I 103 4).toNatClampNeg 0 := Nat.mod_lt _ (by omega)
      obtain ⟨s1, s2, s3⟩ := m_sel_lt (m_can I (I 28) r) (I 103 4).toNatClampNeg 0 _ hk
      generalize hN : m_cnt (m_can I (I 28) r) (I 103 4).toNatClampNeg 0 = N at hle c hk ch44 s1 s2 s3 ⊢
      have e01 : I0 76 1 = r 46 := by rw [f0n, upd_ne (by omega)]; exact h46
      rw [e01]
      intro w2 e2
      have e2' : w2 = nI (m_b (m_d (r 46))) := e2.trans (m_b_u (m_d (r 46)))
      subst e2'
      have mb1 := (m_b_eq (m_d (r 46))).2
      have mb2 := (m_b_eq (m_d (m_d (r 46)))).2
      refine ⟨fun _ => ⟨nI_ne0 (by omega) (by omega), ?_⟩, fun q => absurd (nI_le (by omega) (by omega)) q⟩
      rw [nI_remI (by omega) (by omega)]
      have f1 : fb I0 (u_I I0 76 (upd (I0 76) 1 (r 46 * nI 1103515245 + nI 12345))) 76 83 := fb_u fb_id (by omega) (by omega)
      have f1n : u_I I0 76 (upd (I0 76) 1 (r 46 * nI 1103515245 + nI 12345)) 76 = upd (I0 76) 1 (m_d (r 46)) := u_I_eq
      have f1k : ∀ k, k ≠ 76 → u_I I0 76 (upd (I0 76) 1 (r 46 * nI 1103515245 + nI 12345)) k = I0 k := fun k hk => u_I_ne hk
      generalize u_I I0 76 (upd (I0 76) 1 (r 46 * nI 1103515245 + nI 12345)) = I1 at f1 f1n f1k ⊢
      have hq1 : p_q I I1 := p_q_fb (fb_tr f0 f1) (by omega)
      have ecan1 : m_can I1 (I1 28) r = m_can I (I 28) r := by rw [f1k 28 (by omega), fk 28 (by omega), m_can_ef hq1.2]
      have e1031 : I1 103 = I 103 := by rw [f1k 103 (by omega), e103]
      have hm1 : rm I1 77 r := rm_e hm0 (fun k h1 h2 => f1k k (by omega))
      have hp1 : p_in I1 := (p_in_e hq1.2).mpr hp
      refine c32_76 hp1 ((p_cl_e hq1).mpr hc) ((r_ok_e hq1.2).mpr hr) hm1 (k := m_b (m_d (r 46)) % N) ?_ (q_mkI ?_)
      · rw [ecan1, e1031, hN]
        exact hk
      · rw [ecan1, e1031]
        generalize m_sel (m_can I (I 28) r) (I 103 4).toNatClampNeg 0 (m_b (m_d (r 46)) % N) = T at ch44 s1 s2 s3 ⊢
        refine c33_76 hp1 ((r_ok_e hq1.2).mpr hr) hm1 (q_mkV ?_)
        have f2 : fb I1 (u_I (u_I I1 76 (upd (upd (upd (I1 76) 4 (if nI T = r 44 then nI 0 else nI 1)) 5 (m_lb r)) 6 (m_lp r))) 77 (upd (I1 77) 6 (nI T))) 76 83 := fb_u (fb_u fb_id (by omega) (by omega)) (by omega) (by omega)
        have f2n : u_I (u_I I1 76 (upd (upd (upd (I1 76) 4 (if nI T = r 44 then nI 0 else nI 1)) 5 (m_lb r)) 6 (m_lp r))) 77 (upd (I1 77) 6 (nI T)) 76 = upd (upd (upd (I1 76) 4 (if nI T = r 44 then nI 0 else nI 1)) 5 (m_lb r)) 6 (m_lp r) := by rw [u_I_ne (by decide), u_I_eq]
        have hm2 : rm (u_I (u_I I1 76 (upd (upd (upd (I1 76) 4 (if nI T = r 44 then nI 0 else nI 1)) 5 (m_lb r)) 6 (m_lp r))) 77 (upd (I1 77) 6 (nI T))) 77 (upd r 44 (nI T)) := by
          have hx : rm (u_I I1 76 (upd (upd (upd (I1 76) 4 (if nI T = r 44 then nI 0 else nI 1)) 5 (m_lb r)) 6 (m_lp r))) 77 r := rm_e hm1 (fun k h1 h2 => u_I_ne (by omega))
          have hy := rm_cur (v := nI T) hx
          rw [u_I_ne (show 77 ≠ 76 by decide)] at hy
          exact hy
        generalize u_I (u_I I1 76 (upd (upd (upd (I1 76) 4 (if nI T = r 44 then nI 0 else nI 1)) 5 (m_lb r)) 6 (m_lp r))) 77 (upd (I1 77) 6 (nI T)) = I2 at f2 f2n hm2 ⊢
        have e21 : I2 76 1 = m_d (r 46) := by rw [f2n, upd_ne (by omega), upd_ne (by omega), upd_ne (by omega), f1n, upd_eq]
        rw [e21]
        intro w5 e5
        have e5' : w5 = nI (m_b (m_d (m_d (r 46)))) := e5.trans (m_b_u (m_d (m_d (r 46))))
        subst e5'
        refine ⟨fun _ => ⟨nI_ne0 hq (by omega), ?_⟩, fun z => absurd (nI_le (by omega) (by omega)) z⟩
        rw [nI_remI (by omega) (by omega), nI_add]
        refine go (m_ch I (I 28) q r) T _ _ rfl hpre ch44 (by omega) ?_ (fb_u (fb_tr (fb_tr f0 f1) f2) (by omega) (by omega)) ?_ ?_ ?_ ?_
        · refine rm_c (rm_e hm2 (fun k h1 h2 => u_I_ne (by omega))) ?_
          intro k hk
          by_cases k44 : k = 44
          · rw [k44, upd_eq, ch44]
          · rw [upd_ne k44, chk k (by omega)]
        · rw [u_I_eq, upd_eq, ch45]
        · rw [u_I_eq, upd_ne (by omega), upd_eq, ch46]
          rfl
        · rw [u_I_eq, upd_ne (by omega), upd_ne (by omega), f2n, upd_ne (by omega), upd_ne (by omega), upd_eq, ch44]
        · intro _
          rw [u_I_eq, upd_ne (by omega), upd_ne (by omega), upd_ne (by omega), upd_ne (by omega), f2n, upd_ne (by omega), upd_eq, upd_eq]
          exact ⟨rfl, rfl⟩
  refine ⟨fun c => key ?_, fun c => ?_⟩
  · rw [h45] at c
    unfold m_need
    rw [decide_eq_true c, Bool.or_true]
    rfl
  · rw [h45] at c
    by_cases c44 : r 44 = -1
    · have e44 : I 77 6 = -1 := hm.2.2.2.2.2.1.trans c44
      rw [e44]
      refine c23n_77 (q_mkI ⟨fun _ => key ?_, fun z => absurd nI_0 z⟩)
      unfold m_need
      rw [decide_eq_true c44]
      rfl
    · have h44 := hr.2.2.1.resolve_left c44
      have e44 : I 77 6 = nI (r 44).toNatClampNeg := hm.2.2.2.2.2.1.trans (vc h44)
      rw [e44]
      refine c23_77 hp0 hc0 hr0 hm0 (by rw [e103]; exact vb h44) (q_mkI ?_)
      rw [ecan, bI_0]
      refine ⟨fun cc => key ?_, fun cc => ?_⟩
      · unfold m_need
        rw [cc]
        simp
      · rw [Bool.not_eq_false] at cc
        have hpre : m_pre I (I 28) q r = some r := by
          unfold m_pre
          rw [if_neg]
          unfold m_need
          rw [cc, decide_eq_false c44, decide_eq_false c]
          decide
        refine go r (r 44).toNatClampNeg I0 am_U rfl hpre (vc h44) (vb h44) hm0 f0 ?_ ?_ ?_ (fun z => absurd rfl z)
        · rw [f0n, upd_ne (by omega)]; exact h45
        · rw [f0n, upd_ne (by omega)]; exact h46
        · rw [f0n, upd_eq, if_pos rfl]
