/-! the class's runners -/
def gq (I : Nat → Nat → Int32) : Prop := ∀ s, s < 3 → I 28 s = I 124 s ∧ vp_in (I 124 s) 31 ∧ ∀ i, i < (I 124 s).toNatClampNeg → I 27 (s * 30 + i) = I 123 (30 * s + i)
theorem gq_e {I I' : Nat → Nat → Int32} (h : ∀ k, k = 27 ∨ k = 28 ∨ k = 123 ∨ k = 124 → I' k = I k) : gq I' ↔ gq I := by
  unfold gq
  rw [h 27 (by omega), h 28 (by omega), h 123 (by omega), h 124 (by omega)]
theorem m_can_G {P : Nat → Nat → Int32} {G G' r : Nat → Int32} {t : Nat} (hp : p_in P) (hr : r_ok P r) (ht : t < (P 103 4).toNatClampNeg) (hG : ∀ s, s < 3 → G s = G' s) : m_can P G r t = m_can P G' r t := by
  obtain ⟨p, n, ep, en, hpn, hn, hi, ht4, hok⟩ := r_at hp hr ht
  unfold m_can
  rw [hi, ep, en]
  by_cases c : p < n
  · obtain ⟨o, ho, eo, h1, h2, h3, h4, h5, h6⟩ := hok c
    rw [eo]
    simp (disch := omega) only [nI_eq]
    by_cases c7 : o = 7
    · rw [if_pos c7, if_pos c7]
    · rw [if_neg c7, if_neg c7]
      by_cases c6 : o = 6
      · rw [if_pos c6, if_pos c6, hG _ (vb (h5 c6))]
      · rw [if_neg c6, if_neg c6]
  · have c' : ¬ nI p < nI n := by rw [nI_ltI (by omega) (by omega)]; exact c
    rw [decide_eq_false c', Bool.false_and, Bool.false_and]
theorem m_pre_G {P : Nat → Nat → Int32} {G G' r : Nat → Int32} {q : Nat} (hp : p_in P) (hr : r_ok P r) (hG : ∀ s, s < 3 → G s = G' s) : m_pre P G q r = m_pre P G' q r := by
  have h1 : ∀ j, 0 ≤ j → j < 0 + (P 103 4).toNatClampNeg → m_can P G r j = m_can P G' r j := fun j _ hj => m_can_G hp hr (by omega) hG
  have hn : m_need P G r = m_need P G' r := by
    unfold m_need
    by_cases c : r 44 = -1
    · rw [decide_eq_true c, Bool.true_or, Bool.true_or, Bool.true_or]
    · rw [m_can_G hp hr (vb (hr.2.2.1.resolve_left c)) hG]
  unfold m_pre m_ch
  dsimp only
  rw [hn, m_cnt_congr _ _ h1, m_sel_congr _ _ _ h1]
theorem c22_l20 {E : am_Ev} {I : Nat → Nat → Int32} {J : Nat → Nat → Int64} {S : Nat → Nat → Option Nat} {Q : am_Qt} {r : Nat → Int32} (hp : p_in I) (hc : p_cl I) (hr : r_ok I r) (hm : rm I 20 r) : ∀ n t c, t + n = (I 103 4).toNatClampNeg → c ≤ t → Q (.inl (some (.int (nI (c + m_cnt (m_can I (I 28) r) n t))))) E I J S → am_ww 22 4 [.ref 20, .ref 12, .ref 28, .int (nI c), .int (nI t)] [] E I J S Q := by
  have hmm := vb hp.1
  have e3 : I 12 5 = nI (I 103 4).toNatClampNeg := hc.1.trans (vc hp.1)
  intro n
  induction n with
  | zero =>
    intro t c e hc' h
    apply g22_4_20
    rw [e3]
    simp (disch := omega) only [Nat.reduceEqDiff, reduceIte, nI_mulI, nI_add, nI_clamp, nI_ltI, nI_leI, nI_eq, nI_e0, nI_n0, vt, forall_eq, true_and, and_true, true_implies, forall_const, not_true_eq_false, not_false_eq_true, false_implies, implies_true]
    exact ⟨fun _ => h, fun q => absurd (by omega) q⟩
  | succ n ih =>
    intro t c e hc' h
    apply g22_4_20
    rw [e3]
    simp (disch := omega) only [Nat.reduceEqDiff, reduceIte, nI_mulI, nI_add, nI_clamp, nI_ltI, nI_leI, nI_eq, nI_e0, nI_n0, vt, forall_eq, true_and, and_true, true_implies, forall_const, not_true_eq_false, not_false_eq_true, false_implies, implies_true]
    refine ⟨fun q => absurd q (by omega), fun _ => ?_⟩
    refine c23_20 hp hc hr hm (t := t) (by omega) (q_mkI ?_)
    rw [bI_0]
    unfold m_cnt at h
    refine ⟨fun c1 => ?_, fun c1 => ?_⟩
    · rw [if_neg (by rw [c1]; exact Bool.false_ne_true), Nat.zero_add] at h
      exact ih (t + 1) c (by omega) (by omega) h
    · rw [Bool.not_eq_false] at c1
      rw [if_pos c1, ← Nat.add_assoc] at h
      exact ih (t + 1) (c + 1) (by omega) (by omega) h
theorem c22_20 {E : am_Ev} {I : Nat → Nat → Int32} {J : Nat → Nat → Int64} {S : Nat → Nat → Option Nat} {Q : am_Qt} {r : Nat → Int32} (hp : p_in I) (hc : p_cl I) (hr : r_ok I r) (hm : rm I 20 r) (h : Q (.inl (some (.int (nI (m_cnt (m_can I (I 28) r) (I 103 4).toNatClampNeg 0))))) E I J S) : am_cl 22 [.ref 20, .ref 12, .ref 28] E I J S Q := by
  show am_ww 22 0 [.ref 20, .ref 12, .ref 28, am_U, am_U] [] E I J S Q
  apply g22_0_20
  exact c22_l20 hp hc hr hm _ 0 0 (Nat.zero_add _) (by omega) (by rw [Nat.zero_add]; exact h)
theorem c32_l19 {E : am_Ev} {I : Nat → Nat → Int32} {J : Nat → Nat → Int64} {S : Nat → Nat → Option Nat} {Q : am_Qt} {r : Nat → Int32} {d3 : Value} (hd3 : am_isL d3 = false) (hp : p_in I) (hc : p_cl I) (hr : r_ok I r) (hm : rm I 20 r) : ∀ n t k, t + n = (I 103 4).toNatClampNeg → k < m_cnt (m_can I (I 28) r) n t → k < 4 → Q (.inl (some (.int (nI (m_sel (m_can I (I 28) r) n t k))))) E I J S → am_ww 32 4 [.ref 19, .ref 12, .ref 28, d3, .int (nI k), .int (nI t)] [] E I J S Q := by
  have hmm := vb hp.1
  have e3 : I 12 5 = nI (I 103 4).toNatClampNeg := hc.1.trans (vc hp.1)
  intro n
  induction n with
  | zero => intro t k e hk; exact absurd hk (Nat.not_lt_zero _)
  | succ n ih =>
    intro t k e hk hk4 h
    apply g32_4_19 hd3
    rw [e3]
    simp (disch := omega) only [Nat.reduceEqDiff, reduceIte, nI_mulI, nI_add, nI_clamp, nI_ltI, nI_leI, nI_eq, nI_e0, nI_n0, vt, forall_eq, true_and, and_true, true_implies, forall_const, not_true_eq_false, not_false_eq_true, false_implies, implies_true]
    refine ⟨fun q => absurd q (by omega), fun _ => ?_⟩
    refine c23_20 hp hc hr hm (t := t) (by omega) (q_mkI ?_)
    rw [bI_0]
    unfold m_cnt at hk
    unfold m_sel at h
    refine ⟨fun c1 => ?_, fun c1 => ⟨fun c0 => ?_, fun c0 => ?_⟩⟩
    · rw [if_neg (by rw [c1]; exact Bool.false_ne_true)] at h hk
      exact ih (t + 1) k (by omega) (by omega) hk4 h
    · rw [Bool.not_eq_false] at c1
      rw [if_pos c1, if_pos c0] at h
      exact h
    · rw [Bool.not_eq_false] at c1
      rw [if_pos c1] at hk
      rw [if_pos c1, if_neg c0] at h
      rw [nI_subI (by omega)]
      exact ih (t + 1) (k - 1) (by omega) (by omega) (by omega) h
theorem c32_19 {E : am_Ev} {I : Nat → Nat → Int32} {J : Nat → Nat → Int64} {S : Nat → Nat → Option Nat} {Q : am_Qt} {r : Nat → Int32} {k : Nat} (hp : p_in I) (hc : p_cl I) (hr : r_ok I r) (hm : rm I 20 r) (hk : k < m_cnt (m_can I (I 28) r) (I 103 4).toNatClampNeg 0) (h : Q (.inl (some (.int (nI (m_sel (m_can I (I 28) r) (I 103 4).toNatClampNeg 0 k))))) E I J S) : am_cl 32 [.ref 19, .ref 12, .ref 28, .int (nI k)] E I J S Q := by
  show am_ww 32 0 [.ref 19, .ref 12, .ref 28, .int (nI k), am_U, am_U] [] E I J S Q
  apply g32_0_19
  have hmm := vb hp.1
  have := m_cnt_le (m_can I (I 28) r) (I 103 4).toNatClampNeg 0
  exact c32_l19 rfl hp hc hr hm _ 0 k (Nat.zero_add _) hk (by omega) h
theorem c33_19 {E : am_Ev} {I : Nat → Nat → Int32} {J : Nat → Nat → Int64} {S : Nat → Nat → Option Nat} {Q : am_Qt} {r : Nat → Int32} {T : Nat} (hp : p_in I) (hr : r_ok I r) (hm : rm I 20 r) (h : Q (.inl none) E (u_I (u_I I 19 (upd (upd (upd (I 19) 4 (if nI T = r 44 then nI 0 else nI 1)) 5 (m_lb r)) 6 (m_lp r))) 20 (upd (I 20) 6 (nI T))) J S) : am_cl 33 [.ref 19, .int (nI T)] E I J S Q := by
  show am_ww 33 0 [.ref 19, .int (nI T), am_U] [] E I J S Q
  have hmm := vb hp.1
  have e44 : I 20 6 = r 44 := hm.2.2.2.2.2.1
  apply g33_0_19
  rw [e44]
  intro w2 e2
  refine ⟨by rw [e2]; split <;> decide, ?_⟩
  have hin : ¬ r 44 = -1 → vp_in (r 44) 4 := fun c => vl (hr.2.2.1.resolve_left c) (by omega)
  refine ⟨⟨fun _ => trivial, fun c => ⟨hin c, trivial⟩⟩, ?_⟩
  intro w4 e4
  refine ⟨⟨fun _ => trivial, fun c => ⟨hin c, trivial⟩⟩, ?_⟩
  intro w6 e6
  have f4 : w4 = m_lb r := by
    rw [e4]
    unfold m_lb
    by_cases c : r 44 = -1
    · rw [if_pos c, if_pos c]
    · rw [if_neg c, if_neg c]; exact hm.2.2.2.1 _ (vb (hin c))
  have f6 : w6 = m_lp r := by
    rw [e6]
    unfold m_lp
    by_cases c : r 44 = -1
    · rw [if_pos c, if_pos c]
    · rw [if_neg c, if_neg c]; exact hm.2.2.1 _ (vb (hin c))
  rw [e2, f4, f6]
  exact h
theorem c30_44_19 {E : am_Ev} {I : Nat → Nat → Int32} {J : Nat → Nat → Int64} {S : Nat → Nat → Option Nat} {Q : am_Qt} {s : Nat → Int32} {T : Nat} {d3 d4 d5 : Value} (hd3 : am_isL d3 = false) (hd4 : am_isL d4 = false) (hd5 : am_isL d5 = false) (hp : p_in I) (hc : p_cl I) (hr : r_ok I s) (hm : rm I 20 s) (hT : T < (I 103 4).toNatClampNeg) (h44 : s 44 = nI T) (hcan : m_can I (I 124) s T = true) (hg : gq I) (h : ∀ I', rm I' 20 (m_do I s T (m_inp I (I 123) s T)) → I' 19 = upd (upd (I 19) 3 (nI (m_i s T))) 2 (I 19 2 - nI 1) → fb I I' 19 26 → Q (.inl (some (.int (nI 1)))) E I' J S) : am_ww 30 44 [.ref 19, .ref 12, .ref 18, d3, d4, d5] [] E I J S Q := by
  obtain ⟨p, n, ep, en, hpn, hn, hi, ht4, hok⟩ := r_at hp hr hT
  have e44 : I 20 6 = nI T := hm.2.2.2.2.2.1.trans h44
  obtain ⟨g1, g2, g3⟩ := m_can_t hcan
  apply g30_44_19 hd3 hd4 hd5
  rw [e44]
  refine c24_20 hp hc hr hm hT (fun c => q_mkI ?_) (fun c => absurd g1 c)
  have f1 : fb I (u_I I 19 (upd (I 19) 3 (nI (m_i s T)))) 19 26 := fb_u fb_id (by omega) (by omega)
  have f1n : u_I I 19 (upd (I 19) 3 (nI (m_i s T))) 19 = upd (I 19) 3 (nI (m_i s T)) := u_I_eq
  have fk : ∀ k, k ≠ 19 → u_I I 19 (upd (I 19) 3 (nI (m_i s T))) k = I k := fun k hk => u_I_ne hk
  generalize u_I I 19 (upd (I 19) 3 (nI (m_i s T))) = I1 at f1 f1n fk ⊢
  have hq1 : p_q I I1 := p_q_fb f1 (by omega)
  have hp1 : p_in I1 := (p_in_e hq1.2).mpr hp
  have hc1 : p_cl I1 := (p_cl_e hq1).mpr hc
  have hr1 : r_ok I1 s := (r_ok_e hq1.2).mpr hr
  have hm1 : rm I1 20 s := rm_e hm (fun k h1 h2 => fk k (by omega))
  have hT1 : T < (I1 103 4).toNatClampNeg := by rw [fk 103 (by omega)]; exact hT
  have g11 : s (16 + 6 * T + 4) < I1 105 T := by rw [fk 105 (by omega)]; exact g1
  have fin : am_cl 36 [.ref 20, .ref 12, .int (m_inp I (I 123) s T)] E I1 J S (q_V fun E8 I8 J8 S8 => Q (.inl (some (.int (nI 1)))) E8 (u_I I8 19 (upd (I8 19) 2 (((I8 19) 2) - (nI 1)))) J8 S8) := by
    refine c36_20 hp1 hc1 hr1 hm1 hT1 h44 g11 (fun I8 a8 b8 => q_mkV ?_)
    have e8 : I8 19 = upd (I 19) 3 (nI (m_i s T)) := (b8 19 (by omega)).trans f1n
    rw [m_do_e hq1.2] at a8
    refine h _ (rm_e a8 (fun k h1 h2 => u_I_ne (by omega))) ?_ (fb_u (fb_tr f1 (fb_le b8 (by omega) (by omega))) (by omega) (by omega))
    rw [u_I_eq, e8, upd_ne (by omega)]
  refine c34_20 hp1 hc1 hr1 hm1 hT1 h44 g11 (fun c => q_mkI ?_) (fun c => q_mkI ?_)
  · rw [fk 106 (by omega), hi] at c
    rw [fk 108 (by omega), hi]
    rw [ep, en, nI_ltI (by omega) (by omega)] at g1
    obtain ⟨o, ho, eo, q1, q2, q3, q4, q5, q6⟩ := hok g1
    have o6 : o = 6 := by rw [eo, nI_eq (by omega) (by omega)] at c; exact c
    obtain ⟨z, hz, ez⟩ := vn (q5 o6)
    obtain ⟨y, hy, ey⟩ := vn (hr.2.2.2 z hz)
    obtain ⟨k1, k2, k3⟩ := hg z hz
    have g2' := g2 (by rw [hi]; exact c)
    rw [hi, ez, nI_clamp (by omega), ey] at g2'
    obtain ⟨w, hw, ew⟩ := vn k2
    rw [ew, nI_ltI (by omega) (by omega)] at g2'
    have k3' := k3 y (by rw [ew, nI_clamp (by omega)]; exact g2')
    have e26 : I1 26 z = nI y := by rw [hm1.2.2.2.2.2.2 z hz]; exact ey
    have e27 : I1 27 = I 27 := fk 27 (by omega)
    have einp : m_inp I (I 123) s T = I 123 (30 * z + y) := by
      unfold m_inp
      rw [hi, if_pos c]
      simp (disch := omega) only [Nat.reduceEqDiff, reduceIte, nI_mulI, nI_add, nI_clamp, nI_ltI, nI_leI, nI_eq, nI_e0, nI_n0, vt, forall_eq, true_and, and_true, true_implies, forall_const, not_true_eq_false, not_false_eq_true, false_implies, implies_true, ez, ey]
    rw [einp] at fin
    rw [ez]
    simp (disch := omega) only [Nat.reduceEqDiff, reduceIte, nI_mulI, nI_add, nI_clamp, nI_ltI, nI_leI, nI_eq, nI_e0, nI_n0, vt, forall_eq, true_and, and_true, true_implies, forall_const, not_true_eq_false, not_false_eq_true, false_implies, implies_true, e26, e27]
    refine ⟨fun q => absurd q (nI_nm (by omega)), fun _ => ?_⟩
    rw [if_neg (by omega), k3']
    exact fin
  · have einp : m_inp I (I 123) s T = nI 0 := by
      unfold m_inp
      rw [fk 106 (by omega)] at c
      rw [if_neg c]
    rw [einp] at fin
    exact ⟨fun _ => fin, fun q => absurd rfl q⟩
theorem c22_l77 {E : am_Ev} {I : Nat → Nat → Int32} {J : Nat → Nat → Int64} {S : Nat → Nat → Option Nat} {Q : am_Qt} {r : Nat → Int32} (hp : p_in I) (hc : p_cl I) (hr : r_ok I r) (hm : rm I 77 r) : ∀ n t c, t + n = (I 103 4).toNatClampNeg → c ≤ t → Q (.inl (some (.int (nI (c + m_cnt (m_can I (I 28) r) n t))))) E I J S → am_ww 22 4 [.ref 77, .ref 12, .ref 28, .int (nI c), .int (nI t)] [] E I J S Q := by
  have hmm := vb hp.1
  have e3 : I 12 5 = nI (I 103 4).toNatClampNeg := hc.1.trans (vc hp.1)
  intro n
  induction n with
  | zero =>
    intro t c e hc' h
    apply g22_4_77
    rw [e3]
    simp (disch := omega) only [Nat.reduceEqDiff, reduceIte, nI_mulI, nI_add, nI_clamp, nI_ltI, nI_leI, nI_eq, nI_e0, nI_n0, vt, forall_eq, true_and, and_true, true_implies, forall_const, not_true_eq_false, not_false_eq_true, false_implies, implies_true]
    exact ⟨fun _ => h, fun q => absurd (by omega) q⟩
  | succ n ih =>
    intro t c e hc' h
    apply g22_4_77
    rw [e3]
    simp (disch := omega) only [Nat.reduceEqDiff, reduceIte, nI_mulI, nI_add, nI_clamp, nI_ltI, nI_leI, nI_eq, nI_e0, nI_n0, vt, forall_eq, true_and, and_true, true_implies, forall_const, not_true_eq_false, not_false_eq_true, false_implies, implies_true]
    refine ⟨fun q => absurd q (by omega), fun _ => ?_⟩
    refine c23_77 hp hc hr hm (t := t) (by omega) (q_mkI ?_)
    rw [bI_0]
    unfold m_cnt at h
    refine ⟨fun c1 => ?_, fun c1 => ?_⟩
    · rw [if_neg (by rw [c1]; exact Bool.false_ne_true), Nat.zero_add] at h
      exact ih (t + 1) c (by omega) (by omega) h
    · rw [Bool.not_eq_false] at c1
      rw [if_pos c1, ← Nat.add_assoc] at h
      exact ih (t + 1) (c + 1) (by omega) (by omega) h
theorem c22_77 {E : am_Ev} {I : Nat → Nat → Int32} {J : Nat → Nat → Int64} {S : Nat → Nat → Option Nat} {Q : am_Qt} {r : Nat → Int32} (hp : p_in I) (hc : p_cl I) (hr : r_ok I r) (hm : rm I 77 r) (h : Q (.inl (some (.int (nI (m_cnt (m_can I (I 28) r) (I 103 4).toNatClampNeg 0))))) E I J S) : am_cl 22 [.ref 77, .ref 12, .ref 28] E I J S Q := by
  show am_ww 22 0 [.ref 77, .ref 12, .ref 28, am_U, am_U] [] E I J S Q
  apply g22_0_77
  exact c22_l77 hp hc hr hm _ 0 0 (Nat.zero_add _) (by omega) (by rw [Nat.zero_add]; exact h)
theorem c32_l76 {E : am_Ev} {I : Nat → Nat → Int32} {J : Nat → Nat → Int64} {S : Nat → Nat → Option Nat} {Q : am_Qt} {r : Nat → Int32} {d3 : Value} (hd3 : am_isL d3 = false) (hp : p_in I) (hc : p_cl I) (hr : r_ok I r) (hm : rm I 77 r) : ∀ n t k, t + n = (I 103 4).toNatClampNeg → k < m_cnt (m_can I (I 28) r) n t → k < 4 → Q (.inl (some (.int (nI (m_sel (m_can I (I 28) r) n t k))))) E I J S → am_ww 32 4 [.ref 76, .ref 12, .ref 28, d3, .int (nI k), .int (nI t)] [] E I J S Q := by
  have hmm := vb hp.1
  have e3 : I 12 5 = nI (I 103 4).toNatClampNeg := hc.1.trans (vc hp.1)
  intro n
  induction n with
  | zero => intro t k e hk; exact absurd hk (Nat.not_lt_zero _)
  | succ n ih =>
    intro t k e hk hk4 h
    apply g32_4_76 hd3
    rw [e3]
    simp (disch := omega) only [Nat.reduceEqDiff, reduceIte, nI_mulI, nI_add, nI_clamp, nI_ltI, nI_leI, nI_eq, nI_e0, nI_n0, vt, forall_eq, true_and, and_true, true_implies, forall_const, not_true_eq_false, not_false_eq_true, false_implies, implies_true]
    refine ⟨fun q => absurd q (by omega), fun _ => ?_⟩
    refine c23_77 hp hc hr hm (t := t) (by omega) (q_mkI ?_)
    rw [bI_0]
    unfold m_cnt at hk
    unfold m_sel at h
    refine ⟨fun c1 => ?_, fun c1 => ⟨fun c0 => ?_, fun c0 => ?_⟩⟩
    · rw [if_neg (by rw [c1]; exact Bool.false_ne_true)] at h hk
      exact ih (t + 1) k (by omega) (by omega) hk4 h
    · rw [Bool.not_eq_false] at c1
      rw [if_pos c1, if_pos c0] at h
      exact h
    · rw [Bool.not_eq_false] at c1
      rw [if_pos c1] at hk
      rw [if_pos c1, if_neg c0] at h
      rw [nI_subI (by omega)]
      exact ih (t + 1) (k - 1) (by omega) (by omega) (by omega) h
theorem c32_76 {E : am_Ev} {I : Nat → Nat → Int32} {J : Nat → Nat → Int64} {S : Nat → Nat → Option Nat} {Q : am_Qt} {r : Nat → Int32} {k : Nat} (hp : p_in I) (hc : p_cl I) (hr : r_ok I r) (hm : rm I 77 r) (hk : k < m_cnt (m_can I (I 28) r) (I 103 4).toNatClampNeg 0) (h : Q (.inl (some (.int (nI (m_sel (m_can I (I 28) r) (I 103 4).toNatClampNeg 0 k))))) E I J S) : am_cl 32 [.ref 76, .ref 12, .ref 28, .int (nI k)] E I J S Q := by
  show am_ww 32 0 [.ref 76, .ref 12, .ref 28, .int (nI k), am_U, am_U] [] E I J S Q
  apply g32_0_76
  have hmm := vb hp.1
  have := m_cnt_le (m_can I (I 28) r) (I 103 4).toNatClampNeg 0
  exact c32_l76 rfl hp hc hr hm _ 0 k (Nat.zero_add _) hk (by omega) h
theorem c33_76 {E : am_Ev} {I : Nat → Nat → Int32} {J : Nat → Nat → Int64} {S : Nat → Nat → Option Nat} {Q : am_Qt} {r : Nat → Int32} {T : Nat} (hp : p_in I) (hr : r_ok I r) (hm : rm I 77 r) (h : Q (.inl none) E (u_I (u_I I 76 (upd (upd (upd (I 76) 4 (if nI T = r 44 then nI 0 else nI 1)) 5 (m_lb r)) 6 (m_lp r))) 77 (upd (I 77) 6 (nI T))) J S) : am_cl 33 [.ref 76, .int (nI T)] E I J S Q := by
  show am_ww 33 0 [.ref 76, .int (nI T), am_U] [] E I J S Q
  have hmm := vb hp.1
  have e44 : I 77 6 = r 44 := hm.2.2.2.2.2.1
  apply g33_0_76
  rw [e44]
  intro w2 e2
  refine ⟨by rw [e2]; split <;> decide, ?_⟩
  have hin : ¬ r 44 = -1 → vp_in (r 44) 4 := fun c => vl (hr.2.2.1.resolve_left c) (by omega)
  refine ⟨⟨fun _ => trivial, fun c => ⟨hin c, trivial⟩⟩, ?_⟩
  intro w4 e4
  refine ⟨⟨fun _ => trivial, fun c => ⟨hin c, trivial⟩⟩, ?_⟩
  intro w6 e6
  have f4 : w4 = m_lb r := by
    rw [e4]
    unfold m_lb
    by_cases c : r 44 = -1
    · rw [if_pos c, if_pos c]
    · rw [if_neg c, if_neg c]; exact hm.2.2.2.1 _ (vb (hin c))
  have f6 : w6 = m_lp r := by
    rw [e6]
    unfold m_lp
    by_cases c : r 44 = -1
    · rw [if_pos c, if_pos c]
    · rw [if_neg c, if_neg c]; exact hm.2.2.1 _ (vb (hin c))
  rw [e2, f4, f6]
  exact h
theorem c30_44_76 {E : am_Ev} {I : Nat → Nat → Int32} {J : Nat → Nat → Int64} {S : Nat → Nat → Option Nat} {Q : am_Qt} {s : Nat → Int32} {T : Nat} {d3 d4 d5 : Value} (hd3 : am_isL d3 = false) (hd4 : am_isL d4 = false) (hd5 : am_isL d5 = false) (hp : p_in I) (hc : p_cl I) (hr : r_ok I s) (hm : rm I 77 s) (hT : T < (I 103 4).toNatClampNeg) (h44 : s 44 = nI T) (hcan : m_can I (I 124) s T = true) (hg : gq I) (h : ∀ I', rm I' 77 (m_do I s T (m_inp I (I 123) s T)) → I' 76 = upd (upd (I 76) 3 (nI (m_i s T))) 2 (I 76 2 - nI 1) → fb I I' 76 83 → Q (.inl (some (.int (nI 1)))) E I' J S) : am_ww 30 44 [.ref 76, .ref 12, .ref 18, d3, d4, d5] [] E I J S Q := by
  obtain ⟨p, n, ep, en, hpn, hn, hi, ht4, hok⟩ := r_at hp hr hT
  have e44 : I 77 6 = nI T := hm.2.2.2.2.2.1.trans h44
  obtain ⟨g1, g2, g3⟩ := m_can_t hcan
  apply g30_44_76 hd3 hd4 hd5
  rw [e44]
  refine c24_77 hp hc hr hm hT (fun c => q_mkI ?_) (fun c => absurd g1 c)
  have f1 : fb I (u_I I 76 (upd (I 76) 3 (nI (m_i s T)))) 76 83 := fb_u fb_id (by omega) (by omega)
  have f1n : u_I I 76 (upd (I 76) 3 (nI (m_i s T))) 76 = upd (I 76) 3 (nI (m_i s T)) := u_I_eq
  have fk : ∀ k, k ≠ 76 → u_I I 76 (upd (I 76) 3 (nI (m_i s T))) k = I k := fun k hk => u_I_ne hk
  generalize u_I I 76 (upd (I 76) 3 (nI (m_i s T))) = I1 at f1 f1n fk ⊢
  have hq1 : p_q I I1 := p_q_fb f1 (by omega)
  have hp1 : p_in I1 := (p_in_e hq1.2).mpr hp
  have hc1 : p_cl I1 := (p_cl_e hq1).mpr hc
  have hr1 : r_ok I1 s := (r_ok_e hq1.2).mpr hr
  have hm1 : rm I1 77 s := rm_e hm (fun k h1 h2 => fk k (by omega))
  have hT1 : T < (I1 103 4).toNatClampNeg := by rw [fk 103 (by omega)]; exact hT
  have g11 : s (16 + 6 * T + 4) < I1 105 T := by rw [fk 105 (by omega)]; exact g1
  have fin : am_cl 36 [.ref 77, .ref 12, .int (m_inp I (I 123) s T)] E I1 J S (q_V fun E8 I8 J8 S8 => Q (.inl (some (.int (nI 1)))) E8 (u_I I8 76 (upd (I8 76) 2 (((I8 76) 2) - (nI 1)))) J8 S8) := by
    refine c36_77 hp1 hc1 hr1 hm1 hT1 h44 g11 (fun I8 a8 b8 => q_mkV ?_)
    have e8 : I8 76 = upd (I 76) 3 (nI (m_i s T)) := (b8 76 (by omega)).trans f1n
    rw [m_do_e hq1.2] at a8
    refine h _ (rm_e a8 (fun k h1 h2 => u_I_ne (by omega))) ?_ (fb_u (fb_tr f1 (fb_le b8 (by omega) (by omega))) (by omega) (by omega))
    rw [u_I_eq, e8, upd_ne (by omega)]
  refine c34_77 hp1 hc1 hr1 hm1 hT1 h44 g11 (fun c => q_mkI ?_) (fun c => q_mkI ?_)
  · rw [fk 106 (by omega), hi] at c
    rw [fk 108 (by omega), hi]
    rw [ep, en, nI_ltI (by omega) (by omega)] at g1
    obtain ⟨o, ho, eo, q1, q2, q3, q4, q5, q6⟩ := hok g1
    have o6 : o = 6 := by rw [eo, nI_eq (by omega) (by omega)] at c; exact c
    obtain ⟨z, hz, ez⟩ := vn (q5 o6)
    obtain ⟨y, hy, ey⟩ := vn (hr.2.2.2 z hz)
    obtain ⟨k1, k2, k3⟩ := hg z hz
    have g2' := g2 (by rw [hi]; exact c)
    rw [hi, ez, nI_clamp (by omega), ey] at g2'
    obtain ⟨w, hw, ew⟩ := vn k2
    rw [ew, nI_ltI (by omega) (by omega)] at g2'
    have k3' := k3 y (by rw [ew, nI_clamp (by omega)]; exact g2')
    have e26 : I1 83 z = nI y := by rw [hm1.2.2.2.2.2.2 z hz]; exact ey
    have e27 : I1 27 = I 27 := fk 27 (by omega)
    have einp : m_inp I (I 123) s T = I 123 (30 * z + y) := by
      unfold m_inp
      rw [hi, if_pos c]
      simp (disch := omega) only [Nat.reduceEqDiff, reduceIte, nI_mulI, nI_add, nI_clamp, nI_ltI, nI_leI, nI_eq, nI_e0, nI_n0, vt, forall_eq, true_and, and_true, true_implies, forall_const, not_true_eq_false, not_false_eq_true, false_implies, implies_true, ez, ey]
    rw [einp] at fin
    rw [ez]
    simp (disch := omega) only [Nat.reduceEqDiff, reduceIte, nI_mulI, nI_add, nI_clamp, nI_ltI, nI_leI, nI_eq, nI_e0, nI_n0, vt, forall_eq, true_and, and_true, true_implies, forall_const, not_true_eq_false, not_false_eq_true, false_implies, implies_true, e26, e27]
    refine ⟨fun q => absurd q (nI_nm (by omega)), fun _ => ?_⟩
    rw [if_neg (by omega), k3']
    exact fin
  · have einp : m_inp I (I 123) s T = nI 0 := by
      unfold m_inp
      rw [fk 106 (by omega)] at c
      rw [if_neg c]
    rw [einp] at fin
    exact ⟨fun _ => fin, fun q => absurd rfl q⟩
