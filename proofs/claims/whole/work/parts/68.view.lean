/-! the view: the replay at a step is the row -/
def h_eq (I I' : Nat → Nat → Int32) : Prop := p_eq I I' ∧ I' 117 = I 117 ∧ I' 120 = I 120 ∧ I' 121 = I 121 ∧ I' 122 = I 122 ∧ I' 123 = I 123
theorem h_eq_fb {I I' : Nat → Nat → Int32} {a c : Nat} (h : fb I I' a c) (hc : c < 99) : h_eq I I' := ⟨p_eq_fb h (by omega), h 117 (by omega), h 120 (by omega), h 121 (by omega), h 122 (by omega), h 123 (by omega)⟩
theorem rt_e {I I' : Nat → Nat → Int32} (h : I' 117 = I 117) : rt I' = rt I := by
  funext t k
  unfold rt
  rw [h]
theorem go_e {P P' : Nat → Nat → Int32} {L s r2 : Nat → Int32} {C : Nat} (h : p_eq P P') (h3 : P' 123 = P 123) : go P' L s r2 C ↔ go P L s r2 C := by
  unfold go
  rw [m_can_e h, m_do_e h, m_ri_e h h3, h 103 (by omega) (by omega)]
theorem m_tk_e {I I' : Nat → Nat → Int32} {n : Nat} {how wh ins : Int32} {r s : Nat → Int32} (h : h_eq I I') : m_tk I' n how wh ins r s ↔ m_tk I n how wh ins r s := by
  obtain ⟨h1, h2, h3, h4, h5, h6⟩ := h
  unfold m_tk m_due m_nx
  rw [h3, h4, h5]
theorem cs_e {I I' : Nat → Nat → Int32} {n : Nat} {L r r2 : Nat → Int32} (h : h_eq I I') : cs I' n L r r2 ↔ cs I n L r r2 := by
  constructor
  · rintro ⟨s, C, a, b⟩
    exact ⟨s, C, (m_tk_e h).mp a, (go_e h.1 h.2.2.2.2.2).mp b⟩
  · rintro ⟨s, C, a, b⟩
    exact ⟨s, C, (m_tk_e h).mpr a, (go_e h.1 h.2.2.2.2.2).mpr b⟩
theorem RW_e {I I' : Nat → Nat → Int32} {T n : Nat} (h : h_eq I I') (hr : RW I T n) : RW I' T n := by
  obtain ⟨h1, h2, h3, h4, h5, h6⟩ := hr
  have er := rt_e h.2.1
  have el : lm I' T = lm I T := by funext z; unfold lm; rw [er]
  refine ⟨h1, fun t ht => ?_, ?_, by rw [er]; exact h4, fun t ht => ?_, fun i hi => ?_⟩
  · rw [er]
    obtain ⟨a, b, c⟩ := h2 t ht
    exact ⟨(r_ok_e h.1).mpr a, b, c⟩
  · rw [er, h.1 103 (by omega) (by omega)]
    intro k hk
    rw [← h3 k hk]
    unfold m_first
    rw [h.1 104 (by omega) (by omega)]
  · rw [er, el]
    exact (cs_e h).mpr (h5 t ht)
  · rw [h.2.2.2.2.1, h.1 103 (by omega) (by omega)]
    exact h6 i hi
theorem m1_0 {a : Nat} (h : a < 2 ^ 31) : ¬ (-1 : Int32) = nI a := fun q => nI_nm h q.symm
theorem tk_n {I : Nat → Nat → Int32} {n : Nat} {wh ins : Int32} {r s : Nat → Int32} : m_tk I n (-1) wh ins r s ↔ m_tk I n (-1) 0 0 r s := by
  unfold m_tk m_ix m_nx
  rw [if_neg (m1_0 (by omega)), if_neg (m1_0 (by omega)), if_neg (m1_0 (by omega)), if_neg (m1_0 (by omega))]
theorem ri_n {P : Nat → Nat → Int32} {wh ins : Int32} {s : Nat → Int32} {C : Nat} (hp : p_in P) (hr : r_ok P s) (hC : C < (P 103 4).toNatClampNeg) (hs : s (16 + 6 * C + 4) < P 105 C) : m_ri P (-1) wh ins s C = m_ri P (-1) 0 0 s C := by
  obtain ⟨p, n, ep, en, hpn, hn, hi, ht4, hok⟩ := r_at hp hr hC
  rw [ep, en, nI_ltI (by omega) (by omega)] at hs
  obtain ⟨o, ho, eo, q1, q2, q3, q4, q5, q6⟩ := hok hs
  unfold m_ri
  rw [hi, eo]
  simp (disch := omega) only [nI_eq]
  by_cases c6 : o = 6
  · obtain ⟨z, hz, ez⟩ := vn (q5 c6)
    rw [if_pos c6, if_pos c6, ez, nI_add, if_neg (m1_0 (by omega)), if_neg (m1_0 (by omega))]
  · rw [if_neg c6, if_neg c6]
def vw (I : Nat → Nat → Int32) (T d : Nat) : Prop := I 60 1 = nI d ∧ d ≤ T ∧ I 60 2 = rt I d 47 ∧ I 60 3 = 0 ∧ I 60 4 = -1 ∧ rm I 61 (rt I d)
/-- what the view rests on -/
def vr0 (I : Nat → Nat → Int32) (T n : Nat) : Prop := p_in I ∧ p_cl I ∧ RW I T n ∧ sq I n ∧ lq I (lm I T)
theorem vr0_fb {I I' : Nat → Nat → Int32} {T n a c : Nat} (hv : vr0 I T n) (h : fb I I' a c) (ha : 32 ≤ a) (hc : c < 99) : vr0 I' T n := by
  obtain ⟨h1, h2, h3, h4, h5⟩ := hv
  have hh := h_eq_fb h hc
  have er : lm I' T = lm I T := by funext z; unfold lm; rw [rt_e hh.2.1]
  refine ⟨(p_in_e hh.1).mpr h1, (p_cl_e (p_q_fb h (by omega))).mpr h2, RW_e hh h3, ?_, ?_⟩
  · unfold sq
    rw [h 18 (by omega), h 29 (by omega), h 30 (by omega), h 31 (by omega), hh.2.2.1, hh.2.2.2.1, hh.2.2.2.2.1]
    exact h4
  · unfold lq
    rw [er, h 26 (by omega), h 27 (by omega), hh.2.2.2.2.2]
    exact h5
theorem c47v {E : am_Ev} {I : Nat → Nat → Int32} {J : Nat → Nat → Int64} {S : Nat → Nat → Option Nat} {Q : am_Qt} {T n d : Nat} (hv : vr0 I T n) (hw : vw I T d) (hd : d < T) (h : ∀ I', vw I' T (d + 1) → fb I I' 60 67 → Q (.inl (some (.int (nI 1)))) E I' J S) : am_cl 47 [.ref 60, .ref 12, .ref 18] E I J S Q := by
  obtain ⟨hp, hc, hR, hs, hl⟩ := hv
  obtain ⟨w1, w2, w3, w4, w5, w6⟩ := hw
  obtain ⟨⟨r0, r0'⟩, r1, r2, r3, r4, r5⟩ := id hR
  obtain ⟨ro, ⟨k, k1, k2⟩, _⟩ := r1 d w2
  have ko : k_ok I n (I 60 4) (I 60 6) := ⟨by omega, r5, fun q => absurd (by rw [w5] at q; exact q) (m1_0 (by omega))⟩
  obtain ⟨s0, C, t0, g0⟩ := r4 d hd
  have hrs : r_ok I s0 := (m_tk_ok (wh := 0) hp ro k2 (by omega) ⟨by omega, r5, fun q => absurd q (m1_0 (by omega))⟩ t0).1
  obtain ⟨g44, gC, gcan, gc, g47⟩ := id g0
  have hm := vb hp.1
  have rp : ∀ wh ins, m_rp I (lm I T) (-1) wh ins s0 = some (m_do I s0 C (m_ri I (-1) 0 0 s0 C)) := by
    intro wh ins
    unfold m_rp
    rw [g44, if_neg (nI_nm (by omega)), nI_clamp (by omega), gcan, if_pos rfl, ri_n hp hrs gC (m_can_t gcan).1]
  refine c47_60 hp hc ro w6 k2 (by omega) w3 w4 hs ko hl ?_ ?_
  · intro s I' ht hrp _ _ _
    rw [w5] at ht hrp
    have e := m_tk_u (tk_n.mp ht) t0
    subst e
    rw [rp] at hrp
    cases hrp
  · intro s r' I' ht hrp hm' ev f
    rw [w5] at ht hrp
    have e := m_tk_u (tk_n.mp ht) t0
    subst e
    rw [rp] at hrp
    cases hrp
    refine h I' ?_ f
    have er : rt I' = rt I := rt_e (f 117 (by omega))
    refine ⟨by rw [ev, upd_eq, w1, nI_add], by omega, ?_, by rw [ev, upd_ne (by omega), upd_ne (by omega)]; exact w4, by rw [ev, upd_ne (by omega), upd_ne (by omega)]; exact w5, by rw [er]; exact rm_c hm' gc⟩
    rw [ev, upd_ne (by omega), upd_eq, er, g47]
theorem c46v {E : am_Ev} {J : Nat → Nat → Int64} {S : Nat → Nat → Option Nat} {Q : am_Qt} {T n e : Nat} (he : e ≤ T) : ∀ m d (I : Nat → Nat → Int32), d + m = e → vr0 I T n → vw I T d → (∀ I', vw I' T e → fb I I' 60 67 → Q (.inl none) E I' J S) → am_ww 46 3 [.ref 60, .int (nI e), .ref 12, .ref 18, .int (nI d)] [] E I J S Q := by
  intro m
  induction m with
  | zero =>
    intro d I ed hv hw h
    have : d = e := by omega
    subst this
    apply g46_3_60
    exact ⟨fun _ => h I hw fb_id, fun q => absurd (Int32.le_refl _) q⟩
  | succ m ih =>
    intro d I ed hv hw h
    have hT := hv.2.2.1.1.1
    apply g46_3_60
    simp (disch := omega) only [Nat.reduceEqDiff, reduceIte, nI_mulI, nI_add, nI_clamp, nI_ltI, nI_leI, nI_eq, nI_e0, nI_n0, vt, forall_eq, true_and, and_true, true_implies, forall_const, not_true_eq_false, not_false_eq_true, false_implies, implies_true]
    refine ⟨fun q => absurd q (by omega), fun _ => ?_⟩
    refine c47v hv hw (by omega) (fun I' w' f' => q_mkI ?_)
    refine ⟨fun q => absurd q (by decide), fun _ => ?_⟩
    exact ih (d + 1) I' (by omega) (vr0_fb hv f' (by omega) (by omega)) w' (fun I'' w'' f'' => h I'' w'' (fb_tr f' f''))
theorem c46_60 {E : am_Ev} {I : Nat → Nat → Int32} {J : Nat → Nat → Int64} {S : Nat → Nat → Option Nat} {Q : am_Qt} {T n d e : Nat} (hv : vr0 I T n) (hw : vw I T d) (hde : d ≤ e) (he : e ≤ T) (h : ∀ I', vw I' T e → fb I I' 60 67 → Q (.inl none) E I' J S) : am_cl 46 [.ref 60, .int (nI e), .ref 12, .ref 18] E I J S Q := by
  show am_ww 46 0 [.ref 60, .int (nI e), .ref 12, .ref 18, am_U] [] E I J S Q
  apply g46_0_60
  rw [hw.1]
  exact c46v he (e - d) d I (by omega) hv hw h
/-- the view at its beginning -/
theorem c17v {E : am_Ev} {I : Nat → Nat → Int32} {J : Nat → Nat → Int64} {S : Nat → Nat → Option Nat} {Q : am_Qt} {T n : Nat} (hv : vr0 I T n) (h : ∀ I', vw I' T 0 → fb I I' 60 67 → Q (.inl none) E I' J S) : am_cl 17 [.ref 60, .ref 12] E I J S Q := by
  obtain ⟨hp, hc, hR, hs, hl⟩ := hv
  refine c17_60 (seed := I 103 1) hc.2.2.1 (fun I' a ev f => h I' ?_ f)
  have er : rt I' = rt I := rt_e (f 117 (by omega))
  have e0 := hR.2.2.1
  refine ⟨by rw [ev, upd_ne (by omega), upd_ne (by omega), upd_ne (by omega), upd_eq], by omega, ?_, by rw [ev, upd_ne (by omega), upd_eq]; rfl, by rw [ev, upd_eq], by rw [er]; exact rm_c a (e51_c e0)⟩
  rw [ev, upd_ne (by omega), upd_ne (by omega), upd_eq, er, ← e0 47 (by omega), m_first_0 (by omega) (by omega) (by omega)]
theorem c52 {E : am_Ev} {I : Nat → Nat → Int32} {J : Nat → Nat → Int64} {S : Nat → Nat → Option Nat} {Q : am_Qt} {T n d e : Nat} (hv : vr0 I T n) (hw : vw I T d) (he : e ≤ T) (h : ∀ I', vw I' T e → fb I I' 60 67 → Q (.inl (some (.ref 61))) E I' J S) : am_cl 52 [.ref 0, .int (nI e)] E I J S Q := by
  show am_ww 52 0 [.ref 0, .int (nI e)] [] E I J S Q
  have hT := hv.2.2.1.1.1
  have hd := hw.2.1
  apply g52_0
  rw [hw.1]
  simp (disch := omega) only [Nat.reduceEqDiff, reduceIte, nI_mulI, nI_add, nI_clamp, nI_ltI, nI_leI, nI_eq, nI_e0, nI_n0, vt, forall_eq, true_and, and_true, true_implies, forall_const, not_true_eq_false, not_false_eq_true, false_implies, implies_true]
  refine ⟨fun c => c46_60 hv hw c he (fun I' a f => q_mkV (h I' a f)), fun c => ?_⟩
  refine c17v hv (fun I' a f => q_mkV ?_)
  exact c46_60 (vr0_fb hv f (by omega) (by omega)) a (Nat.zero_le _) he (fun I'' a' f' => q_mkV (h I'' a' (fb_tr f f')))
theorem c41 {E : am_Ev} {I : Nat → Nat → Int32} {J : Nat → Nat → Int64} {S : Nat → Nat → Option Nat} {Q : am_Qt} {T n : Nat} (hv : vr0 I T n) (h : ∀ I', vw I' T 0 → I' 89 8 = nI 0 → (∀ k, k < 60 ∨ 67 < k → k ≠ 89 → I' k = I k) → (∀ f, f ≠ 8 → I' 89 f = I 89 f) → Q (.inl none) E I' J S) : am_cl 41 [.ref 0] E I J S Q := by
  show am_ww 41 0 [.ref 0] [] E I J S Q
  apply g41_0
  refine c17v hv (fun I' a f => q_mkV (h _ ?_ (by rw [u_I_eq, upd_eq]) (fun k hk hk' => by rw [u_I_ne hk', f k hk]) (fun j hj => by rw [u_I_eq, upd_ne hj, f 89 (by omega)])))
  have er : rt (u_I I' 89 (upd (I' 89) 8 (nI 0))) = rt I' := rt_e (u_I_ne (by decide))
  obtain ⟨w1, w2, w3, w4, w5, w6⟩ := a
  refine ⟨by rw [u_I_ne (by decide)]; exact w1, w2, by rw [u_I_ne (by decide), er]; exact w3, by rw [u_I_ne (by decide)]; exact w4, by rw [u_I_ne (by decide)]; exact w5, by rw [er]; exact rm_e w6 (fun k h1 h2 => u_I_ne (by omega))⟩
