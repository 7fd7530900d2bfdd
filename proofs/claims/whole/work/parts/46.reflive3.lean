/-! the reference: does, liveStep -/
def p_eq (P P' : Nat → Nat → Int32) : Prop := ∀ k, 103 ≤ k → k < 110 → P' k = P k
section
variable {P P' : Nat → Nat → Int32} {G gv r : Nat → Int32} {t q : Nat} {x : Int32} (h : p_eq P P')
theorem p_in_e : p_eq P P' → (p_in P' ↔ p_in P) := by
  intro h
  unfold p_in p_ok
  rw [h 103 (by omega) (by omega), h 105 (by omega) (by omega), h 106 (by omega) (by omega), h 107 (by omega) (by omega), h 108 (by omega) (by omega), h 109 (by omega) (by omega)]
theorem r_ok_e : p_eq P P' → (r_ok P' r ↔ r_ok P r) := by
  intro h
  unfold r_ok
  rw [h 103 (by omega) (by omega), h 105 (by omega) (by omega)]
theorem m_can_e : p_eq P P' → m_can P' G r t = m_can P G r t := by
  intro h
  unfold m_can
  rw [h 105 (by omega) (by omega), h 106 (by omega) (by omega), h 107 (by omega) (by omega), h 108 (by omega) (by omega)]
theorem m_do_e : p_eq P P' → m_do P' r t x = m_do P r t x := by
  intro h
  unfold m_do m_val m_to m_isB
  rw [h 106 (by omega) (by omega), h 107 (by omega) (by omega), h 108 (by omega) (by omega), h 109 (by omega) (by omega)]
theorem m_inp_e : p_eq P P' → m_inp P' gv r t = m_inp P gv r t := by
  intro h
  unfold m_inp
  rw [h 106 (by omega) (by omega), h 108 (by omega) (by omega)]
theorem m_st_e : p_eq P P' → m_st P' gv r = m_st P gv r := by
  intro h
  unfold m_st
  rw [m_do_e h, m_inp_e h]
theorem m_can_ef : p_eq P P' → m_can P' G r = m_can P G r := fun h => funext fun _ => m_can_e h
theorem m_ch_e : p_eq P P' → m_ch P' G q r = m_ch P G q r := by
  intro h
  unfold m_ch
  rw [h 103 (by omega) (by omega), m_can_ef h]
theorem m_pre_e : p_eq P P' → m_pre P' G q r = m_pre P G q r := by
  intro h
  unfold m_pre m_need
  rw [h 103 (by omega) (by omega), m_can_ef h, m_ch_e h]
theorem m_live_e : p_eq P P' → m_live P' G gv q r = m_live P G gv q r := by
  intro h
  unfold m_live
  rw [m_pre_e h, show m_st P' gv = m_st P gv from funext fun s => m_st_e h]
end
theorem p_eq_fr {I I' : Nat → Nat → Int32} {L : List Nat} (h : fr I I' L) (hl : ∀ k, k ∈ L → k < 103 ∨ 110 ≤ k) : p_eq I I' := fun k h1 h2 => h k (fun q => by have := hl k q; omega)
theorem p_eq_u {I : Nat → Nat → Int32} {j : Nat} {f : Nat → Int32} (h : j < 103 ∨ 110 ≤ j) : p_eq I (u_I I j f) := fun k h1 h2 => u_I_ne (by omega)
theorem m240 {E : am_Ev} {I : Nat → Nat → Int32} {J : Nat → Nat → Int64} {S : Nat → Nat → Option Nat} {Q : am_Qt} {T : Nat} {x : Int32} (hp : p_in I) (hr : r_ok I (I 116)) (hT : T < (I 103 4).toNatClampNeg) (h44 : I 116 44 = nI T) (hs : I 116 (16 + 6 * T + 4) < I 105 T) (h : Q (.inl none) E (u_I (u_I I 99 (upd (upd (I 99) 39 (nI T)) 40 (nI (m_i (I 116) T)))) 116 (m_do I (I 116) T x)) J S) : am_cl 240 [.ref 99, .int x] E I J S Q := by
  show am_ww 240 0 [.ref 99, .int x] [] E I J S Q
  obtain ⟨p, n, ep, en, hpn, hn, hi, ht4, hok⟩ := r_at hp hr hT
  apply g240_0
  rw [h44]
  simp (disch := omega) only [Nat.reduceEqDiff, reduceIte, nI_mulI, nI_add, nI_clamp, nI_ltI, nI_leI, nI_eq, nI_e0, nI_n0, vt, forall_eq, true_and, and_true, true_implies, forall_const, not_true_eq_false, not_false_eq_true, false_implies, implies_true, ep]
  have hu := p_eq_u (I := I) (j := 99) (f := upd (upd (I 99) 39 (nI T)) 40 (nI (16 * T + p))) (by omega)
  have e116 : u_I I 99 (upd (upd (I 99) 39 (nI T)) 40 (nI (16 * T + p))) 116 = I 116 := u_I_ne (by decide)
  refine m241 ((p_in_e hu).mpr hp) ?_ ?_ ?_ (q_mkV ?_)
  · rw [e116]; exact (r_ok_e hu).mpr hr
  · rw [u_I_ne (by decide)]; exact hT
  · rw [u_I_ne (by decide), u_I_ne (by decide)]; exact hs
  · rw [m_do_e hu, e116]
    rw [hi] at h
    exact h
/-- the step itself, once who goes is known -/
theorem m236_go {E : am_Ev} {I : Nat → Nat → Int32} {J : Nat → Nat → Int64} {S : Nat → Nat → Option Nat} {Q : am_Qt} {T : Nat} {G : Nat → Int32} (hp : p_in I) (hr : r_ok I (I 116)) (hT : T < (I 103 4).toNatClampNeg) (h44 : I 116 44 = nI T) (hc : m_can I G (I 116) T = true) (hG : ∀ s, s < 3 → vp_in (G s) 31)
    (h : Q (.inl (some (.int (nI 1)))) E (u_I (u_I I 99 (upd (upd (I 99) 39 (nI T)) 40 (nI (m_i (I 116) T)))) 116 (m_st I (I 123) (I 116))) J S) :
    ∀ w3 : Int32, w3 = (((nI 16) + ((nI 6) * ((I 116) 44))) + (nI 4)) → (vp_in w3 51 ∧ (∀ w5 : Int32, w5 = (((nI 16) * ((I 116) 44)) + ((I 116) w3.toNatClampNeg)) → (vp_in w5 128 ∧ (((((I 106) w5.toNatClampNeg) = (nI 6) → (vp_in ((nI 48) + ((I 108) w5.toNatClampNeg)) 51 ∧ (vp_in (((nI 30) * ((I 108) w5.toNatClampNeg)) + ((I 116) (((nI 48) + ((I 108) w5.toNatClampNeg)).toNatClampNeg))) 90 ∧ True))) ∧ (¬ ((I 106) w5.toNatClampNeg) = (nI 6) → (True))) ∧ (∀ w8 : Int32, w8 = (if ((I 106) w5.toNatClampNeg) = (nI 6) then ((I 123) ((((nI 30) * ((I 108) w5.toNatClampNeg)) + ((I 116) (((nI 48) + ((I 108) w5.toNatClampNeg)).toNatClampNeg))).toNatClampNeg)) else nI 0) → (am_cl 240 [.ref 99, .int w8] E I J S (q_V fun E9 I9 J9 S9 => Q (.inl (some (.int (nI 1)))) E9 (u_I I9 116 (upd (I9 116) 45 (((I9 116) 45) - (nI 1)))) J9 S9))))))) := by
  obtain ⟨p, n, ep, en, hpn, hn, hi, ht4, hok⟩ := r_at hp hr hT
  obtain ⟨g1, g2, g3⟩ := m_can_t hc
  have g1' := g1
  rw [ep, en, nI_ltI (by omega) (by omega)] at g1'
  have hok' := hok g1'
  obtain ⟨o, ho, eo, q1, q2, q3, q4, q5, q6⟩ := hok g1'
  rw [hi] at g2
  have hrd : o = 6 → (I 116 (48 + (I 108 (16 * T + p)).toNatClampNeg)).toNatClampNeg < 30 ∧ (I 108 (16 * T + p)).toNatClampNeg < 3 := by
    intro c
    have b := vb (q5 c)
    have g := g2 (by rw [eo, c])
    have z := hG _ b
    have z1 := vb z
    have y := hr.2.2.2 _ b
    have y1 := vb y
    rw [vc z, vc y, nI_ltI (by omega) (by omega)] at g
    exact ⟨by omega, b⟩
  rw [h44]
  simp only [nI_mulI, nI_add]
  intro w3 e3
  subst e3
  refine ⟨vp_in_nI (by omega) (by omega), ?_⟩
  simp (disch := omega) only [nI_clamp, ep, nI_add]
  intro w5 e5
  subst e5
  refine ⟨vp_in_nI (by omega) (by omega), ?_⟩
  simp (disch := omega) only [nI_clamp, eo, nI_eq]
  have fin : ∀ x : Int32, x = m_inp I (I 123) (I 116) T → am_cl 240 [.ref 99, .int x] E I J S (q_V fun E9 I9 J9 S9 => Q (.inl (some (.int (nI 1)))) E9 (u_I I9 116 (upd (I9 116) 45 (((I9 116) 45) - (nI 1)))) J9 S9) := by
    intro x ex
    refine m240 hp hr hT h44 g1 (q_mkV ?_)
    rw [u_I_eq, uI_0]
    have e45 : m_do I (I 116) T x 45 = I 116 45 := by
      unfold m_do
      rw [upd_ne (by omega), upd_ne (by omega), m_val_ne hi hok' ht4 (by omega) (by omega) (by omega) (by omega)]
    rw [e45, ex]
    unfold m_st at h
    rw [h44, nI_clamp (by omega)] at h
    exact h
  refine ⟨⟨fun c => ?_, fun _ => trivial⟩, ?_⟩
  · obtain ⟨b1, b2⟩ := hrd c
    obtain ⟨s, hs3, es⟩ := vn (q5 c)
    rw [es, nI_clamp (by omega)] at b1
    obtain ⟨y, hy, ey⟩ := vn (hr.2.2.2 s hs3)
    rw [ey, nI_clamp (by omega)] at b1
    simp (disch := omega) only [Nat.reduceEqDiff, reduceIte, nI_mulI, nI_add, nI_clamp, nI_ltI, nI_leI, nI_eq, nI_e0, nI_n0, vt, forall_eq, true_and, and_true, true_implies, forall_const, not_true_eq_false, not_false_eq_true, false_implies, implies_true, es, ey]
  · intro w8 e8
    refine fin w8 ?_
    rw [e8]
    unfold m_inp
    rw [hi, eo]
    simp (disch := omega) only [nI_eq]
    by_cases c : o = 6
    · obtain ⟨b1, b2⟩ := hrd c
      rw [if_pos c, if_pos c]
      obtain ⟨s, hs3, es⟩ := vn (q5 c)
      rw [es, nI_clamp (by omega)] at b1
      obtain ⟨y, hy, ey⟩ := vn (hr.2.2.2 s hs3)
      rw [ey, nI_clamp (by omega)] at b1
      simp (disch := omega) only [Nat.reduceEqDiff, reduceIte, nI_mulI, nI_add, nI_clamp, nI_ltI, nI_leI, nI_eq, nI_e0, nI_n0, vt, forall_eq, true_and, and_true, true_implies, forall_const, not_true_eq_false, not_false_eq_true, false_implies, implies_true, es, ey]
    · rw [if_neg c, if_neg c]
