/-! a live step -/
def m_inp (P : Nat → Nat → Int32) (gv r : Nat → Int32) (t : Nat) : Int32 := if P 106 (m_i r t) = nI 6 then gv (30 * (P 108 (m_i r t)).toNatClampNeg + (r (48 + (P 108 (m_i r t)).toNatClampNeg)).toNatClampNeg) else nI 0
def m_st (P : Nat → Nat → Int32) (gv r : Nat → Int32) : Nat → Int32 := upd (m_do P r (r 44).toNatClampNeg (m_inp P gv r (r 44).toNatClampNeg)) 45 (r 45 - nI 1)
def m_need (P : Nat → Nat → Int32) (G r : Nat → Int32) : Bool := decide (r 44 = -1) || decide (r 45 = 0) || !m_can P G r (r 44).toNatClampNeg
def m_pre (P : Nat → Nat → Int32) (G : Nat → Int32) (q : Nat) (r : Nat → Int32) : Option (Nat → Int32) := if m_need P G r then (if m_cnt (m_can P G r) (P 103 4).toNatClampNeg 0 = 0 then none else some (m_ch P G q r)) else some r
def m_live (P : Nat → Nat → Int32) (G gv : Nat → Int32) (q : Nat) (r : Nat → Int32) : Option (Nat → Int32) := (m_pre P G q r).map (m_st P gv)
/-- a thread that can go has not ended; its input is there -/
theorem m_can_t {P : Nat → Nat → Int32} {G r : Nat → Int32} {t : Nat} (h : m_can P G r t = true) : r (16 + 6 * t + 4) < P 105 t ∧ (P 106 (m_i r t) = nI 6 → r (48 + (P 108 (m_i r t)).toNatClampNeg) < G (P 108 (m_i r t)).toNatClampNeg) ∧ (P 106 (m_i r t) = nI 7 → r (40 + (P 107 (m_i r t)).toNatClampNeg) = -1) := by
  unfold m_can at h
  rw [Bool.and_eq_true, decide_eq_true_eq] at h
  refine ⟨h.1, fun c => ?_, fun c => ?_⟩
  · have h2 := h.2
    rw [if_neg (by rw [c]; decide), if_pos c, decide_eq_true_eq] at h2
    exact h2
  · have h2 := h.2
    rw [if_pos c, decide_eq_true_eq] at h2
    exact h2
theorem m_ch_at {P : Nat → Nat → Int32} {G r : Nat → Int32} {q : Nat} (hn : m_cnt (m_can P G r) (P 103 4).toNatClampNeg 0 ≠ 0) : ∃ T, T < (P 103 4).toNatClampNeg ∧ m_can P G r T = true ∧ m_ch P G q r 44 = nI T ∧ (∀ k, k < 44 ∨ 48 ≤ k → m_ch P G q r k = r k) ∧ m_ch P G q r 47 = (if m_ch P G q r 44 = r 44 then r 47 else r 47 + nI 1) := by
  have hk : m_b (m_d (r 46)) % m_cnt (m_can P G r) (P 103 4).toNatClampNeg 0 < m_cnt (m_can P G r) (P 103 4).toNatClampNeg 0 := Nat.mod_lt _ (by omega)
  obtain ⟨s1, s2, s3⟩ := m_sel_lt (m_can P G r) (P 103 4).toNatClampNeg 0 _ hk
  have hch : m_ch P G q r = (if nI (m_sel (m_can P G r) (P 103 4).toNatClampNeg 0 (m_b (m_d (r 46)) % m_cnt (m_can P G r) (P 103 4).toNatClampNeg 0)) = r 44 then upd (upd r 46 (m_d (m_d (r 46)))) 45 (nI (m_b (m_d (m_d (r 46))) % q + 1)) else upd (upd (upd (upd r 46 (m_d (m_d (r 46)))) 45 (nI (m_b (m_d (m_d (r 46))) % q + 1))) 47 (r 47 + nI 1)) 44 (nI (m_sel (m_can P G r) (P 103 4).toNatClampNeg 0 (m_b (m_d (r 46)) % m_cnt (m_can P G r) (P 103 4).toNatClampNeg 0)))) := rfl
  generalize m_sel (m_can P G r) (P 103 4).toNatClampNeg 0 (m_b (m_d (r 46)) % m_cnt (m_can P G r) (P 103 4).toNatClampNeg 0) = T at s1 s2 s3 hch
  refine ⟨T, by omega, s3, ?_⟩
  by_cases c : nI T = r 44
  · rw [if_pos c] at hch
    have e44 : m_ch P G q r 44 = r 44 := by rw [hch, upd_ne (by omega), upd_ne (by omega)]
    refine ⟨by rw [e44, c], fun k hk => by rw [hch, upd_ne (by omega), upd_ne (by omega)], ?_⟩
    rw [e44, if_pos rfl, hch, upd_ne (by omega), upd_ne (by omega)]
  · rw [if_neg c] at hch
    have e44 : m_ch P G q r 44 = nI T := by rw [hch, upd_eq]
    refine ⟨e44, fun k hk => by rw [hch, upd_ne (by omega), upd_ne (by omega), upd_ne (by omega), upd_ne (by omega)], ?_⟩
    rw [e44, if_neg c, hch, upd_ne (by omega), upd_eq]
theorem m_need_f {P : Nat → Nat → Int32} {G r : Nat → Int32} (hr : r_ok P r) (h : ¬ m_need P G r = true) : vp_in (r 44) (P 103 4).toNatClampNeg ∧ ¬ r 44 = -1 ∧ ¬ r 45 = 0 ∧ m_can P G r (r 44).toNatClampNeg = true := by
  unfold m_need at h
  simp only [Bool.or_eq_true, decide_eq_true_eq, Bool.not_eq_true', not_or, Bool.not_eq_false] at h
  exact ⟨hr.2.2.1.resolve_left h.1.1, h.1.1, h.1.2, h.2⟩
/-- the row from which the instruction is done -/
theorem m_pre_ok {P : Nat → Nat → Int32} {G r s : Nat → Int32} {q : Nat} (hp : p_in P) (hr : r_ok P r) (h : m_pre P G q r = some s) : ∃ T, T < (P 103 4).toNatClampNeg ∧ s 44 = nI T ∧ m_can P G r T = true ∧ m_can P G s T = true ∧ (∀ k, k < 44 ∨ 48 ≤ k → s k = r k) ∧ r_ok P s ∧ s 47 = (if s 44 = r 44 then r 47 else r 47 + nI 1) := by
  have hm := vb hp.1
  unfold m_pre at h
  by_cases c : m_need P G r = true
  · rw [if_pos c] at h
    by_cases c2 : m_cnt (m_can P G r) (P 103 4).toNatClampNeg 0 = 0
    · rw [if_pos c2] at h; cases h
    · rw [if_neg c2] at h
      cases h
      obtain ⟨T, h1, h2, h3, h4, h5⟩ := m_ch_at (q := q) c2
      have hrs : r_ok P (m_ch P G q r) := by
        obtain ⟨a, b, c, d⟩ := hr
        refine ⟨fun t ht => ?_, fun l hl => ?_, ?_, fun z hz => ?_⟩
        · rw [h4 _ (by omega)]; exact a t ht
        · rw [h4 _ (by omega)]; exact b l hl
        · rw [h3]; exact Or.inr (vp_in_nI h1 (by omega))
        · rw [h4 _ (by omega)]; exact d z hz
      refine ⟨T, h1, h3, h2, ?_, h4, hrs, h5⟩
      rw [← h2]
      obtain ⟨p, n, ep, en, hpn, hn, hi, ht4, hok⟩ := r_at hp hr h1
      have hi' : m_i (m_ch P G q r) T = 16 * T + p := by unfold m_i; rw [h4 _ (by omega), ep, nI_clamp (by omega)]
      obtain ⟨g1, g2, g3⟩ := m_can_t h2
      have g1' := g1
      rw [ep, en, nI_ltI (by omega) (by omega)] at g1'
      obtain ⟨o, ho, eo, q1, q2, q3, q4, q5, q6⟩ := hok g1'
      unfold m_can
      rw [hi, hi', eo, h4 (16 + 6 * T + 4) (by omega)]
      simp (disch := omega) only [nI_eq]
      by_cases c7 : o = 7
      · have b := vb (q2 (by omega) (by omega) (by omega))
        rw [if_pos c7, if_pos c7, h4 _ (by omega)]
      · rw [if_neg c7, if_neg c7]
        by_cases c6 : o = 6
        · rw [if_pos c6, if_pos c6, h4 _ (by omega)]
        · rw [if_neg c6, if_neg c6]
  · rw [if_neg c] at h
    cases h
    obtain ⟨h1, h2, h3, h4⟩ := m_need_f hr c
    exact ⟨_, vb h1, vc h1, h4, h4, fun _ _ => rfl, hr, (if_pos rfl).symm⟩
