/-! a record that is altered: the rows that it leads to -/
noncomputable def tk (I : Nat → Nat → Int32) (n : Nat) (how wh ins : Int32) (r : Nat → Int32) : Nat → Int32 := @ite _ (m_ix how wh (r 47) < nI n ∧ m_due I (m_ix how wh (r 47)).toNatClampNeg r) (Classical.propDecidable _) (upd (upd r 47 (r 47 + nI 1)) 44 (m_nx I how wh ins (m_ix how wh (r 47)))) r
theorem tk_sp {I : Nat → Nat → Int32} {n : Nat} {how wh ins : Int32} {r : Nat → Int32} : m_tk I n how wh ins r (tk I n how wh ins r) := by
  refine ⟨fun c => ?_, fun c d => ?_, fun c d => ?_⟩
  · unfold tk
    rw [if_neg (fun q => c q.1)]
  · unfold tk
    rw [if_neg (fun q => d q.2)]
  · unfold tk
    rw [if_pos ⟨c, d⟩]
theorem tk_of {I : Nat → Nat → Int32} {n : Nat} {how wh ins : Int32} {r s : Nat → Int32} (h : m_tk I n how wh ins r s) : s = tk I n how wh ins r := m_tk_u h tk_sp
noncomputable def nxr (I : Nat → Nat → Int32) (n : Nat) (L : Nat → Int32) (how wh ins : Int32) (r : Nat → Int32) : Option (Nat → Int32) := m_rp I L how wh ins (tk I n how wh ins r)
theorem m_rp_51 {P : Nat → Nat → Int32} {L s s' : Nat → Int32} {how wh ins : Int32} (hp : p_in P) (hr : r_ok P s) (h : e51 s s') : (m_rp P L how wh ins s = none → m_rp P L how wh ins s' = none) ∧ (∀ r, m_rp P L how wh ins s = some r → ∃ r', m_rp P L how wh ins s' = some r' ∧ e51 r r') := by
  have hm := vb hp.1
  unfold m_rp
  rw [← h 44 (by omega)]
  rcases hr.2.2.1 with c | c
  · rw [if_pos c, if_pos c]
    exact ⟨fun _ => rfl, fun r e => nomatch e⟩
  · obtain ⟨T, hT, eT⟩ := vn c
    have c1 : ¬ s 44 = -1 := by rw [eT]; exact nI_nm (by omega)
    rw [if_neg c1, if_neg c1, eT, nI_clamp (by omega)]
    have ec := m_can_c (G := L) hp hr hT (e51_c h)
    rw [← ec]
    by_cases cc : m_can P L s T = true
    · rw [if_pos cc, if_pos cc]
      refine ⟨fun e => (nomatch e), fun r e => ⟨_, rfl, ?_⟩⟩
      cases e
      have hs := (m_can_t cc).1
      have hr' : r_ok P s' := r_ok_c hp hr (e51_c h)
      have hs' : s' (16 + 6 * T + 4) < P 105 T := by rw [← h _ (by omega)]; exact hs
      obtain ⟨p, l, ep, en, hpn, hn, hi, ht4, hok⟩ := r_at hp hr hT
      have ep' : s' (16 + 6 * T + 4) = nI p := by rw [← h _ (by omega)]; exact ep
      have hi' : m_i s' T = 16 * T + p := by unfold m_i; rw [ep', nI_clamp (by omega)]
      have hs2 := hs
      rw [ep, en, nI_ltI (by omega) (by omega)] at hs2
      obtain ⟨o, ho, eo, q1, q2, q3, q4, q5, q6⟩ := hok hs2
      have ei : m_ri P how wh ins s T = m_ri P how wh ins s' T := by
        unfold m_ri
        rw [hi, hi', eo]
        by_cases c6 : o = 6
        · have b := vb (q5 c6)
          rw [h _ (by omega)]
        · rw [if_neg (by rw [nI_eq (by omega) (by omega)]; exact c6), if_neg (by rw [nI_eq (by omega) (by omega)]; exact c6)]
      rw [← ei]
      have hc := m_do_c (x := m_ri P how wh ins s T) hp hr hT hs (e51_c h)
      intro k hk
      by_cases c2 : k < 45 ∨ 48 ≤ k
      · exact hc k (by omega)
      · rw [m_do_k hp hr hT hs (by omega) (by omega), m_do_k hp hr' hT hs' (by omega) (by omega), h k hk]
    · rw [if_neg cc, if_neg cc]
      exact ⟨fun _ => rfl, fun r e => nomatch e⟩
/-- what is asked of a row in the middle of such a replay: k switches are taken, j steps done -/
def z0 (I : Nat → Nat → Int32) (r : Nat → Int32) : Prop := ∀ k, 16 + 6 * (I 103 4).toNatClampNeg ≤ k → k < 40 → r k = nI 0
def ro (I : Nat → Nat → Int32) (r : Nat → Int32) (j : Nat) : Prop := r_ok I r ∧ (∃ k, k ≤ j ∧ r 47 = nI k) ∧ z0 I r
theorem do_z {P : Nat → Nat → Int32} {r : Nat → Int32} {t k : Nat} {x : Int32} (hp : p_in P) (hr : r_ok P r) (ht : t < (P 103 4).toNatClampNeg) (hs : r (16 + 6 * t + 4) < P 105 t) (hk : 16 + 6 * (P 103 4).toNatClampNeg ≤ k) (hk' : k < 40) : m_do P r t x k = r k := by
  obtain ⟨p, n, ep, en, hpn, hn, hi, ht4, hok⟩ := r_at hp hr ht
  rw [ep, en, nI_ltI (by omega) (by omega)] at hs
  unfold m_do
  rw [upd_ne (by omega), upd_ne (by omega), m_val_ne hi (hok hs) ht4 (by omega) (by omega) (by omega) (by omega)]
theorem nxr_ok {I : Nat → Nat → Int32} {n j : Nat} {L r r' : Nat → Int32} {how wh ins : Int32} (hp : p_in I) (hL : ∀ z, z < 3 → vp_in (L z) 31) (ho : k_ok I n how ins) (hj : j ≤ 400) (hr : ro I r j) (h : nxr I n L how wh ins r = some r') : ro I r' (j + 1) ∧ r' 47 = tk I n how wh ins r 47 := by
  obtain ⟨h1, ⟨k, h2, h3⟩, h4⟩ := hr
  have hm := vb hp.1
  obtain ⟨t1, t2, t3⟩ := m_tk_ok (wh := wh) hp h1 h3 (by omega) ho tk_sp
  unfold nxr m_rp at h
  generalize tk I n how wh ins r = s at h t1 t2 t3 ⊢
  rcases t1.2.2.1 with c | c
  · rw [if_pos c] at h
    exact nomatch h
  · obtain ⟨T, hT, eT⟩ := vn c
    have c1 : ¬ s 44 = -1 := by rw [eT]; exact nI_nm (by omega)
    rw [if_neg c1, eT, nI_clamp (by omega)] at h
    by_cases cc : m_can I L s T = true
    · rw [if_pos cc] at h
      cases h
      obtain ⟨g1, g2, g3⟩ := m_can_t cc
      have e47 : m_do I s T (m_ri I how wh ins s T) 47 = s 47 := m_do_k hp t1 hT g1 (by omega) (by omega)
      refine ⟨⟨m_do_ok hp t1 hT g1 (fun c6 => ?_), ?_, fun k hk hk' => ?_⟩, e47⟩
      · obtain ⟨p, l, ep, en, hpn, hn, hi, ht4, hok⟩ := r_at hp t1 hT
        have g1' := g1
        rw [ep, en, nI_ltI (by omega) (by omega)] at g1'
        obtain ⟨o, ho, eo, q1, q2, q3, q4, q5, q6⟩ := hok g1'
        have g2' := g2 c6
        rw [hi] at c6 g2' ⊢
        have o6 : o = 6 := by rw [eo, nI_eq (by omega) (by omega)] at c6; exact c6
        have bz := vb (q5 o6)
        have v1 := hL _ bz
        have v1' := vb v1
        have v2 := t1.2.2.2 _ bz
        have v2' := vb v2
        rw [vc v1, vc v2, nI_ltI (by omega) (by omega)] at g2'
        omega
      · rw [e47]
        rcases t3 with ⟨a, _⟩ | ⟨a, _⟩
        · exact ⟨k, by omega, a⟩
        · exact ⟨k + 1, by omega, a⟩
      · rw [do_z hp t1 hT g1 hk hk', t2 k (by omega) (by omega)]
        exact h4 k hk hk'
    · rw [if_neg cc] at h
      exact nomatch h
theorem nxr_51 {I : Nat → Nat → Int32} {n k : Nat} {L r r' : Nat → Int32} {how wh ins : Int32} (hp : p_in I) (ho : k_ok I n how ins) (hr : r_ok I r) (hk : r 47 = nI k) (hk4 : k ≤ 400) (h : e51 r r') : (nxr I n L how wh ins r = none → nxr I n L how wh ins r' = none) ∧ (∀ x, nxr I n L how wh ins r = some x → ∃ x', nxr I n L how wh ins r' = some x' ∧ e51 x x') := by
  obtain ⟨s', u1, u2⟩ := m_tk_51 hp hr h (tk_sp (I := I) (n := n) (how := how) (wh := wh) (ins := ins))
  have t1 := (m_tk_ok (wh := wh) hp hr hk hk4 ho tk_sp).1
  have := m_rp_51 (L := L) (how := how) (wh := wh) (ins := ins) hp t1 u2
  unfold nxr
  rw [← tk_of u1]
  exact this
/-- the three answers, from a step on: m steps are left, the next is t -/
def same (r s : Nat → Int32) : Prop := ∀ k, k < 45 → r k = s k
section
variable (nx : (Nat → Int32) → Option (Nat → Int32)) (R : Nat → Nat → Int32) (many pt : Nat)
noncomputable def dfr : Nat → Nat → (Nat → Int32) → Int32
  | 0, _, _ => -1
  | m + 1, t, r => match nx r with
    | none => nI t
    | some r' => @ite _ (same r' (R t)) (Classical.propDecidable _) (dfr m (t + 1) r') (nI t)
def stk : Nat → Nat → (Nat → Int32) → Int32
  | 0, _, _ => -1
  | m + 1, t, r => match nx r with
    | none => nI (t - 1)
    | some r' => stk m (t + 1) r'
def dgs : Nat → Nat → (Nat → Int32) → Int32
  | 0, _, _ => -1
  | m + 1, t, r => match nx r with
    | none => -1
    | some r' => if t % pt = 0 ∧ ¬ dg many r' = dg many (R t) then nI (t / pt - 1) else dgs m (t + 1) r'
def run : Nat → (Nat → Int32) → Option (Nat → Int32)
  | 0, r => some r
  | m + 1, r => match nx r with
    | none => none
    | some r' => run m r'
end
section
variable {nx : (Nat → Int32) → Option (Nat → Int32)} {R : Nat → Nat → Int32} {many pt m t : Nat} {r r' : Nat → Int32}
theorem dfr_n (h : nx r = none) : dfr nx R (m + 1) t r = nI t := by
  show (match nx r with | none => nI t | some r' => @ite _ (same r' (R t)) (Classical.propDecidable _) (dfr nx R m (t + 1) r') (nI t)) = _
  rw [h]
theorem dfr_y (h : nx r = some r') (hs : same r' (R t)) : dfr nx R (m + 1) t r = dfr nx R m (t + 1) r' := by
  show (match nx r with | none => nI t | some r' => @ite _ (same r' (R t)) (Classical.propDecidable _) (dfr nx R m (t + 1) r') (nI t)) = _
  rw [h]
  exact if_pos hs
theorem dfr_d (h : nx r = some r') (hs : ¬ same r' (R t)) : dfr nx R (m + 1) t r = nI t := by
  show (match nx r with | none => nI t | some r' => @ite _ (same r' (R t)) (Classical.propDecidable _) (dfr nx R m (t + 1) r') (nI t)) = _
  rw [h]
  exact if_neg hs
theorem stk_n (h : nx r = none) : stk nx (m + 1) t r = nI (t - 1) := by
  show (match nx r with | none => nI (t - 1) | some r' => stk nx m (t + 1) r') = _
  rw [h]
theorem stk_y (h : nx r = some r') : stk nx (m + 1) t r = stk nx m (t + 1) r' := by
  show (match nx r with | none => nI (t - 1) | some r' => stk nx m (t + 1) r') = _
  rw [h]
theorem dgs_n (h : nx r = none) : dgs nx R many pt (m + 1) t r = -1 := by
  show (match nx r with | none => (-1 : Int32) | some r' => if t % pt = 0 ∧ ¬ dg many r' = dg many (R t) then nI (t / pt - 1) else dgs nx R many pt m (t + 1) r') = _
  rw [h]
theorem dgs_y (h : nx r = some r') (hs : ¬ t % pt = 0 ∨ dg many r' = dg many (R t)) : dgs nx R many pt (m + 1) t r = dgs nx R many pt m (t + 1) r' := by
  show (match nx r with | none => (-1 : Int32) | some r' => if t % pt = 0 ∧ ¬ dg many r' = dg many (R t) then nI (t / pt - 1) else dgs nx R many pt m (t + 1) r') = _
  rw [h]
  exact if_neg (fun q => hs.elim (fun z => z q.1) (fun z => q.2 z))
theorem dgs_d (h : nx r = some r') (h0 : t % pt = 0) (hs : ¬ dg many r' = dg many (R t)) : dgs nx R many pt (m + 1) t r = nI (t / pt - 1) := by
  show (match nx r with | none => (-1 : Int32) | some r' => if t % pt = 0 ∧ ¬ dg many r' = dg many (R t) then nI (t / pt - 1) else dgs nx R many pt m (t + 1) r') = _
  rw [h]
  exact if_pos ⟨h0, hs⟩
theorem run_n (h : nx r = none) : run nx (m + 1) r = none := by
  show (match nx r with | none => none | some r' => run nx m r') = _
  rw [h]
theorem run_y (h : nx r = some r') : run nx (m + 1) r = run nx m r' := by
  show (match nx r with | none => none | some r' => run nx m r') = _
  rw [h]
end
/-- steps between two points -/
theorem dgs_run {nx : (Nat → Int32) → Option (Nat → Int32)} {R : Nat → Nat → Int32} {many pt : Nat} : ∀ j m t r, (∀ i, i < j → ¬ (t + i) % pt = 0) → (run nx j r = none → dgs nx R many pt (j + m) t r = -1) ∧ (∀ r', run nx j r = some r' → dgs nx R many pt (j + m) t r = dgs nx R many pt m (t + j) r') := by
  intro j
  induction j with
  | zero =>
    intro m t r _
    refine ⟨fun e => (nomatch e), fun r' e => ?_⟩
    cases e
    rw [Nat.zero_add]
    rfl
  | succ j ih =>
    intro m t r hz
    have h0 : ¬ t % pt = 0 := hz 0 (by omega)
    rw [show j + 1 + m = j + m + 1 by omega]
    cases c : nx r with
    | none =>
      rw [run_n c, dgs_n c]
      exact ⟨fun _ => rfl, fun r' e => nomatch e⟩
    | some x =>
      rw [run_y c, dgs_y c (Or.inl h0)]
      have := ih m (t + 1) x (fun i hi => by rw [show t + 1 + i = t + (i + 1) by omega]; exact hz (i + 1) (by omega))
      rw [show t + 1 + j = t + (j + 1) by omega] at this
      exact this
theorem dgs_0 {nx : (Nat → Int32) → Option (Nat → Int32)} {R : Nat → Nat → Int32} {many pt : Nat} : ∀ m t r, (∀ i, i < m → ¬ (t + i) % pt = 0) → dgs nx R many pt m t r = -1 := by
  intro m t r hz
  obtain ⟨a, b⟩ := dgs_run (nx := nx) (R := R) (many := many) m 0 t r hz
  rw [Nat.add_zero] at a b
  cases c : run nx m r with
  | none => exact a c
  | some r' =>
    rw [b r' c]
    rfl
