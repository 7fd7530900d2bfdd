/-! the ring of those who wait -/
def cz (c : Nat) : Int32 := if c = 4 then -1 else nI c
def rg (w : Nat → Nat) (t : Nat) : Nat → Nat → Nat → Nat
  | 0, _, a => a
  | k + 1, c, a => if c = 4 then a else rg w t k (w c) (if w c = t then a ||| (1 <<< t) else a)
def rgn (w : Nat → Nat) (K : Nat) : Nat → Nat → Nat → Nat
  | 0, _, a => a
  | m + 1, t, a => rgn w K m (t + 1) (rg w t K t a)
def w3 (a b c : Nat) (t : Nat) : Nat := if t = 0 then a else if t = 1 then b else c
theorem bit4 : ∀ a, a < 16 → ∀ t, t < 4 → nI a ||| (nI 1 <<< (nI t &&& 31)) = nI (a ||| (1 <<< t)) ∧ a ||| (1 <<< t) < 16 ∧ nI a ||| nI 0 = nI a := by decide +kernel
theorem ring1 : ∀ a, a < 5 → (a < 1 ∨ a = 4) → rgn (w3 a a a) 1 1 0 0 = rgn (w3 a a a) 4 1 0 0 := by decide +kernel
theorem ring2 : ∀ a, a < 5 → ∀ b, b < 5 → (a < 2 ∨ a = 4) → (b < 2 ∨ b = 4) → rgn (w3 a b b) 2 2 0 0 = rgn (w3 a b b) 4 2 0 0 := by decide +kernel
theorem ring3 : ∀ a, a < 5 → ∀ b, b < 5 → ∀ c, c < 5 → (a = 3 ∨ b = 3 ∨ c = 3) ∨ rgn (w3 a b c) 3 3 0 0 = rgn (w3 a b c) 4 3 0 0 := by decide +kernel
theorem rg_c {w v : Nat → Nat} {n t : Nat} (h : ∀ c, c < n → w c = v c ∧ (w c < n ∨ w c = 4)) : ∀ k c a, (c < n ∨ c = 4) → rg w t k c a = rg v t k c a := by
  intro k
  induction k with
  | zero => intro c a _; rfl
  | succ k ih =>
    intro c a hc
    show (if c = 4 then a else rg w t k (w c) (if w c = t then a ||| (1 <<< t) else a)) = (if c = 4 then a else rg v t k (v c) (if v c = t then a ||| (1 <<< t) else a))
    by_cases c4 : c = 4
    · rw [if_pos c4, if_pos c4]
    · rw [if_neg c4, if_neg c4]
      obtain ⟨e, b⟩ := h c (by omega)
      rw [← e]
      exact ih _ _ b
theorem rgn_c {w v : Nat → Nat} {n K : Nat} (h : ∀ c, c < n → w c = v c ∧ (w c < n ∨ w c = 4)) : ∀ m t a, t + m ≤ n → rgn w K m t a = rgn v K m t a := by
  intro m
  induction m with
  | zero => intro t a _; rfl
  | succ m ih =>
    intro t a ht
    show rgn w K m (t + 1) (rg w t K t a) = rgn v K m (t + 1) (rg v t K t a)
    rw [rg_c h K t a (by omega)]
    exact ih _ _ (by omega)
theorem ring_eq {w : Nat → Nat} {n : Nat} (hn : n ≤ 4) (h : ∀ c, c < n → w c < n ∨ w c = 4) : rgn w n n 0 0 = rgn w 4 n 0 0 := by
  have : n = 0 ∨ n = 1 ∨ n = 2 ∨ n = 3 ∨ n = 4 := by omega
  rcases this with rfl | rfl | rfl | rfl | rfl
  · rfl
  · have e : ∀ c, c < 1 → w c = w3 (w 0) (w 0) (w 0) c ∧ (w c < 1 ∨ w c = 4) := fun c hc => by
      have : c = 0 := by omega
      subst this
      exact ⟨rfl, h 0 (by omega)⟩
    rw [rgn_c e 1 0 0 (by omega), rgn_c e 1 0 0 (by omega)]
    have a := h 0 (by omega)
    exact ring1 _ (by omega) a
  · have e : ∀ c, c < 2 → w c = w3 (w 0) (w 1) (w 1) c ∧ (w c < 2 ∨ w c = 4) := fun c hc => by
      have : c = 0 ∨ c = 1 := by omega
      rcases this with rfl | rfl
      · exact ⟨rfl, h 0 (by omega)⟩
      · exact ⟨rfl, h 1 (by omega)⟩
    rw [rgn_c e 2 0 0 (by omega), rgn_c e 2 0 0 (by omega)]
    have a := h 0 (by omega)
    have b := h 1 (by omega)
    exact ring2 _ (by omega) _ (by omega) a b
  · have e : ∀ c, c < 3 → w c = w3 (w 0) (w 1) (w 2) c ∧ (w c < 3 ∨ w c = 4) := fun c hc => by
      have : c = 0 ∨ c = 1 ∨ c = 2 := by omega
      rcases this with rfl | rfl | rfl
      · exact ⟨rfl, h 0 (by omega)⟩
      · exact ⟨rfl, h 1 (by omega)⟩
      · exact ⟨rfl, h 2 (by omega)⟩
    rw [rgn_c e 3 0 0 (by omega), rgn_c e 3 0 0 (by omega)]
    have a := h 0 (by omega)
    have b := h 1 (by omega)
    have c := h 2 (by omega)
    exact (ring3 _ (by omega) _ (by omega) _ (by omega)).resolve_left (by omega)
  · rfl
theorem rg_lt {w : Nat → Nat} {t : Nat} (ht : t < 4) : ∀ k c a, a < 16 → rg w t k c a < 16 := by
  intro k
  induction k with
  | zero => intro c a h; exact h
  | succ k ih =>
    intro c a h
    show (if c = 4 then a else rg w t k (w c) (if w c = t then a ||| (1 <<< t) else a)) < 16
    by_cases c4 : c = 4
    · rw [if_pos c4]; exact h
    · rw [if_neg c4]
      refine ih _ _ ?_
      split
      · exact (bit4 a h t ht).2.1
      · exact h
/-- whom a thread waits for -/
def wf (P : Nat → Nat → Int32) (r : Nat → Int32) (t : Nat) : Nat := if r (16 + 6 * t + 4) < P 105 t then (if P 106 (m_i r t) = nI 7 then (if r (40 + (P 107 (m_i r t)).toNatClampNeg) = -1 then 4 else (r (40 + (P 107 (m_i r t)).toNatClampNeg)).toNatClampNeg) else 4) else 4
theorem wf_in {P : Nat → Nat → Int32} {r : Nat → Int32} {t : Nat} (hp : p_in P) (hr : r_ok P r) (ht : t < (P 103 4).toNatClampNeg) : wf P r t < (P 103 4).toNatClampNeg ∨ wf P r t = 4 := by
  obtain ⟨p, n, ep, en, hpn, hn, hi, ht4, hok⟩ := r_at hp hr ht
  unfold wf
  by_cases c1 : r (16 + 6 * t + 4) < P 105 t
  · rw [if_pos c1]
    by_cases c2 : P 106 (m_i r t) = nI 7
    · rw [if_pos c2]
      by_cases c3 : r (40 + (P 107 (m_i r t)).toNatClampNeg) = -1
      · rw [if_pos c3]; exact Or.inr rfl
      · rw [if_neg c3]
        rw [ep, en, nI_ltI (by omega) (by omega)] at c1
        obtain ⟨o, ho, eo, q1, q2, _⟩ := hok c1
        rw [hi] at c2 c3 ⊢
        rw [eo, nI_eq (by omega) (by omega)] at c2
        have b := vb (q2 (by omega) (by omega) (by omega))
        rcases hr.2.1 _ b with z | z
        · exact absurd z c3
        · exact Or.inl (vb z)
    · rw [if_neg c2]; exact Or.inr rfl
  · rw [if_neg c1]; exact Or.inr rfl
theorem wf_z {P : Nat → Nat → Int32} {r : Nat → Int32} {l : Nat} (hm : (P 103 4).toNatClampNeg ≤ 4) (h : r (40 + l) = -1 ∨ vp_in (r (40 + l)) (P 103 4).toNatClampNeg) : cz (if r (40 + l) = -1 then 4 else (r (40 + l)).toNatClampNeg) = r (40 + l) := by
  by_cases c : r (40 + l) = -1
  · rw [if_pos c, c]; rfl
  · rw [if_neg c]
    have v := h.resolve_left c
    have b := vb v
    unfold cz
    rw [if_neg (by omega), ← vc v]
theorem c108 {E : am_Ev} {I : Nat → Nat → Int32} {J : Nat → Nat → Int64} {S : Nat → Nat → Option Nat} {Q : am_Qt} {r : Nat → Int32} {t : Nat} (hp : p_in I) (hc : p_cl I) (hr : r_ok I r) (hm : rm I 20 r) (ht : t < (I 103 4).toNatClampNeg) (h : Q (.inl (some (.int (cz (wf I r t))))) E I J S) : am_cl 108 [.ref 20, .ref 12, .int (nI t)] E I J S Q := by
  show am_ww 108 0 [.ref 20, .ref 12, .int (nI t), am_U] [] E I J S Q
  have hmm := vb hp.1
  apply g108_0_20
  obtain ⟨p, n, ep, en, hpn, hn, hi, ht4, hok⟩ := r_at hp hr ht
  have ho := fun q => (p_at hp hc ht en hn (p := p) q).2
  unfold wf at h
  refine c24_20 hp hc hr hm ht (fun c => q_mkI ?_) (fun c => q_mkI ?_)
  · rw [if_pos c] at h
    rw [ep, en, nI_ltI (by omega) (by omega)] at c
    obtain ⟨o, h1, h2, h3, h4, h5, h6, h7, h8⟩ := ho c
    obtain ⟨o', h1', h2', q1, q2, q3, q4, q5, q6⟩ := hok c
    have e : o' = o := by rw [h2, nI_eq (by omega) (by omega)] at h2'; exact h2'.symm
    subst e
    rw [hi] at h ⊢
    refine ⟨fun q => absurd q (nI_nm (by omega)), fun _ => ⟨vp_in_nI (by omega) (by omega), ?_⟩⟩
    rw [nI_clamp (by omega), h3, nI_eq (by omega) (by omega), nI_mulI, nI_add, nI_clamp (by omega)]
    refine ⟨fun c7 => ⟨vp_in_nI (by omega) (by omega), fun w4 e4 => ?_⟩, fun c7 => ?_⟩
    · have o7 : o' = 7 := by omega
      rw [h4 (by omega) (by omega)] at e4
      subst e4
      have v := q2 (by omega) (by omega) (by omega)
      refine ⟨v, ?_⟩
      rw [if_pos (by rw [h2, o7]), wf_z (by omega) (hr.2.1 _ (vb v))] at h
      rw [hm.2.2.2.2.1 _ (vb v)]
      exact h
    · rw [if_neg (by rw [h2, nI_eq (by omega) (by omega)]; omega)] at h
      exact h
  · rw [if_neg c] at h
    exact ⟨fun _ => h, fun q => absurd rfl q⟩
theorem c107 {E : am_Ev} {I : Nat → Nat → Int32} {J : Nat → Nat → Int64} {S : Nat → Nat → Option Nat} {Q : am_Qt} {r : Nat → Int32} (hp : p_in I) (hc : p_cl I) (hr : r_ok I r) (hm : rm I 20 r) (h : Q (.inl (some (.int (nI (rgn (wf I r) (I 103 4).toNatClampNeg (I 103 4).toNatClampNeg 0 0))))) E I J S) : am_cl 107 [.ref 20, .ref 12] E I J S Q := by
  show am_ww 107 0 [.ref 20, .ref 12, am_U, am_U, am_U, am_U] [] E I J S Q
  have hmm := vb hp.1
  have e3 : I 12 5 = nI (I 103 4).toNatClampNeg := hc.1.trans (vc hp.1)
  apply g107_0_20
  have inner : ∀ t, t < (I 103 4).toNatClampNeg → ∀ k i c a, i + k = (I 103 4).toNatClampNeg → (c < (I 103 4).toNatClampNeg ∨ c = 4) → a < 16 → (∀ v4 v5 : Int32, am_ww 107 4 [.ref 20, .ref 12, .int (nI (rg (wf I r) t k c a)), .int (nI (t + 1)), .int v4, .int v5] [] E I J S Q) → am_ww 107 12 [.ref 20, .ref 12, .int (nI a), .int (nI t), .int (cz c), .int (nI i)] [] E I J S Q := by
    intro t ht k
    induction k with
    | zero =>
      intro i c a ei hcc ha h
      apply g107_12_20
      rw [e3, nI_leI (by omega) (by omega), nI_add]
      exact ⟨fun _ => h _ _, fun q => absurd (by omega) q⟩
    | succ k ih =>
      intro i c a ei hcc ha h
      apply g107_12_20
      rw [e3, nI_leI (by omega) (by omega), nI_add]
      refine ⟨fun q => absurd q (by omega), fun _ => ?_⟩
      have h' : ∀ v4 v5 : Int32, am_ww 107 4 [.ref 20, .ref 12, .int (nI (if c = 4 then a else rg (wf I r) t k (wf I r c) (if wf I r c = t then a ||| (1 <<< t) else a))), .int (nI (t + 1)), .int v4, .int v5] [] E I J S Q := h
      by_cases c4 : c = 4
      · have ec : cz c = -1 := if_pos c4
        rw [if_pos c4] at h'
        exact ⟨fun _ => h' _ _, fun q => absurd ec q⟩
      · have ec : cz c = nI c := if_neg c4
        rw [ec]
        rw [if_neg c4] at h'
        refine ⟨fun q => absurd q (nI_nm (by omega)), fun _ => ?_⟩
        refine c108 hp hc hr hm (by omega) (q_mkI (fun w3 ew => ?_))
        have win := wf_in (t := c) hp hr (by omega)
        have bt := bit4 a ha t (by omega)
        rw [nI_add]
        have eqv : (cz (wf I r c) = nI t) = (wf I r c = t) := by
          unfold cz
          by_cases w4 : wf I r c = 4
          · rw [if_pos w4, w4]
            exact propext ⟨fun q => absurd q.symm (nI_nm (by omega)), fun q => absurd q (by omega)⟩
          · rw [if_neg w4, nI_eq (by omega) (by omega)]
        by_cases cw : wf I r c = t
        · rw [if_pos (eqv.mpr cw), bt.1] at ew
          subst ew
          rw [if_pos cw] at h'
          exact ih (i + 1) _ _ (by omega) win bt.2.1 h'
        · rw [if_neg (fun q => cw (eqv.mp q))] at ew
          subst ew
          rw [if_neg cw] at h'
          exact ih (i + 1) _ _ (by omega) win ha h'
  have outer : ∀ m t a (v4 v5 : Value), am_isL v4 = false → am_isL v5 = false → t + m = (I 103 4).toNatClampNeg → a < 16 → Q (.inl (some (.int (nI (rgn (wf I r) (I 103 4).toNatClampNeg m t a))))) E I J S → am_ww 107 4 [.ref 20, .ref 12, .int (nI a), .int (nI t), v4, v5] [] E I J S Q := by
    intro m
    induction m with
    | zero =>
      intro t a v4 v5 hv4 hv5 et ha h
      apply g107_4_20 hv4 hv5
      rw [e3, nI_leI (by omega) (by omega)]
      exact ⟨fun _ => h, fun q => absurd (by omega) q⟩
    | succ m ih =>
      intro t a v4 v5 hv4 hv5 et ha h
      apply g107_4_20 hv4 hv5
      rw [e3, nI_leI (by omega) (by omega)]
      refine ⟨fun q => absurd q (by omega), fun _ => ?_⟩
      have ec : cz t = nI t := if_neg (by omega)
      rw [show am_ww 107 12 [.ref 20, .ref 12, .int (nI a), .int (nI t), .int (nI t), .int (nI 0)] [] E I J S Q = am_ww 107 12 [.ref 20, .ref 12, .int (nI a), .int (nI t), .int (cz t), .int (nI 0)] [] E I J S Q by rw [ec]]
      exact inner t (by omega) _ 0 t a (Nat.zero_add _) (by omega) ha (fun v4 v5 => ih (t + 1) _ _ _ rfl rfl (by omega) (rg_lt (by omega) _ _ _ ha) h)
  exact outer _ 0 0 _ _ rfl rfl (Nat.zero_add _) (by omega) h
theorem m229 {E : am_Ev} {I : Nat → Nat → Int32} {J : Nat → Nat → Int64} {S : Nat → Nat → Option Nat} {Q : am_Qt} (hp : p_in I) (hr : r_ok I (I 116)) (h : Q (.inl (some (.int (nI (rgn (wf I (I 116)) 4 (I 103 4).toNatClampNeg 0 0))))) E I J S) : am_cl 229 [.ref 99] E I J S Q := by
  show am_ww 229 0 [.ref 99, am_U, am_U, am_U, am_U] [] E I J S Q
  have hmm := vb hp.1
  have e3 : I 103 4 = nI (I 103 4).toNatClampNeg := vc hp.1
  apply g229_0
  have inner : ∀ t, t < (I 103 4).toNatClampNeg → ∀ k i c a, i + k = 4 → (c < (I 103 4).toNatClampNeg ∨ c = 4) → a < 16 → (∀ v4 v5 : Int32, am_ww 229 4 [.ref 99, .int (nI (rg (wf I (I 116)) t k c a)), .int (nI (t + 1)), .int v4, .int v5] [] E I J S Q) → am_ww 229 14 [.ref 99, .int (nI a), .int (nI t), .int (cz c), .int (nI i)] [] E I J S Q := by
    intro t ht k
    induction k with
    | zero =>
      intro i c a ei hcc ha h
      apply g229_14
      rw [nI_leI (by omega) (by omega), nI_add]
      exact ⟨fun _ => h _ _, fun q => absurd (by omega) q⟩
    | succ k ih =>
      intro i c a ei hcc ha h
      apply g229_14
      rw [nI_leI (by omega) (by omega), nI_add]
      refine ⟨fun q => absurd q (by omega), fun _ => ?_⟩
      have h' : ∀ v4 v5 : Int32, am_ww 229 4 [.ref 99, .int (nI (if c = 4 then a else rg (wf I (I 116)) t k (wf I (I 116) c) (if wf I (I 116) c = t then a ||| (1 <<< t) else a))), .int (nI (t + 1)), .int v4, .int v5] [] E I J S Q := h
      by_cases c4 : c = 4
      · have ec : cz c = -1 := if_pos c4
        rw [if_pos c4] at h'
        exact ⟨fun _ => h' _ _, fun q => absurd ec q⟩
      · have ec : cz c = nI c := if_neg c4
        rw [ec]
        rw [if_neg c4] at h'
        have hcm : c < (I 103 4).toNatClampNeg := by omega
        obtain ⟨p, n, ep, en, hpn, hn, hi, ht4, hok⟩ := r_at hp hr hcm
        have win := wf_in (t := c) hp hr hcm
        have bt := bit4 a ha t (by omega)
        have eqv : (cz (wf I (I 116) c) = nI t) = (wf I (I 116) c = t) := by
          unfold cz
          by_cases w4 : wf I (I 116) c = 4
          · rw [if_pos w4, w4]
            exact propext ⟨fun q => absurd q.symm (nI_nm (by omega)), fun q => absurd q (by omega)⟩
          · rw [if_neg w4, nI_eq (by omega) (by omega)]
        -- one wait
        have nx : ∀ w9 w11 : Int32, w9 = cz (wf I (I 116) c) → w11 = (if w9 = nI t then (nI 1 <<< (nI t &&& 31)) else nI 0) → am_ww 229 14 [.ref 99, .int (nI a ||| w11), .int (nI t), .int w9, .int (nI (i + 1))] [] E I J S Q := by
          intro w9 w11 e9 e11
          subst e9
          by_cases cw : wf I (I 116) c = t
          · rw [if_pos (eqv.mpr cw)] at e11
            rw [if_pos cw] at h'
            rw [e11, bt.1]
            exact ih (i + 1) _ _ (by omega) win bt.2.1 h'
          · rw [if_neg (fun q => cw (eqv.mp q))] at e11
            rw [if_neg cw] at h'
            rw [e11, bt.2.2]
            exact ih (i + 1) _ _ (by omega) win ha h'
        refine ⟨fun q => absurd q (nI_nm (by omega)), fun _ w1 e1 => ?_⟩
        rw [nI_mulI, nI_add, nI_add] at e1
        subst e1
        refine ⟨vp_in_nI (by omega) (by omega), vp_in_nI (by omega) (by omega), ?_⟩
        rw [nI_clamp (by omega), nI_clamp (by omega)]
        refine ⟨fun cl => ?_, fun cl => ?_⟩
        · intro w4 e4
          rw [nI_mulI, nI_add, nI_add] at e4
          subst e4
          refine ⟨vp_in_nI (by omega) (by omega), fun w6 e6 => ?_⟩
          rw [nI_clamp (by omega), ep, nI_mulI, nI_add] at e6
          subst e6
          have cl' := cl
          rw [ep, en, nI_ltI (by omega) (by omega)] at cl'
          obtain ⟨o, ho, eo, q1, q2, _⟩ := hok cl'
          refine ⟨vp_in_nI (by omega) (by omega), ?_⟩
          rw [nI_clamp (by omega)]
          refine ⟨⟨fun c7 => ?_, fun _ => trivial⟩, fun w9 e9 w11 e11 => ?_⟩
          · rw [eo, nI_eq (by omega) (by omega)] at c7
            have v := q2 (by omega) (by omega) (by omega)
            have b := vb v
            rw [vc v, nI_add]
            exact ⟨vp_in_nI (by omega) (by omega), trivial⟩
          · rw [nI_add]
            refine nx w9 w11 ?_ e11
            rw [e9]
            unfold wf
            rw [if_pos cl, hi]
            by_cases c7 : I 106 (16 * c + p) = nI 7
            · rw [if_pos c7, if_pos c7]
              rw [eo, nI_eq (by omega) (by omega)] at c7
              have v := q2 (by omega) (by omega) (by omega)
              have b := vb v
              rw [wf_z (by omega) (hr.2.1 _ b), vc v, nI_add, nI_clamp (by omega), nI_clamp (by omega)]
            · rw [if_neg c7, if_neg c7]
              rfl
        · intro w13 e13
          rw [nI_add]
          refine nx (-1) w13 ?_ e13
          unfold wf
          rw [if_neg cl]
          rfl
  have outer : ∀ m t a (v4 v5 : Value), am_isL v4 = false → am_isL v5 = false → t + m = (I 103 4).toNatClampNeg → a < 16 → Q (.inl (some (.int (nI (rgn (wf I (I 116)) 4 m t a))))) E I J S → am_ww 229 4 [.ref 99, .int (nI a), .int (nI t), v4, v5] [] E I J S Q := by
    intro m
    induction m with
    | zero =>
      intro t a v4 v5 hv4 hv5 et ha h
      apply g229_4 hv4 hv5
      rw [e3, nI_leI (by omega) (by omega)]
      exact ⟨fun _ => h, fun q => absurd (by omega) q⟩
    | succ m ih =>
      intro t a v4 v5 hv4 hv5 et ha h
      apply g229_4 hv4 hv5
      rw [e3, nI_leI (by omega) (by omega)]
      refine ⟨fun q => absurd q (by omega), fun _ => ?_⟩
      have ec : cz t = nI t := if_neg (by omega)
      rw [show am_ww 229 14 [.ref 99, .int (nI a), .int (nI t), .int (nI t), .int (nI 0)] [] E I J S Q = am_ww 229 14 [.ref 99, .int (nI a), .int (nI t), .int (cz t), .int (nI 0)] [] E I J S Q by rw [ec]]
      exact inner t (by omega) 4 0 t a (by omega) (by omega) ha (fun v4 v5 => ih (t + 1) _ _ _ rfl rfl (by omega) (rg_lt (by omega) _ _ _ ha) h)
  exact outer _ 0 0 _ _ rfl rfl (Nat.zero_add _) (by omega) h
