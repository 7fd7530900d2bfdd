/-! a record that is altered: the class -/
theorem c172_64 {E : am_Ev} {I : Nat → Nat → Int32} {J : Nat → Nat → Int64} {S : Nat → Nat → Option Nat} {Q : am_Qt} {m : Nat} (hm : m ≤ 4) (h1 : (∀ j, j < m → I 64 j = I 72 j) → Q (.inl (some (.int (nI 1)))) E I J S) (h0 : ¬ (∀ j, j < m → I 64 j = I 72 j) → Q (.inl (some (.int (nI 0)))) E I J S) : am_cl 172 [.ref 64, .ref 72, .int (nI m)] E I J S Q := by
  show am_ww 172 0 [.ref 64, .ref 72, .int (nI m), am_U, am_U] [] E I J S Q
  apply g172_0_64
  intro w1 e1
  rw [if_neg (by rw [nI_ltI (by omega) (by omega)]; omega)] at e1
  subst e1
  have l : ∀ k i, i + k = m → (∀ j, j < i → I 64 j = I 72 j) → am_ww 172 10 [.ref 64, .ref 72, .int (nI m), .int (nI m), .int (nI i)] [] E I J S Q := by
    intro k
    induction k with
    | zero =>
      intro i ei hi
      apply g172_10_64 rfl
      rw [nI_leI (by omega) (by omega)]
      exact ⟨fun _ => h1 (fun j hj => hi j (by omega)), fun z => absurd (by omega) z⟩
    | succ k ih =>
      intro i ei hi
      apply g172_10_64 rfl
      rw [nI_leI (by omega) (by omega), nI_clamp (by omega), nI_add]
      refine ⟨fun z => absurd z (by omega), fun _ => ⟨vp_in_nI (by omega) (by omega), fun c => ih (i + 1) (by omega) (fun j hj => ?_), fun c => h0 (fun z => c (z i (by omega)))⟩⟩
      by_cases cj : j = i
      · rw [cj]; exact c
      · exact hi j (by omega)
  exact l m 0 (by omega) (fun j hj => absurd hj (by omega))
theorem c172_65 {E : am_Ev} {I : Nat → Nat → Int32} {J : Nat → Nat → Int64} {S : Nat → Nat → Option Nat} {Q : am_Qt} {m : Nat} (hm : m ≤ 4) (h1 : (∀ j, j < m → I 65 j = I 73 j) → Q (.inl (some (.int (nI 1)))) E I J S) (h0 : ¬ (∀ j, j < m → I 65 j = I 73 j) → Q (.inl (some (.int (nI 0)))) E I J S) : am_cl 172 [.ref 65, .ref 73, .int (nI m)] E I J S Q := by
  show am_ww 172 0 [.ref 65, .ref 73, .int (nI m), am_U, am_U] [] E I J S Q
  apply g172_0_65
  intro w1 e1
  rw [if_neg (by rw [nI_ltI (by omega) (by omega)]; omega)] at e1
  subst e1
  have l : ∀ k i, i + k = m → (∀ j, j < i → I 65 j = I 73 j) → am_ww 172 10 [.ref 65, .ref 73, .int (nI m), .int (nI m), .int (nI i)] [] E I J S Q := by
    intro k
    induction k with
    | zero =>
      intro i ei hi
      apply g172_10_65 rfl
      rw [nI_leI (by omega) (by omega)]
      exact ⟨fun _ => h1 (fun j hj => hi j (by omega)), fun z => absurd (by omega) z⟩
    | succ k ih =>
      intro i ei hi
      apply g172_10_65 rfl
      rw [nI_leI (by omega) (by omega), nI_clamp (by omega), nI_add]
      refine ⟨fun z => absurd z (by omega), fun _ => ⟨vp_in_nI (by omega) (by omega), fun c => ih (i + 1) (by omega) (fun j hj => ?_), fun c => h0 (fun z => c (z i (by omega)))⟩⟩
      by_cases cj : j = i
      · rw [cj]; exact c
      · exact hi j (by omega)
  exact l m 0 (by omega) (fun j hj => absurd hj (by omega))
theorem c172_63 {E : am_Ev} {I : Nat → Nat → Int32} {J : Nat → Nat → Int64} {S : Nat → Nat → Option Nat} {Q : am_Qt} {m : Nat} (hm : m ≤ 16) (h1 : (∀ j, j < m → I 63 j = I 71 j) → Q (.inl (some (.int (nI 1)))) E I J S) (h0 : ¬ (∀ j, j < m → I 63 j = I 71 j) → Q (.inl (some (.int (nI 0)))) E I J S) : am_cl 172 [.ref 63, .ref 71, .int (nI m)] E I J S Q := by
  show am_ww 172 0 [.ref 63, .ref 71, .int (nI m), am_U, am_U] [] E I J S Q
  apply g172_0_63
  intro w1 e1
  rw [if_neg (by rw [nI_ltI (by omega) (by omega)]; omega)] at e1
  subst e1
  have l : ∀ k i, i + k = m → (∀ j, j < i → I 63 j = I 71 j) → am_ww 172 10 [.ref 63, .ref 71, .int (nI m), .int (nI m), .int (nI i)] [] E I J S Q := by
    intro k
    induction k with
    | zero =>
      intro i ei hi
      apply g172_10_63 rfl
      rw [nI_leI (by omega) (by omega)]
      exact ⟨fun _ => h1 (fun j hj => hi j (by omega)), fun z => absurd (by omega) z⟩
    | succ k ih =>
      intro i ei hi
      apply g172_10_63 rfl
      rw [nI_leI (by omega) (by omega), nI_clamp (by omega), nI_add]
      refine ⟨fun z => absurd z (by omega), fun _ => ⟨vp_in_nI (by omega) (by omega), fun c => ih (i + 1) (by omega) (fun j hj => ?_), fun c => h0 (fun z => c (z i (by omega)))⟩⟩
      by_cases cj : j = i
      · rw [cj]; exact c
      · exact hi j (by omega)
  exact l m 0 (by omega) (fun j hj => absurd hj (by omega))
theorem c172_66 {E : am_Ev} {I : Nat → Nat → Int32} {J : Nat → Nat → Int64} {S : Nat → Nat → Option Nat} {Q : am_Qt} {m : Nat} (hm : m ≤ 4) (h1 : (∀ j, j < m → I 66 j = I 74 j) → Q (.inl (some (.int (nI 1)))) E I J S) (h0 : ¬ (∀ j, j < m → I 66 j = I 74 j) → Q (.inl (some (.int (nI 0)))) E I J S) : am_cl 172 [.ref 66, .ref 74, .int (nI m)] E I J S Q := by
  show am_ww 172 0 [.ref 66, .ref 74, .int (nI m), am_U, am_U] [] E I J S Q
  apply g172_0_66
  intro w1 e1
  rw [if_neg (by rw [nI_ltI (by omega) (by omega)]; omega)] at e1
  subst e1
  have l : ∀ k i, i + k = m → (∀ j, j < i → I 66 j = I 74 j) → am_ww 172 10 [.ref 66, .ref 74, .int (nI m), .int (nI m), .int (nI i)] [] E I J S Q := by
    intro k
    induction k with
    | zero =>
      intro i ei hi
      apply g172_10_66 rfl
      rw [nI_leI (by omega) (by omega)]
      exact ⟨fun _ => h1 (fun j hj => hi j (by omega)), fun z => absurd (by omega) z⟩
    | succ k ih =>
      intro i ei hi
      apply g172_10_66 rfl
      rw [nI_leI (by omega) (by omega), nI_clamp (by omega), nI_add]
      refine ⟨fun z => absurd z (by omega), fun _ => ⟨vp_in_nI (by omega) (by omega), fun c => ih (i + 1) (by omega) (fun j hj => ?_), fun c => h0 (fun z => c (z i (by omega)))⟩⟩
      by_cases cj : j = i
      · rw [cj]; exact c
      · exact hi j (by omega)
  exact l m 0 (by omega) (fun j hj => absurd hj (by omega))
theorem c172_62 {E : am_Ev} {I : Nat → Nat → Int32} {J : Nat → Nat → Int64} {S : Nat → Nat → Option Nat} {Q : am_Qt} {m : Nat} (hm : m ≤ 16) (h1 : (∀ j, j < m → I 62 j = I 70 j) → Q (.inl (some (.int (nI 1)))) E I J S) (h0 : ¬ (∀ j, j < m → I 62 j = I 70 j) → Q (.inl (some (.int (nI 0)))) E I J S) : am_cl 172 [.ref 62, .ref 70, .int (nI m)] E I J S Q := by
  show am_ww 172 0 [.ref 62, .ref 70, .int (nI m), am_U, am_U] [] E I J S Q
  apply g172_0_62
  intro w1 e1
  rw [if_neg (by rw [nI_ltI (by omega) (by omega)]; omega)] at e1
  subst e1
  have l : ∀ k i, i + k = m → (∀ j, j < i → I 62 j = I 70 j) → am_ww 172 10 [.ref 62, .ref 70, .int (nI m), .int (nI m), .int (nI i)] [] E I J S Q := by
    intro k
    induction k with
    | zero =>
      intro i ei hi
      apply g172_10_62 rfl
      rw [nI_leI (by omega) (by omega)]
      exact ⟨fun _ => h1 (fun j hj => hi j (by omega)), fun z => absurd (by omega) z⟩
    | succ k ih =>
      intro i ei hi
      apply g172_10_62 rfl
      rw [nI_leI (by omega) (by omega), nI_clamp (by omega), nI_add]
      refine ⟨fun z => absurd z (by omega), fun _ => ⟨vp_in_nI (by omega) (by omega), fun c => ih (i + 1) (by omega) (fun j hj => ?_), fun c => h0 (fun z => c (z i (by omega)))⟩⟩
      by_cases cj : j = i
      · rw [cj]; exact c
      · exact hi j (by omega)
  exact l m 0 (by omega) (fun j hj => absurd hj (by omega))
theorem c172_70 {E : am_Ev} {I : Nat → Nat → Int32} {J : Nat → Nat → Int64} {S : Nat → Nat → Option Nat} {Q : am_Qt} {m : Nat} (hm : m ≤ 16) (h1 : (∀ j, j < m → I 70 j = I 21 j) → Q (.inl (some (.int (nI 1)))) E I J S) (h0 : ¬ (∀ j, j < m → I 70 j = I 21 j) → Q (.inl (some (.int (nI 0)))) E I J S) : am_cl 172 [.ref 70, .ref 21, .int (nI m)] E I J S Q := by
  show am_ww 172 0 [.ref 70, .ref 21, .int (nI m), am_U, am_U] [] E I J S Q
  apply g172_0_70
  intro w1 e1
  rw [if_neg (by rw [nI_ltI (by omega) (by omega)]; omega)] at e1
  subst e1
  have l : ∀ k i, i + k = m → (∀ j, j < i → I 70 j = I 21 j) → am_ww 172 10 [.ref 70, .ref 21, .int (nI m), .int (nI m), .int (nI i)] [] E I J S Q := by
    intro k
    induction k with
    | zero =>
      intro i ei hi
      apply g172_10_70 rfl
      rw [nI_leI (by omega) (by omega)]
      exact ⟨fun _ => h1 (fun j hj => hi j (by omega)), fun z => absurd (by omega) z⟩
    | succ k ih =>
      intro i ei hi
      apply g172_10_70 rfl
      rw [nI_leI (by omega) (by omega), nI_clamp (by omega), nI_add]
      refine ⟨fun z => absurd z (by omega), fun _ => ⟨vp_in_nI (by omega) (by omega), fun c => ih (i + 1) (by omega) (fun j hj => ?_), fun c => h0 (fun z => c (z i (by omega)))⟩⟩
      by_cases cj : j = i
      · rw [cj]; exact c
      · exact hi j (by omega)
  exact l m 0 (by omega) (fun j hj => absurd hj (by omega))
theorem c171 {E : am_Ev} {I : Nat → Nat → Int32} {J : Nat → Nat → Int64} {S : Nat → Nat → Option Nat} {Q : am_Qt} {r s : Nat → Int32} (hp : p_in I) (hr : rm I 61 r) (hs : rm I 69 s) (zr : z0 I r) (zs : z0 I s) (h1 : same r s → Q (.inl (some (.int (nI 1)))) E I J S) (h0 : ¬ same r s → Q (.inl (some (.int (nI 0)))) E I J S) : am_cl 171 [.ref 61, .ref 69, .int (nI (I 103 4).toNatClampNeg)] E I J S Q := by
  show am_ww 171 0 [.ref 61, .ref 69, .int (nI (I 103 4).toNatClampNeg)] [] E I J S Q
  have hm := vb hp.1
  obtain ⟨r1, r2, r3, r4, r5, r6, r7⟩ := hr
  obtain ⟨s1, s2, s3, s4, s5, s6, s7⟩ := hs
  apply g171_0
  rw [r6, s6]
  refine ⟨fun c1 => ?_, fun c => h0 (fun z => c (z 44 (by omega)))⟩
  refine c172_64 (by omega) (fun c2 => q_mkI ⟨fun z => absurd z (by decide), fun _ => ?_⟩) (fun c => q_mkI ⟨fun _ => h0 (fun z => c (fun j hj => ?_)), fun z => absurd nI_0 z⟩)
  · refine c172_65 (by omega) (fun c3 => q_mkI ⟨fun z => absurd z (by decide), fun _ => ?_⟩) (fun c => q_mkI ⟨fun _ => h0 (fun z => c (fun j hj => ?_)), fun z => absurd nI_0 z⟩)
    · rw [nI_mulI]
      refine c172_63 (by omega) (fun c4 => q_mkI ⟨fun z => absurd z (by decide), fun _ => ?_⟩) (fun c => q_mkI ⟨fun _ => h0 (fun z => c (fun j hj => ?_)), fun z => absurd nI_0 z⟩)
      · refine c172_66 (by omega) (fun c5 => q_mkI ⟨fun z => absurd z (by decide), fun _ => ?_⟩) (fun c => q_mkI ⟨fun _ => h0 (fun z => c (fun j hj => ?_)), fun z => absurd nI_0 z⟩)
        · refine c172_62 (by omega) (fun c6 => q_mkI ⟨fun z => absurd z (by decide), fun _ => h1 (fun k hk => ?_)⟩) (fun c => q_mkI ⟨fun _ => h0 (fun z => c (fun j hj => ?_)), fun z => absurd nI_0 z⟩)
          · by_cases k1 : k < 16
            · have := c6 k k1
              rw [r1 k k1, s1 k k1] at this
              exact this
            by_cases k2 : k = 44
            · rw [k2]; exact c1
            by_cases k3 : 40 ≤ k
            · have := c5 (k - 40) (by omega)
              rw [r5 _ (by omega), s5 _ (by omega), show 40 + (k - 40) = k by omega] at this
              exact this
            by_cases k4 : 16 + 6 * (I 103 4).toNatClampNeg ≤ k
            · rw [zr k k4 (by omega), zs k k4 (by omega)]
            obtain ⟨t, j, ht, hj, e⟩ : ∃ t j, t < (I 103 4).toNatClampNeg ∧ j < 6 ∧ k = 16 + 6 * t + j := ⟨(k - 16) / 6, (k - 16) % 6, by omega, by omega, by omega⟩
            subst e
            by_cases j4 : j < 4
            · have := c4 (t * 4 + j) (by omega)
              rw [r2 t j (by omega) j4, s2 t j (by omega) j4] at this
              exact this
            by_cases j5 : j = 4
            · subst j5
              have := c2 t (by omega)
              rw [r3 t (by omega), s3 t (by omega)] at this
              exact this
            · have j6 : j = 5 := by omega
              subst j6
              have := c3 t (by omega)
              rw [r4 t (by omega), s4 t (by omega)] at this
              exact this
          · rw [r1 j hj, s1 j hj, z j (by omega)]
        · rw [r5 j hj, s5 j hj, z _ (by omega)]
      · have e := r2 (j / 4) (j % 4) (by omega) (by omega)
        have e' := s2 (j / 4) (j % 4) (by omega) (by omega)
        rw [show j / 4 * 4 + j % 4 = j by omega] at e e'
        rw [e, e', z _ (by omega)]
    · rw [r4 j (by omega), s4 j (by omega), z _ (by omega)]
  · rw [r3 j (by omega), s3 j (by omega), z _ (by omega)]
/-- the altered replay stands at row r, j steps done -/
def ax (I I1 : Nat → Nat → Int32) (how wh ins : Int32) (r : Nat → Int32) (j : Nat) : Prop := fb I I1 60 75 ∧ rm I1 69 r ∧ (I1 68 1 = nI j ∧ I1 68 2 = r 47 ∧ I1 68 3 = nI 0 ∧ I1 68 4 = how ∧ I1 68 5 = wh ∧ I1 68 6 = ins) ∧ ro I r j
theorem h_eq_fb' {I I' : Nat → Nat → Int32} {a c : Nat} (h : fb I I' a c) (hc : c < 103) : h_eq I I' := ⟨fun k x y => h k (by omega), h 117 (by omega), h 120 (by omega), h 121 (by omega), h 122 (by omega), h 123 (by omega)⟩
theorem c47a {E : am_Ev} {J : Nat → Nat → Int64} {S : Nat → Nat → Option Nat} {Q : am_Qt} {I I1 : Nat → Nat → Int32} {T n j : Nat} {how wh ins : Int32} {r : Nat → Int32} (hv : vr0 I T n) (ho : k_ok I n how ins) (hj : j ≤ 400) (ha : ax I I1 how wh ins r j)
    (h0 : nxr I n (lm I T) how wh ins r = none → ∀ I', I' 68 3 = nI 1 → I' 68 1 = nI j → fb I1 I' 68 75 → Q (.inl (some (.int (nI 0)))) E I' J S)
    (h1 : ∀ r' I', nxr I n (lm I T) how wh ins r = some r' → ax I I' how wh ins r' (j + 1) → fb I1 I' 68 75 → Q (.inl (some (.int (nI 1)))) E I' J S) : am_cl 47 [.ref 68, .ref 12, .ref 18] E I1 J S Q := by
  obtain ⟨f1, m1, ⟨e1, e2, e3, e4, e5, e6⟩, hr⟩ := ha
  obtain ⟨r1, ⟨k, r2, r3⟩, r4⟩ := id hr
  have hv1 := vr0_fb hv f1 (by omega) (by omega)
  have hh := h_eq_fb' f1 (by omega)
  have el : lm I1 T = lm I T := by funext z; unfold lm; rw [rt_e hh.2.1]
  obtain ⟨v1, v2, v3, v4, v5⟩ := hv1
  have ho1 : k_ok I1 n (I1 68 4) (I1 68 6) := by
    rw [e4, e6]
    obtain ⟨o1, o2, o3⟩ := ho
    refine ⟨o1, fun i hi => ?_, fun q => ?_⟩
    · rw [f1 122 (by omega), f1 103 (by omega)]; exact o2 i hi
    · rw [f1 103 (by omega)]; exact o3 q
  have hL : ∀ z, z < 3 → vp_in (lm I T z) 31 := fun z hz => (hv.2.2.2.2 z hz).2.1
  refine c47_68 v1 v2 ((r_ok_e hh.1).mpr r1) m1 r3 (by omega) e2 (e3.trans nI_0) v4 ho1 v5 (fun s I2 t1 t2 q3 q1 f2 => ?_) (fun s r' I2 t1 t2 m2 q f2 => ?_)
  · rw [e4, e5, e6] at t1 t2
    rw [m_tk_e hh] at t1
    rw [m_rp_e hh.1 hh.2.2.2.2.2, el, tk_of t1] at t2
    exact h0 t2 I2 q3 (by rw [q1]; exact e1) f2
  · rw [e4, e5, e6] at t1 t2
    rw [m_tk_e hh] at t1
    rw [m_rp_e hh.1 hh.2.2.2.2.2, el] at t2
    have es := tk_of t1
    rw [es] at t2
    have ok := nxr_ok hv.1 hL ho hj hr t2
    refine h1 r' I2 t2 ⟨fb_tr f1 (fb_le f2 (by omega) (by omega)), m2, ⟨?_, ?_, ?_, ?_, ?_, ?_⟩, ok.1⟩ f2
    · rw [q, upd_eq, e1, nI_add]
    · rw [q, upd_ne (by omega), upd_eq, ok.2, es]
    · rw [q, upd_ne (by omega), upd_ne (by omega)]; exact e3
    · rw [q, upd_ne (by omega), upd_ne (by omega)]; exact e4
    · rw [q, upd_ne (by omega), upd_ne (by omega)]; exact e5
    · rw [q, upd_ne (by omega), upd_ne (by omega)]; exact e6
theorem c46a {E : am_Ev} {J : Nat → Nat → Int64} {S : Nat → Nat → Option Nat} {Q : am_Qt} {I : Nat → Nat → Int32} {T n e : Nat} {how wh ins : Int32} (hv : vr0 I T n) (ho : k_ok I n how ins) (he : e ≤ 400) : ∀ m j r (I1 : Nat → Nat → Int32), j + m = e → ax I I1 how wh ins r j → (∀ I' k, k < e → stk (nxr I n (lm I T) how wh ins) m (j + 1) r = nI k → run (nxr I n (lm I T) how wh ins) m r = none → I' 68 3 = nI 1 → I' 68 1 = nI k → fb I1 I' 68 75 → Q (.inl none) E I' J S) → (∀ I' r', run (nxr I n (lm I T) how wh ins) m r = some r' → stk (nxr I n (lm I T) how wh ins) m (j + 1) r = -1 → ax I I' how wh ins r' e → fb I1 I' 68 75 → Q (.inl none) E I' J S) → am_ww 46 3 [.ref 68, .int (nI e), .ref 12, .ref 18, .int (nI j)] [] E I1 J S Q := by
  intro m
  induction m with
  | zero =>
    intro j r I1 ej ha h0 h1
    apply g46_3_68
    rw [nI_leI (by omega) (by omega)]
    have : j = e := by omega
    subst this
    exact ⟨fun _ => h1 I1 r rfl rfl ha fb_id, fun z => absurd (by omega) z⟩
  | succ m ih =>
    intro j r I1 ej ha h0 h1
    apply g46_3_68
    rw [nI_leI (by omega) (by omega)]
    refine ⟨fun z => absurd z (by omega), fun _ => ?_⟩
    refine c47a hv ho (by omega) ha (fun en I2 q3 q1 f2 => q_mkI ⟨fun _ => h0 I2 j (by omega) (by rw [stk_n en, Nat.add_sub_cancel]) (run_n en) q3 q1 f2, fun z => absurd nI_0 z⟩) (fun r' I2 es a2 f2 => q_mkI ⟨fun z => absurd z (by decide), fun _ => ?_⟩)
    rw [nI_add]
    refine ih (j + 1) r' I2 (by omega) a2 (fun I' k a b c d e f => h0 I' k a (by rw [stk_y es]; exact b) (by rw [run_y es]; exact c) d e (fb_tr f2 f)) (fun I' r'' a b c d => h1 I' r'' (by rw [run_y es]; exact a) (by rw [stk_y es]; exact b) c (fb_tr f2 d))
/-- the rows of threads that there are not -/
theorem RW_z {I : Nat → Nat → Int32} {T n : Nat} (hp : p_in I) (h : RW I T n) : ∀ t, t ≤ T → z0 I (rt I t) := by
  have hm := vb hp.1
  intro t
  induction t with
  | zero =>
    intro _ k hk hk'
    rw [← h.2.2.1 k (by omega)]
    unfold m_first
    rw [if_neg (by omega), if_neg (by omega), if_neg (by omega)]
  | succ t ih =>
    intro ht k hk hk'
    obtain ⟨ro, ⟨j, k1, k2⟩, _⟩ := h.2.1 t (by omega)
    obtain ⟨s, C, a, hg, b, _⟩ := cs_step hp ro k2 (by have := h.1.1; omega) (by have := h.1; omega) h.2.2.2.2.2 (h.2.2.2.2.1 t (by omega))
    obtain ⟨g1, g2, g3, g4, g5⟩ := hg
    rw [← g4 k (by omega), do_z hp a g2 (m_can_t g3).1 hk hk', b k (by omega) (by omega)]
    exact ih (by omega) k hk hk'
theorem z0_e {I I' : Nat → Nat → Int32} {r : Nat → Int32} (h : I' 103 = I 103) (hz : z0 I r) : z0 I' r := by
  unfold z0
  rw [h]
  exact hz
/-- firstOtherStep -/
theorem c170 {E : am_Ev} {J : Nat → Nat → Int64} {S : Nat → Nat → Option Nat} {Q : am_Qt} {I I1 : Nat → Nat → Int32} {T n : Nat} {how wh ins : Int32} {r : Nat → Int32} (hv : vr0 I T n) (ho : k_ok I n how ins) (hT : I 18 10 = nI T) (ha : ax I I1 how wh ins r 0)
    (h : ∀ I' d, vw I' T d → fb I1 I' 60 75 → Q (.inl (some (.int (@ite _ (same r (rt I 0)) (Classical.propDecidable _) (dfr (nxr I n (lm I T) how wh ins) (rt I) T 1 r) (nI 0))))) E I' J S) : am_cl 170 [.ref 0] E I1 J S Q := by
  show am_ww 170 0 [.ref 0, am_U] [] E I1 J S Q
  obtain ⟨hp, hc, hR, hs, hl⟩ := id hv
  have hT4 := hR.1.1
  have hm := vb hp.1
  apply g170_0
  -- they are compared
  have cmp : ∀ (I2 : Nat → Nat → Int32) t r' j (Q' : am_Qt), t ≤ T → vw I2 T t → ax I I2 how wh ins r' j → (same r' (rt I t) → Q' (.inl (some (.int (nI 1)))) E I2 J S) → (¬ same r' (rt I t) → Q' (.inl (some (.int (nI 0)))) E I2 J S) → am_cl 171 [.ref 61, .ref 69, .int (I2 12 5)] E I2 J S Q' := by
    intro I2 t r' j Q' ht hw ha h1 h0
    have f := ha.1
    have e5 : I2 12 5 = nI (I2 103 4).toNatClampNeg := by rw [f 12 (by omega), f 103 (by omega), hc.1]; exact vc hp.1
    rw [e5]
    have er : rt I2 = rt I := rt_e (f 117 (by omega))
    have m61 := hw.2.2.2.2.2
    rw [er] at m61
    exact c171 ((p_in_e (p_eq_fb f (by omega))).mpr hp) m61 ha.2.1 (z0_e (f 103 (by omega)) (RW_z hp hR t ht)) (z0_e (f 103 (by omega)) ha.2.2.2.2.2) (fun z => h1 (fun k hk => (z k hk).symm)) (fun z => h0 (fun y => z (fun k hk => (y k hk).symm)))
  have l : ∀ m t r' (I2 : Nat → Nat → Int32), t + m = T + 1 → 1 ≤ t → vw I2 T (t - 1) → ax I I2 how wh ins r' (t - 1) → fb I1 I2 60 75 → (∀ I' d, vw I' T d → fb I1 I' 60 75 → Q (.inl (some (.int (dfr (nxr I n (lm I T) how wh ins) (rt I) m t r')))) E I' J S) → am_ww 170 20 [.ref 0, .int (nI t)] [] E I2 J S Q := by
    intro m
    induction m with
    | zero =>
      intro t r' I2 et t1 hw ha f2 h
      apply g170_20
      rw [ha.1 18 (by omega), hT, nI_ltI (by omega) (by omega)]
      exact ⟨fun _ => h I2 _ hw f2, fun z => absurd (by omega) z⟩
    | succ m ih =>
      intro t r' I2 et t1 hw ha f2 h
      apply g170_20
      rw [ha.1 18 (by omega), hT, nI_ltI (by omega) (by omega)]
      refine ⟨fun z => absurd z (by omega), fun _ => ?_⟩
      have hv2 := vr0_fb hv ha.1 (by omega) (by omega)
      refine c47v hv2 hw (by omega) (fun I3 w3 f3 => q_mkI ?_)
      rw [show t - 1 + 1 = t by omega] at w3
      have a3 : ax I I3 how wh ins r' (t - 1) := by
        obtain ⟨x1, x2, x3, x4⟩ := ha
        refine ⟨fb_tr x1 (fb_le f3 (by omega) (by omega)), rm_e x2 (fun k a b => f3 k (by omega)), ?_, x4⟩
        rw [f3 68 (by omega)]
        exact x3
      refine c47a hv ho (by omega) a3 (fun en I4 q3 q1 f4 => q_mkI ⟨fun _ => ?_, fun z => absurd nI_0 z⟩) (fun r'' I4 es a4 f4 => q_mkI ⟨fun z => absurd z (by decide), fun _ => ?_⟩)
      · rw [dfr_n en] at h
        exact h I4 t (vw_e (fun k hk => f4 k (by omega)) w3) (fb_tr f2 (fb_tr (fb_le f3 (by omega) (by omega)) (fb_le f4 (by omega) (by omega))))
      · rw [show t - 1 + 1 = t by omega] at a4
        have w4 : vw I4 T t := vw_e (fun k hk => f4 k (by omega)) w3
        have f24 : fb I1 I4 60 75 := fb_tr f2 (fb_tr (fb_le f3 (by omega) (by omega)) (fb_le f4 (by omega) (by omega)))
        refine cmp I4 t r'' t _ (by omega) w4 a4 (fun y => q_mkI ⟨fun z => absurd z (by decide), fun _ => ?_⟩) (fun y => q_mkI ⟨fun _ => ?_, fun z => absurd nI_0 z⟩)
        · rw [nI_add]
          rw [dfr_y es y] at h
          exact ih (t + 1) r'' I4 (by omega) (by omega) w4 a4 f24 h
        · rw [dfr_d es y] at h
          exact h I4 t w4 f24
  refine c17v (vr0_fb hv ha.1 (by omega) (by omega)) (fun I2 w2 f2 => q_mkV ?_)
  have a2 : ax I I2 how wh ins r 0 := by
    obtain ⟨x1, x2, x3, x4⟩ := ha
    refine ⟨fb_tr x1 (fb_le f2 (by omega) (by omega)), rm_e x2 (fun k a b => f2 k (by omega)), ?_, x4⟩
    rw [f2 68 (by omega)]
    exact x3
  have f2' : fb I1 I2 60 75 := fb_le f2 (by omega) (by omega)
  refine cmp I2 0 r 0 _ (by omega) w2 a2 (fun y => q_mkI ⟨fun z => absurd z (by decide), fun _ => ?_⟩) (fun y => q_mkI ⟨fun _ => ?_, fun z => absurd nI_0 z⟩)
  · rw [if_pos y] at h
    exact l T 1 r I2 (by omega) (by omega) w2 a2 f2' h
  · rw [if_neg y] at h
    exact h I2 0 w2 f2'
