/-! a new course -/
theorem c16p_20 {E : am_Ev} {I : Nat → Nat → Int32} {J : Nat → Nat → Int64} {S : Nat → Nat → Option Nat} {Q : am_Qt} {seed : Int32} {P : Nat → Nat → Int32} (hc : ∀ k, k < 16 → I 16 k = P 104 k) (h : ∀ I', rm I' 20 (m_first P seed) → fb I I' 20 26 → Q (.inl none) E I' J S) : am_cl 16 [.ref 20, .ref 12] E I J S Q := by
  show am_ww 16 0 [.ref 20, .ref 12] [] E I J S Q
  apply g16_0_20
  refine c13_22 (q_mkV (c13_23 (q_mkV (c13_24 (q_mkV (c13_25 (q_mkV (c13_26 (q_mkV (h _ ?_ ?_))))))))))
  · refine ⟨fun k hk => ?_, fun t j ht hj => ?_, fun t ht => ?_, fun t ht => ?_, fun l hl => ?_, ?_, fun s hs => ?_⟩
    · rw [u_I_ne (by decide), u_I_ne (by decide), u_I_ne (by decide), u_I_ne (by decide), u_I_ne (by decide), u_I_ne (by decide), u_I_eq, m_first_c hk]
      show va_cpy (I 16) (I 21) 0 0 16 k = _
      unfold va_cpy
      rw [if_pos (by omega)]
      show I 16 (0 + (k - 0)) = _
      rw [show 0 + (k - 0) = k by omega]
      exact hc k hk
    · rw [u_I_ne (by decide), u_I_ne (by decide), u_I_ne (by decide), u_I_ne (by decide), u_I_ne (by decide), u_I_eq, fil_in (by omega), m_first_0 (by omega) (by omega) (by omega)]
    · rw [u_I_ne (by decide), u_I_ne (by decide), u_I_ne (by decide), u_I_ne (by decide), u_I_eq, fil_in (by omega), m_first_0 (by omega) (by omega) (by omega)]
    · rw [u_I_ne (by decide), u_I_ne (by decide), u_I_ne (by decide), u_I_eq, fil_in (by omega), m_first_0 (by omega) (by omega) (by omega)]
    · rw [u_I_ne (by decide), u_I_ne (by decide), u_I_eq, fil_in (by omega), m_first_l (by omega) (by omega)]
    · rw [u_I_eq, upd_eq, m_first_l (by omega) (by omega)]
    · rw [u_I_ne (by decide), u_I_eq, fil_in (by omega), m_first_0 (by omega) (by omega) (by omega)]
  · exact fb_u (fb_u (fb_u (fb_u (fb_u (fb_u (fb_u fb_id (by omega) (by omega)) (by omega) (by omega)) (by omega) (by omega)) (by omega) (by omega)) (by omega) (by omega)) (by omega) (by omega)) (by omega) (by omega)
theorem c16p_61 {E : am_Ev} {I : Nat → Nat → Int32} {J : Nat → Nat → Int64} {S : Nat → Nat → Option Nat} {Q : am_Qt} {seed : Int32} {P : Nat → Nat → Int32} (hc : ∀ k, k < 16 → I 16 k = P 104 k) (h : ∀ I', rm I' 61 (m_first P seed) → fb I I' 61 67 → Q (.inl none) E I' J S) : am_cl 16 [.ref 61, .ref 12] E I J S Q := by
  show am_ww 16 0 [.ref 61, .ref 12] [] E I J S Q
  apply g16_0_61
  refine c13_63 (q_mkV (c13_64 (q_mkV (c13_65 (q_mkV (c13_66 (q_mkV (c13_67 (q_mkV (h _ ?_ ?_))))))))))
  · refine ⟨fun k hk => ?_, fun t j ht hj => ?_, fun t ht => ?_, fun t ht => ?_, fun l hl => ?_, ?_, fun s hs => ?_⟩
    · rw [u_I_ne (by decide), u_I_ne (by decide), u_I_ne (by decide), u_I_ne (by decide), u_I_ne (by decide), u_I_ne (by decide), u_I_eq, m_first_c hk]
      show va_cpy (I 16) (I 62) 0 0 16 k = _
      unfold va_cpy
      rw [if_pos (by omega)]
      show I 16 (0 + (k - 0)) = _
      rw [show 0 + (k - 0) = k by omega]
      exact hc k hk
    · rw [u_I_ne (by decide), u_I_ne (by decide), u_I_ne (by decide), u_I_ne (by decide), u_I_ne (by decide), u_I_eq, fil_in (by omega), m_first_0 (by omega) (by omega) (by omega)]
    · rw [u_I_ne (by decide), u_I_ne (by decide), u_I_ne (by decide), u_I_ne (by decide), u_I_eq, fil_in (by omega), m_first_0 (by omega) (by omega) (by omega)]
    · rw [u_I_ne (by decide), u_I_ne (by decide), u_I_ne (by decide), u_I_eq, fil_in (by omega), m_first_0 (by omega) (by omega) (by omega)]
    · rw [u_I_ne (by decide), u_I_ne (by decide), u_I_eq, fil_in (by omega), m_first_l (by omega) (by omega)]
    · rw [u_I_eq, upd_eq, m_first_l (by omega) (by omega)]
    · rw [u_I_ne (by decide), u_I_eq, fil_in (by omega), m_first_0 (by omega) (by omega) (by omega)]
  · exact fb_u (fb_u (fb_u (fb_u (fb_u (fb_u (fb_u fb_id (by omega) (by omega)) (by omega) (by omega)) (by omega) (by omega)) (by omega) (by omega)) (by omega) (by omega)) (by omega) (by omega)) (by omega) (by omega)
theorem c15p {E : am_Ev} {I : Nat → Nat → Int32} {J : Nat → Nat → Int64} {S : Nat → Nat → Option Nat} {Q : am_Qt} {seed : Int32} {P : Nat → Nat → Int32} (hc : ∀ k, k < 16 → I 16 k = P 104 k) (h : ∀ I', rm I' 20 (m_first P seed) → I' 19 = upd (upd (I 19) 1 seed) 2 (nI 0) → fb I I' 19 26 → Q (.inl none) E I' J S) : am_cl 15 [.ref 19, .ref 12, .int seed] E I J S Q := by
  show am_ww 15 0 [.ref 19, .ref 12, .int seed] [] E I J S Q
  apply g15_0_19
  refine c16p_20 (seed := seed) hc (fun I' a f => q_mkV (h _ (rm_e a (fun k h1 h2 => u_I_ne (by omega))) ?_ (fb_u (fb_le f (by omega) (by omega)) (by omega) (by omega))))
  rw [u_I_eq, f 19 (by omega)]
theorem c17p {E : am_Ev} {I : Nat → Nat → Int32} {J : Nat → Nat → Int64} {S : Nat → Nat → Option Nat} {Q : am_Qt} {seed : Int32} {P : Nat → Nat → Int32} (hc : ∀ k, k < 16 → I 16 k = P 104 k) (h : ∀ I', rm I' 61 (m_first P seed) → I' 60 = upd (upd (upd (upd (I 60) 1 (nI 0)) 2 (nI 0)) 3 (nI 0)) 4 (-1) → fb I I' 60 67 → Q (.inl none) E I' J S) : am_cl 17 [.ref 60, .ref 12] E I J S Q := by
  show am_ww 17 0 [.ref 60, .ref 12] [] E I J S Q
  apply g17_0_60
  refine c16p_61 (seed := seed) hc (fun I' a f => q_mkV (h _ (rm_e a (fun k h1 h2 => u_I_ne (by omega))) ?_ (fb_u (fb_le f (by omega) (by omega)) (by omega) (by omega))))
  rw [u_I_eq, f 60 (by omega)]
/-- the class begins a course -/
def BGN (P I I' : Nat → Nat → Int32) : Prop := (∀ k, k < 18 ∨ k = 27 ∨ 29 ≤ k ∧ k < 34 ∨ 35 ≤ k → I' k = I k) ∧ rm I' 20 (m_first P (I 17 1)) ∧ I' 19 1 = I 17 1 ∧ I' 19 2 = nI 0 ∧ (∀ s, s < 3 → I' 28 s = nI 0) ∧ I' 34 4 = nI 0 ∧ (∀ f, f ≠ 9 → f ≠ 10 → f ≠ 11 → I' 18 f = I 18 f) ∧ I' 18 9 = nI 0 ∧ I' 18 10 = nI 0 ∧ I' 18 11 = nI 0
theorem c14p {E : am_Ev} {I : Nat → Nat → Int32} {J : Nat → Nat → Int64} {S : Nat → Nat → Option Nat} {Q : am_Qt} {P : Nat → Nat → Int32} (hc : ∀ k, k < 16 → I 16 k = P 104 k) (h : ∀ I', BGN P I I' → Q (.inl none) E I' J S) : am_cl 14 [.ref 18, .ref 12] E I J S Q := by
  show am_ww 14 0 [.ref 18, .ref 12] [] E I J S Q
  apply g14_0
  refine c15p (seed := I 17 1) hc (fun I1 a1 a2 a3 => q_mkV (c13_28 (q_mkV (h _ ?_))))
  refine ⟨fun k hk => ?_, rm_e a1 (fun k h1 h2 => ?_), ?_, ?_, fun s hs => ?_, ?_, fun f h1 h2 h3 => ?_, ?_, ?_, ?_⟩
  · rw [u_I_ne (by omega), u_I_ne (by omega), u_I_ne (by omega), a3 k (by omega)]
  · rw [u_I_ne (by omega), u_I_ne (by omega), u_I_ne (by omega)]
  · rw [u_I_ne (by decide), u_I_ne (by decide), u_I_ne (by decide), a2, upd_ne (by decide), upd_eq]
  · rw [u_I_ne (by decide), u_I_ne (by decide), u_I_ne (by decide), a2, upd_eq]
  · rw [u_I_ne (by decide), u_I_ne (by decide), u_I_eq, fil_in hs]
  · rw [u_I_ne (by decide), u_I_eq, upd_eq]
  · rw [u_I_eq, upd_ne h3, upd_ne h2, upd_ne h1, u_I_ne (by decide), a3 18 (by omega)]
  · rw [u_I_eq, upd_ne (by decide), upd_ne (by decide), upd_eq]
  · rw [u_I_eq, upd_ne (by decide), upd_eq]
  · rw [u_I_eq, upd_eq]
theorem c41p {E : am_Ev} {I : Nat → Nat → Int32} {J : Nat → Nat → Int64} {S : Nat → Nat → Option Nat} {Q : am_Qt} {P : Nat → Nat → Int32} (hc : ∀ k, k < 16 → I 16 k = P 104 k) (h : ∀ I', (∀ k, k < 60 ∨ 67 < k → k ≠ 89 → I' k = I k) → rm I' 61 (m_first P 0) → I' 60 1 = nI 0 ∧ I' 60 2 = nI 0 ∧ I' 60 3 = nI 0 ∧ I' 60 4 = -1 → I' 89 8 = nI 0 → Q (.inl none) E I' J S) : am_cl 41 [.ref 0] E I J S Q := by
  show am_ww 41 0 [.ref 0] [] E I J S Q
  apply g41_0
  refine c17p (seed := 0) hc (fun I1 a1 a2 a3 => q_mkV (h _ (fun k hk h89 => by rw [u_I_ne h89, a3 k (by omega)]) (rm_e a1 (fun k h1 h2 => u_I_ne (by omega))) ?_ (by rw [u_I_eq, upd_eq])))
  rw [u_I_ne (by decide), a2]
  refine ⟨?_, ?_, ?_, ?_⟩
  · rw [upd_ne (by decide), upd_ne (by decide), upd_ne (by decide), upd_eq]
  · rw [upd_ne (by decide), upd_ne (by decide), upd_eq]
  · rw [upd_ne (by decide), upd_eq]
  · rw [upd_eq]
theorem rm_first {I P : Nat → Nat → Int32} {b : Nat} {x y : Int32} (h : rm I b (m_first P x)) : rm I b (m_first P y) := by
  refine rm_c h (fun k hk => ?_)
  unfold m_first
  split
  · rfl
  · split
    · rfl
    · rw [if_neg (by omega), if_neg (by omega)]
/-- a course that begins -/
theorem CR_new {I : Nat → Nat → Int32} (hp : p_in I) (hc : p_cl I) (hst : st_ok I) (h117 : ∀ k, k < 51 → I 117 k = m_first I (I 103 1) k) (h12 : I 99 12 = nI 0) (h13 : I 99 13 = nI 0) (h43 : I 99 43 = nI 0) (h18 : I 18 9 = nI 0 ∧ I 18 10 = nI 0 ∧ I 18 11 = nI 0) (h124 : ∀ s, s < 3 → I 124 s = nI 0 ∧ I 28 s = nI 0) (h34 : I 34 4 = nI 0) (hrm : rm I 20 (m_first I (I 103 1))) (h19 : I 19 2 = nI 0 ∧ I 19 1 = I 103 1) (h110 : I 110 0 = I 18 12 ∧ I 110 1 = I 18 13) : CR I 0 0 0 0 := by
  have b := vb hp.1
  have hrt : ∀ k, k < 51 → rt I 0 k = m_first I (I 103 1) k := fun k hk => by
    unfold rt
    rw [if_pos hk, show 51 * 0 + k = k from by omega]
    exact h117 k hk
  have ok : r_ok I (rt I 0) := by
    obtain ⟨a1, a2, a3, a4⟩ := m_first_ok (seed := I 103 1) hp
    refine ⟨fun t ht => ?_, fun l hl => ?_, ?_, fun s hs => ?_⟩
    · rw [hrt _ (by omega)]; exact a1 t ht
    · rw [hrt _ (by omega)]; exact a2 l hl
    · rw [hrt _ (by omega)]; exact a3
    · rw [hrt _ (by omega)]; exact a4 s hs
  have e47 : rt I 0 47 = nI 0 := by rw [hrt 47 (by omega), m_first_0 (by omega) (by omega) (by omega)]
  refine ⟨hp, hc, hst, ⟨⟨by omega, by omega⟩, fun t ht => ?_, fun k hk => (hrt k hk).symm, e47, fun t ht => by omega, fun i hi => by omega⟩, ⟨h18.1, fun i hi => by omega⟩, fun s hs => ?_, fun s hs => ?_, ⟨h12, h18.2.1⟩, ⟨h13, h18.2.2, by omega⟩, ⟨rm_c hrm (fun k hk => (hrt k (by omega)).symm), ?_, ?_⟩, fun t a b => by omega, fun i hi => ?_, ⟨h43, h34, by omega, trivial⟩, h110⟩
  · have et : t = 0 := by omega
    subst et
    exact ⟨ok, ⟨0, by omega, e47⟩, fun c hc => ⟨0, by omega, by rw [hrt _ (by omega), m_first_0 (by omega) (by omega) (by omega)]⟩⟩
  · obtain ⟨x, y⟩ := h124 s hs
    rw [x, y]
    refine ⟨rfl, vp_in_nI (by omega) (by omega), fun i hi => ?_⟩
    rw [nI_clamp (by omega)] at hi
    omega
  · rw [hrt _ (by omega), m_first_0 (by omega) (by omega) (by omega), (h124 s hs).1]
    exact Int32.le_refl _
  · rw [hrt 45 (by omega), m_first_0 (by omega) (by omega) (by omega)]; exact h19.1
  · rw [hrt 46 (by omega), m_first_d]; exact h19.2
  · rw [Nat.zero_div] at hi
    omega
theorem vw_new {I : Nat → Nat → Int32} (h117 : ∀ k, k < 51 → I 117 k = m_first I (I 103 1) k) (hrm : rm I 61 (m_first I (I 103 1))) (h60 : I 60 1 = nI 0 ∧ I 60 2 = nI 0 ∧ I 60 3 = nI 0 ∧ I 60 4 = -1) : vw I 0 0 := by
  have hrt : ∀ k, k < 51 → rt I 0 k = m_first I (I 103 1) k := fun k hk => by
    unfold rt
    rw [if_pos hk, show 51 * 0 + k = k from by omega]
    exact h117 k hk
  refine ⟨h60.1, by omega, ?_, h60.2.2.1, h60.2.2.2, rm_c hrm (fun k hk => (hrt k (by omega)).symm)⟩
  rw [hrt 47 (by omega), m_first_0 (by omega) (by omega) (by omega)]
  exact h60.2.1
theorem cpy_n {f g : Nat → Int32} {n k : Nat} (h : k < n) : va_cpy f g 0 0 n k = f k := by
  unfold va_cpy
  rw [if_pos (by omega)]
  show f (0 + (k - 0)) = _
  rw [show 0 + (k - 0) = k by omega]
/-- what was read is a program, on both sides -/
theorem FIN_p {T : Nat} {I A F : Nat → Nat → Int32} (h : FIN T I A) (f3 : ∀ k, k < 5 → F 103 k = I 103 (5 + k)) (f4 : ∀ k, k < 16 → F 104 k = I 104 (16 + k)) (f5 : ∀ k, k < 4 → F 105 k = I 105 (4 + k)) (f6 : ∀ j, 106 ≤ j → j < 110 → ∀ k, k < 64 → F j k = I j (64 + k)) (g12 : F 12 5 = A 3 5) (g13 : ∀ k, k < 64 → F 13 k = A 4 k) (g14 : ∀ k, k < 192 → F 14 k = A 5 k) (g15 : ∀ k, k < 4 → F 15 k = A 6 k) (g16 : ∀ k, k < 16 → F 16 k = A 7 k) (g17 : ∀ k, k < 4 → F 17 k = A 8 k) : p_in F ∧ p_cl F ∧ st_ok F := by
  obtain ⟨h1, h2, h3, ⟨d1, d2, d3, d4, d5⟩, h5⟩ := h
  have e4 : F 103 4 = nI T := by rw [f3 4 (by decide)]; exact h2
  have ec : (F 103 4).toNatClampNeg = T := by rw [e4, nI_clamp (by omega)]
  refine ⟨?_, ?_, ?_⟩
  · unfold p_in
    rw [ec, e4]
    refine ⟨vp_in_nI (by omega) (by omega), fun t ht => ?_⟩
    obtain ⟨L, l1, l2, l3, l4⟩ := h5 t ht
    rw [f5 t (by omega), l3, nI_clamp (by omega)]
    refine ⟨vp_in_nI (by omega) (by omega), fun l hl => ?_⟩
    obtain ⟨o, o1, o2, o3, ⟨n1, n2, n3, n4, n5, n6, n7⟩, o5, o6, o7, o8⟩ := l4 l hl
    have hi : 16 * t + l < 64 := by omega
    refine ⟨o, o1, ?_, ?_⟩
    · rw [f6 106 (by decide) (by decide) _ hi]; exact o3
    · rw [f6 107 (by decide) (by decide) _ hi, f6 108 (by decide) (by decide) _ hi, f6 109 (by decide) (by decide) _ hi]
      exact ⟨n1, n2, n3, n4, n5, o8⟩
  · unfold p_cl
    rw [ec, e4, g12]
    refine ⟨h3, fun t ht => ?_, fun k hk => ?_, fun k hk => ?_⟩
    · obtain ⟨L, l1, l2, l3, l4⟩ := h5 t ht
      rw [f5 t (by omega), l3, nI_clamp (by omega), g15 t (by omega)]
      refine ⟨l2, fun l hl => ?_⟩
      obtain ⟨o, o1, o2, o3, ⟨n1, n2, n3, n4, n5, n6, n7⟩, o5, o6, o7, o8⟩ := l4 l hl
      have hi : 16 * t + l < 64 := by omega
      refine ⟨o, o1, ?_, ?_, ?_⟩
      · rw [f6 106 (by decide) (by decide) _ hi]; exact o3
      · rw [g13 _ hi]; exact o2
      · rw [g14 _ (by omega), g14 _ (by omega), g14 _ (by omega), f6 107 (by decide) (by decide) _ hi, f6 108 (by decide) (by decide) _ hi, f6 109 (by decide) (by decide) _ hi]
        exact ⟨n6, n7, o5, o6, o7⟩
    · rw [g16 k hk, f4 k hk]; exact d2 k hk
    · rw [g17 k hk, f3 k (by omega)]; exact d1 k hk
  · unfold st_ok
    rw [f3 0 (by decide), f3 2 (by decide), f3 3 (by decide)]
    exact ⟨d3, d4, d5⟩
