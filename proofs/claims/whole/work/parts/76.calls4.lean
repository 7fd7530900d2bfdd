/-! calls that only look: input, digest, thread -/
theorem k_input {E : am_Ev} {I : Nat → Nat → Int32} {J : Nat → Nat → Int64} {S : Nat → Nat → Option Nat} {Q : am_Qt} {T cu ac n d i : Nat} {x4 : Int32} {d5 d6 : Value} (hd5 : am_isL d5 = false) (hd6 : am_isL d6 = false) (hcr : CR I T cu ac n) (hvw : vw I T d) (hx : x4 = nI i) (hi : i + 6 ≤ E.2.2.1) (hL : E.2.2.1 ≤ 3072) (h : Hq I J S E T x4 Q) : am_ww 291 290 [.ref 1000000, .ref 0, .ref 99, .ref 145, .int x4, d5, d6] [] E I J S Q := by
  apply g291_290 hd5 hd6
  refine L2 hx hi hL ?_
  generalize E.2.2.2 (i + 1) = x
  generalize E.2.2.2 (i + 2) = y
  obtain ⟨_, _, _, _, hl⟩ := CR_vr0 hcr
  obtain ⟨h1, h2, h3, h4, h5, h6, h7, h8, h9, h10, h11, h12, h13, h14⟩ := hcr
  have hT := h4.1.1
  show am_ww 113 0 [.ref 0, .int x, .int y, .ref 145, am_U] [] E I J S _
  apply g113_0
  show am_ww 114 0 [.ref 0, .int x, .int y] [] E I J S _
  apply g114_0
  rcases rng x 3 (by omega) with ⟨c, hc, rfl⟩ | hb
  · obtain ⟨l1, l2, l3⟩ := hl c hc
    obtain ⟨m, hm, em⟩ := vn l2
    have e117 : I 117 (51 * T + (48 + c)) = nI m := by rw [← rt_k (I := I) (t := T) (show 48 + c < 51 by omega)]; exact em
    rw [em] at l1
    have bad : y < 0 ∨ nI m ≤ y → q_I (fun v1 E1 I1 J1 S1 => E1.2.2 = E.2.2 ∧ am_cl 246 [.ref 99, .int (nI c), .int y] E1 I1 J1 S1 (q_I fun v2 E2 I2 J2 S2 => tl v1 v2 x4 E2 I2 J2 S2 Q)) (.inl (some (.int (nI 1)))) (Ex E) I J S := by
      intro hb
      refine q_mkI ⟨rfl, ?_⟩
      show am_ww 246 0 [.ref 99, .int (nI c), .int y] [] (Ex E) I J S _
      apply g246_0
      rw [h8.1]
      simp (disch := omega) only [Nat.reduceEqDiff, reduceIte, nI_mulI, nI_add, nI_clamp, nI_ltI, nI_leI, nI_eq, nI_e0, nI_n0, vt, forall_eq, true_and, and_true, true_implies, forall_const, not_true_eq_false, not_false_eq_true, false_implies, implies_true, e117]
      have t := t_bad (v := nI 0) h rfl fb_id Jq_id hvw
      refine ⟨fun _ => t, fun c0 => ⟨fun _ => t, fun c1 => ⟨fun _ => t, fun c2 => ⟨fun _ => t, fun c3 => ?_⟩⟩⟩⟩
      rw [nI_0] at c2
      rw [sub1 c2 (by omega)] at c3
      exact (ctr hb c2 (Int32.not_le.mp c3)).elim
    rcases rng y m (by omega) with ⟨e, he, rfl⟩ | hb
    · have e3 := l3 e (by rw [em, nI_clamp (by omega)]; exact he)
      simp (disch := omega) only [Nat.reduceEqDiff, reduceIte, nI_mulI, nI_add, nI_clamp, nI_ltI, nI_leI, nI_eq, nI_e0, nI_n0, vt, forall_eq, true_and, and_true, true_implies, forall_const, not_true_eq_false, not_false_eq_true, false_implies, implies_true, l1]
      refine ⟨fun q => absurd q (by omega), fun _ => ⟨fun q => absurd q (by omega), fun _ => ?_⟩⟩
      refine W_ok (y := 113) (q_mkI ⟨rfl, ?_⟩)
      show am_ww 246 0 [.ref 99, .int (nI c), .int (nI e)] [] E I _ S _
      apply g246_0
      rw [h8.1]
      simp (disch := omega) only [Nat.reduceEqDiff, reduceIte, nI_mulI, nI_add, nI_clamp, nI_ltI, nI_leI, nI_eq, nI_e0, nI_n0, vt, forall_eq, true_and, and_true, true_implies, forall_const, not_true_eq_false, not_false_eq_true, false_implies, implies_true, e117]
      refine ⟨fun q => absurd q (by omega), fun _ => ⟨fun q => absurd q (by omega), fun _ => ⟨fun q => absurd q (by omega), fun _ => ⟨fun q => ?_, fun _ => ?_⟩⟩⟩⟩
      · rw [sub1 (nI_pos (by omega)) (by omega), nI_leI (by omega) (by omega)] at q
        omega
      · exact t_ok h rfl fb_id Jq_id hvw e3.symm
    · simp (disch := omega) only [Nat.reduceEqDiff, reduceIte, nI_mulI, nI_add, nI_clamp, nI_ltI, nI_leI, nI_eq, nI_e0, nI_n0, vt, forall_eq, true_and, and_true, true_implies, forall_const, not_true_eq_false, not_false_eq_true, false_implies, implies_true, l1]
      exact ⟨fun q => absurd q (by omega), fun _ => ⟨fun _ => ⟨1, rfl, bad hb⟩, fun c0 => ⟨fun _ => ⟨1, rfl, bad hb⟩, fun c1 => (ctr hb c0 (Int32.not_le.mp c1)).elim⟩⟩⟩
  · have fin : q_I (fun v1 E1 I1 J1 S1 => E1.2.2 = E.2.2 ∧ am_cl 246 [.ref 99, .int x, .int y] E1 I1 J1 S1 (q_I fun v2 E2 I2 J2 S2 => tl v1 v2 x4 E2 I2 J2 S2 Q)) (.inl (some (.int (nI 1)))) (Ex E) I J S := by
      refine q_mkI ⟨rfl, ?_⟩
      show am_ww 246 0 [.ref 99, .int x, .int y] [] (Ex E) I J S _
      apply g246_0
      have t := t_bad (v := nI 0) h rfl fb_id Jq_id hvw
      exact ⟨fun _ => t, fun c0 => ⟨fun _ => t, fun c1 => (ctr_le hb (by rw [nI_0] at c0; exact c0) (Int32.not_lt.mp c1) rfl (by omega)).elim⟩⟩
    exact ⟨fun _ => ⟨1, rfl, fin⟩, fun c0 => ⟨fun _ => ⟨1, rfl, fin⟩, fun c1 => (ctr hb c0 (Int32.not_le.mp c1)).elim⟩⟩
theorem k_digest {E : am_Ev} {I : Nat → Nat → Int32} {J : Nat → Nat → Int64} {S : Nat → Nat → Option Nat} {Q : am_Qt} {T cu ac n d i : Nat} {x4 : Int32} {d5 d6 : Value} (hd5 : am_isL d5 = false) (hd6 : am_isL d6 = false) (hcr : CR I T cu ac n) (hvw : vw I T d) (hx : x4 = nI i) (hi : i + 6 ≤ E.2.2.1) (hL : E.2.2.1 ≤ 3072) (h : Hq I J S E T x4 Q) : am_ww 291 335 [.ref 1000000, .ref 0, .ref 99, .ref 145, .int x4, d5, d6] [] E I J S Q := by
  apply g291_335 hd5 hd6
  refine L1 hx hi hL ?_
  generalize E.2.2.2 (i + 1) = x
  obtain ⟨h1, h2, h3, h4, h5, h6, h7, h8, h9, h10, h11, h12, h13, h14⟩ := hcr
  have hT := h4.1.1
  obtain ⟨_, ⟨p, p1, p50, ep⟩, _⟩ := h3
  have e17 : I 17 2 = nI p := (h2.2.2.2 2 (by omega)).trans ep
  have hdg := h12
  unfold DG at hdg
  rw [ep, nI_clamp (by omega)] at hdg
  have hdp : T / p ≤ T := Nat.div_le_self T p
  show am_ww 116 0 [.ref 0, .int x, .ref 145, am_U] [] E I J S _
  apply g116_0
  show am_ww 117 0 [.ref 0, .int x] [] E I J S _
  apply g117_0
  have ew : (if nI 1 < I 17 2 then I 17 2 else nI 1) = nI p := by
    rw [e17]
    by_cases c : nI 1 < nI p
    · rw [if_pos c]
    · rw [if_neg c]
      rw [nI_ltI (by omega) (by omega)] at c
      rw [show p = 1 by omega]
  have hl : I 18 10 / nI p = nI (T / p) := by rw [h8.2, nI_divI (by omega) (by omega)]
  have hr : I 99 12 / I 103 2 = nI (T / p) := by rw [h8.1, ep, nI_divI (by omega) (by omega)]
  have bad : x < 0 ∨ nI (T / p) ≤ x → q_I (fun v1 E1 I1 J1 S1 => E1.2.2 = E.2.2 ∧ am_cl 247 [.ref 99, .int x] E1 I1 J1 S1 (q_I fun v2 E2 I2 J2 S2 => tl v1 v2 x4 E2 I2 J2 S2 Q)) (.inl (some (.int (nI 1)))) (Ex E) I J S := by
    intro hb
    refine q_mkI ⟨rfl, ?_⟩
    show am_ww 247 0 [.ref 99, .int x] [] (Ex E) I J S _
    apply g247_0
    refine ⟨by rw [ep]; exact nI_ne0 (by omega) (by omega), ?_⟩
    intro w e
    rw [hr] at e
    subst e
    have t := t_bad (v := nI 0) h rfl fb_id Jq_id hvw
    refine ⟨fun _ => t, fun c0 => ⟨fun _ => t, fun c1 => ?_⟩⟩
    rw [nI_0] at c0
    rw [sub1 c0 (by omega)] at c1
    exact (ctr hb c0 (Int32.not_le.mp c1)).elim
  rcases rng x (T / p) (by omega) with ⟨c, hc, rfl⟩ | hb
  · refine ⟨fun q => absurd q (nI_pos (by omega)), fun _ => ?_⟩
    intro w e
    rw [ew] at e
    subst e
    refine ⟨nI_ne0 (by omega) (by omega), ?_⟩
    rw [hl, nI_ltI (by omega) (by omega)]
    refine ⟨fun _ => ⟨vp_in_nI (by omega) (by omega), ?_⟩, fun q => absurd hc q⟩
    rw [nI_clamp (by omega), hdg c hc]
    refine W_ok (y := 116) (q_mkI ⟨rfl, ?_⟩)
    show am_ww 247 0 [.ref 99, .int (nI c)] [] E I _ S _
    apply g247_0
    refine ⟨by rw [ep]; exact nI_ne0 (by omega) (by omega), ?_⟩
    intro w e
    rw [hr] at e
    subst e
    refine ⟨fun q => absurd (by rw [nI_0] at q; exact q) (nI_pos (by omega)), fun _ => ⟨fun q => ?_, fun _ => ?_⟩⟩
    · rw [sub1 (nI_pos (by omega)) (by omega), nI_leI (by omega) (by omega)] at q
      omega
    · have hb2 : p * (c + 1) ≤ T := by
        have := Nat.mul_le_mul_left p (show c + 1 ≤ T / p by omega)
        have := Nat.mul_div_le T p
        omega
      rw [ep, nI_add, nI_mulI]
      have hpu : p_eq I (u_I I 99 (upd (I 99) 3 (nI 0))) := p_eq_u (by omega)
      refine m248 ((p_in_e hpu).mpr h1) (by omega) (q_mkI ?_)
      rw [u_I_ne (by decide), rt_e (I' := u_I I 99 (upd (I 99) 3 (nI 0))) (I := I) (u_I_ne (by decide))]
      exact t_ok h rfl fb_id Jq_id hvw rfl
  · refine ⟨fun _ => ⟨1, rfl, bad hb⟩, fun c0 => ?_⟩
    intro w e
    rw [ew] at e
    subst e
    refine ⟨nI_ne0 (by omega) (by omega), ?_⟩
    rw [hl]
    exact ⟨fun c1 => (ctr hb c0 c1).elim, fun _ => ⟨1, rfl, bad hb⟩⟩
theorem k_thread {E : am_Ev} {I : Nat → Nat → Int32} {J : Nat → Nat → Int64} {S : Nat → Nat → Option Nat} {Q : am_Qt} {T cu ac n d i : Nat} {x4 : Int32} {d5 d6 : Value} (hd5 : am_isL d5 = false) (hd6 : am_isL d6 = false) (hcr : CR I T cu ac n) (hvw : vw I T d) (hx : x4 = nI i) (hi : i + 6 ≤ E.2.2.1) (hL : E.2.2.1 ≤ 3072) (h : Hq I J S E T x4 Q) : am_ww 291 475 [.ref 1000000, .ref 0, .ref 99, .ref 145, .int x4, d5, d6] [] E I J S Q := by
  apply g291_475 hd5 hd6
  refine L2 hx hi hL ?_
  generalize E.2.2.2 (i + 1) = x
  generalize E.2.2.2 (i + 2) = y
  have hv := CR_vr0 hcr
  obtain ⟨h1, h2, h3, h4, h5, h6, h7, h8, h9, h10, h11, h12, h13, h14⟩ := hcr
  have hT := h4.1.1
  have hcu := h9.2.2
  have hm := vb h1.1
  have e12 : I 12 5 = nI (I 103 4).toNatClampNeg := h2.1.trans (vc h1.1)
  show am_ww 125 0 [.ref 0, .int x, .int y, .ref 145, am_U] [] E I J S _
  apply g125_0
  show am_ww 126 0 [.ref 0, .int x, .int y, am_U] [] E I J S _
  apply g126_0
  rw [e12]
  have badR : ∀ (I' : Nat → Nat → Int32) (d' : Nat), fb I I' 60 67 → vw I' T d' → (x < 0 ∨ nI (I 103 4).toNatClampNeg ≤ x) ∨ (y < 0 ∨ nI 8 ≤ y) → q_I (fun v1 E1 I1 J1 S1 => E1.2.2 = E.2.2 ∧ am_cl 252 [.ref 99, .int x, .int y] E1 I1 J1 S1 (q_I fun v2 E2 I2 J2 S2 => tl v1 v2 x4 E2 I2 J2 S2 Q)) (.inl (some (.int (nI 1)))) (Ex E) I' J S := by
    intro I' d' f' w' hb
    refine q_mkI ⟨rfl, ?_⟩
    show am_ww 252 0 [.ref 99, .int x, .int y, am_U] [] (Ex E) I' J S _
    apply g252_0
    have t := t_bad (v := nI 0) h rfl f' Jq_id w'
    refine ⟨fun _ => t, fun c0 => ⟨fun _ => t, fun c1 => ⟨fun _ => t, fun c2 => ⟨fun _ => t, fun c3 => ?_⟩⟩⟩⟩
    rw [nI_0] at c0 c2
    rw [f' 103 (by omega), vc h1.1, sub1 c0 (by omega)] at c1
    rcases hb with hb | hb
    · exact (ctr hb c0 (Int32.not_le.mp c1)).elim
    · exact (ctr_le hb c2 (Int32.not_lt.mp c3) rfl (by omega)).elim
  rcases rng x (I 103 4).toNatClampNeg (by omega) with ⟨c, hc, rfl⟩ | hb
  · refine ⟨fun q => absurd q (nI_pos (by omega)), fun _ => ⟨fun q => absurd q (by rw [nI_leI (by omega) (by omega)]; omega), fun _ => ?_⟩⟩
    rw [h9.2.1]
    refine c52 hv hvw h9.2.2 (fun I' w' f' => q_mkR ⟨rfl, ?_⟩)
    obtain ⟨w1, w2, w3, w4, w5, m1, m2, m3, m4, m5, m6, m7⟩ := id w'
    have e13 : I' 99 13 = nI cu := by rw [f' 99 (by omega)]; exact h9.1
    have e103 : I' 103 = I 103 := f' 103 (by omega)
    have e15 : I' 15 c = I' 105 c := by rw [f' 15 (by omega), f' 105 (by omega)]; exact (h2.2.1 c hc).1
    have ok : ∀ e v, e < 8 → y = nI e → v = (if e = 6 then (if rt I' cu (16 + 6 * c + 4) < I' 105 c then nI 0 else nI 1) else if e = 7 then (if rt I' cu 44 = nI c then nI 1 else nI 0) else rt I' cu (16 + 6 * c + e)) → q_I (fun v1 E1 I1 J1 S1 => E1.2.2 = E.2.2 ∧ am_cl 252 [.ref 99, .int (nI c), .int y] E1 I1 J1 S1 (q_I fun v2 E2 I2 J2 S2 => tl v1 v2 x4 E2 I2 J2 S2 Q)) (.inl (some (.int (nI 0)))) E I' (u_J J 145 (vp_updL (J 145) 0 v.toInt64)) S := by
      intro e v he ey ev
      subst ey
      refine q_mkI ⟨rfl, ?_⟩
      show am_ww 252 0 [.ref 99, .int (nI c), .int (nI e), am_U] [] E I' _ S _
      apply g252_0
      rw [e13, e103, vc h1.1]
      have r1 : I' 117 (51 * cu + (16 + 6 * c + 4)) = rt I' cu (16 + 6 * c + 4) := (rt_k (by omega)).symm
      have r2 : I' 117 (51 * cu + 44) = rt I' cu 44 := (rt_k (by omega)).symm
      simp (disch := omega) only [Nat.reduceEqDiff, reduceIte, nI_mulI, nI_add, nI_clamp, nI_ltI, nI_leI, nI_eq, nI_e0, nI_n0, vt, forall_eq, true_and, and_true, true_implies, forall_const, not_true_eq_false, not_false_eq_true, false_implies, implies_true, r1, r2]
      refine ⟨fun q => absurd q (by omega), fun _ => ⟨fun q => ?_, fun _ => ⟨fun q => absurd q (by omega), fun _ => ⟨fun q => absurd q (by omega), fun _ => ⟨fun c6 => ⟨fun c6' => ?_, fun c6' => ?_⟩, fun c6 => ?_⟩⟩⟩⟩⟩
      · rw [sub1 (nI_pos (by omega)) (by omega), nI_leI (by omega) (by omega)] at q
        omega
      · refine t_ok h rfl f' Jq_id w' ?_
        rw [if_pos c6'] at ev
        rw [ev]
        by_cases z : rt I' cu (16 + 6 * c + 4) < I' 105 c
        · rw [if_pos z]; rfl
        · rw [if_neg z]; rfl
      · refine t_ok h rfl f' Jq_id w' ?_
        rw [if_neg c6', if_pos (show e = 7 by omega)] at ev
        rw [ev]
        by_cases z : rt I' cu 44 = nI c
        · rw [if_pos z]; rfl
        · rw [if_neg z]; rfl
      · have r3 : I' 117 (51 * cu + (16 + 6 * c + e)) = rt I' cu (16 + 6 * c + e) := (rt_k (by omega)).symm
        simp (disch := omega) only [Nat.reduceEqDiff, reduceIte, nI_mulI, nI_add, nI_clamp, nI_ltI, nI_leI, nI_eq, nI_e0, nI_n0, vt, forall_eq, true_and, and_true, true_implies, forall_const, not_true_eq_false, not_false_eq_true, false_implies, implies_true, r3]
        refine t_ok h rfl f' Jq_id w' ?_
        rw [ev, if_neg (by omega), if_neg (by omega)]
    rcases rng y 8 (by omega) with ⟨e, he, rfl⟩ | hb
    · have o := fun v q => ok e v he rfl q
      simp (disch := omega) only [Nat.reduceEqDiff, reduceIte, nI_mulI, nI_add, nI_clamp, nI_ltI, nI_leI, nI_eq, nI_e0, nI_n0, vt, forall_eq, true_and, and_true, true_implies, forall_const, not_true_eq_false, not_false_eq_true, false_implies, implies_true]
      refine ⟨fun c0 => ?_, fun c0 => ?_, fun c0 => ?_, fun c0 => ?_, fun c0 => ?_, fun c0 => ?_, fun c0 => ?_, fun c0 => ?_, fun a0 a1 a2 a3 a4 a5 a6 a7 => absurd he (by omega)⟩
      · exact ⟨vp_in_nI (by omega) (by omega), W_ok (y := 125) (o _ (by rw [if_neg (by omega), if_neg (by omega)]; exact m2 c e (by omega) (by omega)))⟩
      · exact ⟨vp_in_nI (by omega) (by omega), W_ok (y := 125) (o _ (by rw [if_neg (by omega), if_neg (by omega)]; exact m2 c e (by omega) (by omega)))⟩
      · exact ⟨vp_in_nI (by omega) (by omega), W_ok (y := 125) (o _ (by rw [if_neg (by omega), if_neg (by omega)]; exact m2 c e (by omega) (by omega)))⟩
      · exact ⟨vp_in_nI (by omega) (by omega), W_ok (y := 125) (o _ (by rw [if_neg (by omega), if_neg (by omega)]; exact m2 c e (by omega) (by omega)))⟩
      · exact W_ok (y := 125) (o _ (by rw [if_neg (by omega), if_neg (by omega), c0]; exact m3 c (by omega)))
      · exact W_ok (y := 125) (o _ (by rw [if_neg (by omega), if_neg (by omega), c0]; exact m4 c (by omega)))
      · have e3 : I' 64 c = rt I' cu (16 + 6 * c + 4) := m3 c (by omega)
        rw [e3, e15]
        refine ⟨fun z => W_ok (y := 125) (o _ (by rw [if_pos c0, if_pos z])), fun z => W_ok (y := 125) (o _ (by rw [if_pos c0, if_neg z]))⟩
      · refine W_ok (y := 125) (o _ ?_)
        subst c0
        rw [m6]
        rfl
    · have B := badR I' cu f' w' (Or.inr hb)
      have no : ∀ k, k < 8 → ¬ y = nI k := fun k hk q => ctr hb (by rw [q]; exact nI_pos (by omega)) (by rw [q]; exact nI_lt hk (by omega))
      exact ⟨fun q => absurd q (no 0 (by omega)), fun q => absurd q (no 1 (by omega)), fun q => absurd q (no 2 (by omega)), fun q => absurd q (no 3 (by omega)), fun q => absurd q (no 4 (by omega)), fun q => absurd q (no 5 (by omega)), fun q => absurd q (no 6 (by omega)), fun q => absurd q (no 7 (by omega)), fun _ _ _ _ _ _ _ _ => ⟨1, rfl, B⟩⟩
  · have B := badR I d fb_id hvw (Or.inl hb)
    exact ⟨fun _ => ⟨1, rfl, B⟩, fun c0 => ⟨fun _ => ⟨1, rfl, B⟩, fun c1 => (ctr hb c0 (Int32.not_le.mp c1)).elim⟩⟩
