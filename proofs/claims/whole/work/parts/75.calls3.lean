/-! calls that only look: fault, set, switched, input, digest -/
theorem ctr {x : Int32} {n : Nat} (hb : x < 0 ∨ nI n ≤ x) (h0 : ¬ x < 0) (h1 : x < nI n) : False := by
  rcases hb with c | c
  · exact h0 c
  · exact Int32.not_lt.mpr c h1
theorem ctr_le {x : Int32} {n m : Nat} (hb : x < 0 ∨ nI n ≤ x) (h0 : ¬ x < 0) (h1 : x ≤ nI m) (hm : m + 1 = n) (hn : n < 2 ^ 31) : False := by
  obtain ⟨j, hj, e⟩ := nI_of h0
  subst e
  rw [nI_leI hj (by omega)] at h1
  rcases hb with c | c
  · exact h0 c
  · rw [nI_leI hn hj] at c
    omega
/-- the reference's 'at most n - 1' -/
theorem sub1 {x : Int32} {n : Nat} (h0 : ¬ x < 0) (hn : n < 2 ^ 31) : (nI n - nI 1 < x) ↔ nI n ≤ x := by
  obtain ⟨j, hj, e⟩ := nI_of h0
  subst e
  rw [nI_leI hn hj]
  by_cases c : n = 0
  · subst c
    refine ⟨fun _ => Nat.zero_le _, fun _ => ?_⟩
    rw [Int32.lt_iff_toInt_lt, nI_toInt hj]
    show (-1 : Int) < _
    omega
  · rw [nI_subI (by omega), nI_ltI (by omega) hj]
    omega
theorem k_fault {E : am_Ev} {I : Nat → Nat → Int32} {J : Nat → Nat → Int64} {S : Nat → Nat → Option Nat} {Q : am_Qt} {T d : Nat} {x4 : Int32} {d5 d6 : Value} (hd5 : am_isL d5 = false) (hd6 : am_isL d6 = false) (hf : I 99 24 = I 0 12) (hvw : vw I T d) (h : Hq I J S E T x4 Q) : am_ww 291 117 [.ref 1000000, .ref 0, .ref 99, .ref 145, .int x4, d5, d6] [] E I J S Q := by
  apply g291_117 hd5 hd6
  show am_ww 20 0 [.ref 0] [] E I J S _
  apply g20_0
  refine q_mkI ?_
  show am_ww 215 0 [.ref 99] [] E I J S _
  apply g215_0
  refine q_mkI ⟨fun _ => h _ _ _ (Or.inl rfl) ⟨fun k hk hk' => u_I_ne hk', fun f hf' => by rw [u_I_eq, upd_ne hf']⟩ ⟨d, vw_e (fun k hk => u_I_ne (by omega)) hvw⟩ Jq_id _ _ hd5 hd6, fun q => absurd hf.symm q⟩
theorem k_set {E : am_Ev} {I : Nat → Nat → Int32} {J : Nat → Nat → Int64} {S : Nat → Nat → Option Nat} {Q : am_Qt} {T d i : Nat} {x4 : Int32} {d5 d6 : Value} (hd5 : am_isL d5 = false) (hd6 : am_isL d6 = false) (hc : p_cl I) (hvw : vw I T d) (hx : x4 = nI i) (hi : i + 6 ≤ E.2.2.1) (hL : E.2.2.1 ≤ 3072) (h : Hq I J S E T x4 Q) : am_ww 291 159 [.ref 1000000, .ref 0, .ref 99, .ref 145, .int x4, d5, d6] [] E I J S Q := by
  apply g291_159 hd5 hd6
  refine L1 hx hi hL ?_
  generalize E.2.2.2 (i + 1) = x
  show am_ww 109 0 [.ref 0, .int x, .ref 145, am_U] [] E I J S _
  apply g109_0
  show am_ww 110 0 [.ref 0, .int x] [] E I J S _
  apply g110_0
  rcases rng x 4 (by omega) with ⟨c, hc4, rfl⟩ | hb
  · simp (disch := omega) only [Nat.reduceEqDiff, reduceIte, nI_mulI, nI_add, nI_clamp, nI_ltI, nI_leI, nI_eq, nI_e0, nI_n0, vt, forall_eq, true_and, and_true, true_implies, forall_const, not_true_eq_false, not_false_eq_true, false_implies, implies_true]
    refine ⟨fun _ => ?_, fun q => absurd (by omega) q⟩
    refine W_ok (y := 109) (q_mkI ⟨rfl, ?_⟩)
    show am_ww 231 0 [.ref 99, .int (nI c)] [] E I _ S _
    apply g231_0
    simp (disch := omega) only [Nat.reduceEqDiff, reduceIte, nI_mulI, nI_add, nI_clamp, nI_ltI, nI_leI, nI_eq, nI_e0, nI_n0, vt, forall_eq, true_and, and_true, true_implies, forall_const, not_true_eq_false, not_false_eq_true, false_implies, implies_true]
    refine ⟨fun q => absurd q (by omega), fun _ => ⟨fun q => absurd q (by omega), fun _ => ?_⟩⟩
    exact t_ok h rfl fb_id Jq_id hvw (hc.2.2.2 c hc4).symm
  · have fin : q_I (fun v1 E1 I1 J1 S1 => E1.2.2 = E.2.2 ∧ am_cl 231 [.ref 99, .int x] E1 I1 J1 S1 (q_I fun v2 E2 I2 J2 S2 => tl v1 v2 x4 E2 I2 J2 S2 Q)) (.inl (some (.int (nI 1)))) (Ex E) I J S := by
      refine q_mkI ⟨rfl, ?_⟩
      show am_ww 231 0 [.ref 99, .int x] [] (Ex E) I J S _
      apply g231_0
      have t := t_bad (v := nI 0) h rfl fb_id Jq_id hvw
      exact ⟨fun _ => t, fun c0 => ⟨fun _ => t, fun c1 => (ctr_le hb (by rw [nI_0] at c0; exact c0) (Int32.not_lt.mp c1) rfl (by omega)).elim⟩⟩
    exact ⟨fun _ => ⟨1, rfl, fin⟩, fun c0 => ⟨fun c1 => (ctr_le hb c0 c1 rfl (by omega)).elim, fun _ => ⟨1, rfl, fin⟩⟩⟩
theorem k_switched {E : am_Ev} {I : Nat → Nat → Int32} {J : Nat → Nat → Int64} {S : Nat → Nat → Option Nat} {Q : am_Qt} {T cu ac n d i : Nat} {x4 : Int32} {d5 d6 : Value} (hd5 : am_isL d5 = false) (hd6 : am_isL d6 = false) (hcr : CR I T cu ac n) (hvw : vw I T d) (hx : x4 = nI i) (hi : i + 6 ≤ E.2.2.1) (hL : E.2.2.1 ≤ 3072) (h : Hq I J S E T x4 Q) : am_ww 291 245 [.ref 1000000, .ref 0, .ref 99, .ref 145, .int x4, d5, d6] [] E I J S Q := by
  apply g291_245 hd5 hd6
  refine L2 hx hi hL ?_
  generalize E.2.2.2 (i + 1) = x
  generalize E.2.2.2 (i + 2) = y
  obtain ⟨h1, h2, h3, h4, h5, h6, h7, h8, h9, h10, h11, h12, h13, h14⟩ := hcr
  obtain ⟨⟨hT, hn⟩, _, _, h47, _, _⟩ := id h4
  rw [rt_k (by omega)] at h47
  show am_ww 111 0 [.ref 0, .int x, .int y, .ref 145, am_U] [] E I J S _
  apply g111_0
  show am_ww 112 0 [.ref 0, .int x, .int y] [] E I J S _
  apply g112_0
  rw [h5.1]
  -- the reference's side
  have bad : (x < 0 ∨ nI n ≤ x) ∨ (y < 0 ∨ nI 3 ≤ y) → q_I (fun v1 E1 I1 J1 S1 => E1.2.2 = E.2.2 ∧ am_cl 244 [.ref 99, .int x, .int y] E1 I1 J1 S1 (q_I fun v2 E2 I2 J2 S2 => tl v1 v2 x4 E2 I2 J2 S2 Q)) (.inl (some (.int (nI 1)))) (Ex E) I J S := by
    intro hb
    refine q_mkI ⟨rfl, ?_⟩
    show am_ww 244 0 [.ref 99, .int x, .int y] [] (Ex E) I J S _
    apply g244_0
    rw [h8.1]
    simp (disch := omega) only [Nat.reduceEqDiff, reduceIte, nI_mulI, nI_add, nI_clamp, nI_ltI, nI_leI, nI_eq, nI_e0, nI_n0, vt, forall_eq, true_and, and_true, true_implies, forall_const, not_true_eq_false, not_false_eq_true, false_implies, implies_true, h47]
    rw [nI_0]
    have t := t_bad (v := nI 0) h rfl fb_id Jq_id hvw
    rw [nI_0] at t
    refine ⟨fun _ => t, fun c0 => ⟨fun _ => t, fun c1 => ⟨fun _ => t, fun c2 => ⟨fun _ => t, fun c3 => ?_⟩⟩⟩⟩
    rw [sub1 c0 (by omega)] at c1
    rcases hb with hb | hb
    · exact (ctr hb c0 (Int32.not_le.mp c1)).elim
    · exact (ctr_le hb c2 (Int32.not_lt.mp c3) rfl (by omega)).elim
  rcases rng x n (by omega) with ⟨c, hc, rfl⟩ | hb
  · rcases rng y 3 (by omega) with ⟨e, he, rfl⟩ | hb
    · obtain ⟨s1, s2, s3⟩ := h5.2 c hc
      have ok : ∀ v, v = (if e = 0 then I 120 c else if e = 1 then I 121 c else I 122 c) → q_I (fun v1 E1 I1 J1 S1 => E1.2.2 = E.2.2 ∧ am_cl 244 [.ref 99, .int (nI c), .int (nI e)] E1 I1 J1 S1 (q_I fun v2 E2 I2 J2 S2 => tl v1 v2 x4 E2 I2 J2 S2 Q)) (.inl (some (.int (nI 0)))) E I (u_J J 145 (vp_updL (J 145) 0 v.toInt64)) S := by
        intro v ev
        refine q_mkI ⟨rfl, ?_⟩
        show am_ww 244 0 [.ref 99, .int (nI c), .int (nI e)] [] E I _ S _
        apply g244_0
        rw [h8.1]
        simp (disch := omega) only [Nat.reduceEqDiff, reduceIte, nI_mulI, nI_add, nI_clamp, nI_ltI, nI_leI, nI_eq, nI_e0, nI_n0, vt, forall_eq, true_and, and_true, true_implies, forall_const, not_true_eq_false, not_false_eq_true, false_implies, implies_true, h47]
        refine ⟨fun q => absurd q (by omega), fun _ => ⟨fun q => ?_, fun _ => ⟨fun q => absurd q (by omega), fun _ => ⟨fun q => absurd q (by omega), fun _ => ?_⟩⟩⟩⟩
        · rw [sub1 (nI_pos (by omega)) (by omega), nI_leI (by omega) (by omega)] at q
          omega
        · exact t_ok h rfl fb_id Jq_id hvw ev.symm
      simp (disch := omega) only [Nat.reduceEqDiff, reduceIte, nI_mulI, nI_add, nI_clamp, nI_ltI, nI_leI, nI_eq, nI_e0, nI_n0, vt, forall_eq, true_and, and_true, true_implies, forall_const, not_true_eq_false, not_false_eq_true, false_implies, implies_true]
      refine ⟨fun _ => ⟨fun c0 => W_ok (y := 111) (ok _ ?_), fun c1 => W_ok (y := 111) (ok _ ?_), fun c2 => W_ok (y := 111) (ok _ ?_), fun c0 c1 c2 => absurd c2 (by omega)⟩, fun q => absurd hc q⟩
      · rw [if_pos c0, s1]
      · rw [if_neg (by omega), if_pos c1, s2]
      · rw [if_neg (by omega), if_neg (by omega), s3]
    · refine ⟨fun q => absurd q (nI_pos (by omega)), fun _ => ⟨fun _ => ⟨fun q => ?_, fun q => ?_, fun q => ?_, fun _ _ _ => ⟨1, rfl, bad (Or.inr hb)⟩⟩, fun _ => ⟨1, rfl, bad (Or.inr hb)⟩⟩⟩
      · exact (ctr hb (by rw [q]; exact nI_pos (by omega)) (by rw [q]; exact nI_lt (by omega) (by omega))).elim
      · exact (ctr hb (by rw [q]; exact nI_pos (by omega)) (by rw [q]; exact nI_lt (by omega) (by omega))).elim
      · exact (ctr hb (by rw [q]; exact nI_pos (by omega)) (by rw [q]; exact nI_lt (by omega) (by omega))).elim
  · exact ⟨fun _ => ⟨1, rfl, bad (Or.inl hb)⟩, fun c0 => ⟨fun c1 => (ctr hb c0 c1).elim, fun _ => ⟨1, rfl, bad (Or.inl hb)⟩⟩⟩
