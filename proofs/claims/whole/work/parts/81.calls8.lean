/-! held, firstRead -/
theorem k_held {E : am_Ev} {I : Nat → Nat → Int32} {J : Nat → Nat → Int64} {S : Nat → Nat → Option Nat} {Q : am_Qt} {T cu ac n d i : Nat} {x4 : Int32} {d5 d6 : Value} (hd5 : am_isL d5 = false) (hd6 : am_isL d6 = false) (hcr : CR I T cu ac n) (hvw : vw I T d) (hx : x4 = nI i) (hi : i + 6 ≤ E.2.2.1) (hL : E.2.2.1 ≤ 3072) (h : Hq I J S E T x4 Q) : am_ww 291 697 [.ref 1000000, .ref 0, .ref 99, .ref 145, .int x4, d5, d6] [] E I J S Q := by
  apply g291_697 hd5 hd6
  refine L1 hx hi hL ?_
  generalize E.2.2.2 (i + 1) = x
  have hv := CR_vr0 hcr
  obtain ⟨h1, h2, h3, h4, h5, h6, h7, h8, h9, h10, h11, h12, h13, h14⟩ := id hcr
  have hT := h4.1.1
  have hcu := h9.2.2
  show am_ww 139 0 [.ref 0, .int x, .ref 145, am_U] [] E I J S _
  apply g139_0
  show am_ww 140 0 [.ref 0, .int x, am_U] [] E I J S _
  apply g140_0
  -- none was stored, or there is no such cell
  have none : am_ww 261 13 [.ref 99, .int x, am_U] [.int (-1)] (Ex E) (u_I I 99 (upd (I 99) 3 (nI 0))) J S (q_I fun v2 E2 I2 J2 S2 => tl (nI 1) v2 x4 E2 I2 J2 S2 Q) := by
    apply g261_13 rfl
    refine ⟨fun _ => ?_, fun q => absurd rfl q⟩
    rw [u_I_eq, uI_0]
    exact t_bad h rfl fb_id Jq_id hvw
  rcases rng x 16 (by omega) with ⟨c, hc, rfl⟩ | hb
  · refine c124g hc ⟨rfl, ?_⟩
    have hle := srB_le (isS I (nI c)) cu
    refine c137 hcr (fun z => q_mkI ?_) (fun z => q_mkI ?_)
    · refine ⟨fun _ => ⟨1, rfl, q_mkI ⟨rfl, ?_⟩⟩, fun q => absurd rfl q⟩
      show am_ww 261 0 [.ref 99, .int (nI c), am_U] [] (Ex E) I J S _
      apply g261_0
      refine ⟨fun _ => none, fun _ => ⟨fun _ => none, fun _ => ?_⟩⟩
      exact m259 hcr (ce_99 (by omega)) (fun _ => q_mkI none) (fun z' => absurd z (by omega))
    · refine ⟨fun q => absurd q (nI_nm (by omega)), fun _ => ?_⟩
      rw [nI_subI (by omega)]
      refine c52 hv hvw (by omega) (fun I' w' f' => q_mkR ⟨rfl, vp_in_nI hc (by omega), ?_⟩)
      rw [nI_clamp (by omega), w'.2.2.2.2.2.1 c hc]
      refine W_ok (y := 139) (q_mkI ⟨rfl, ?_⟩)
      show am_ww 261 0 [.ref 99, .int (nI c), am_U] [] E I' _ S _
      apply g261_0
      simp (disch := omega) only [Nat.reduceEqDiff, reduceIte, nI_mulI, nI_add, nI_clamp, nI_ltI, nI_leI, nI_eq, nI_e0, nI_n0, vt, forall_eq, true_and, and_true, true_implies, forall_const, not_true_eq_false, not_false_eq_true, false_implies, implies_true]
      refine ⟨fun q => absurd q (by omega), fun _ => ⟨fun q => absurd q (by omega), fun _ => ?_⟩⟩
      refine m259 hcr (ce_tr (ce_fb f' (by omega) (by omega)) (ce_99 (by omega))) (fun z' => absurd z (by omega)) (fun _ => q_mkI ?_)
      apply g261_13 rfl
      have e117 : u_I I' 99 (upd (I' 99) 3 (nI 0)) 117 = I' 117 := u_I_ne (by decide)
      have er : I' 117 (51 * (srB (isS I (nI c)) cu - 1) + c) = rt I' (srB (isS I (nI c)) cu - 1) c := (rt_k (by omega)).symm
      refine ⟨fun q => absurd q (nI_nm (by omega)), fun _ => ?_⟩
      rw [nI_subI (by omega)]
      simp (disch := omega) only [Nat.reduceEqDiff, reduceIte, nI_mulI, nI_add, nI_clamp, nI_ltI, nI_leI, nI_eq, nI_e0, nI_n0, vt, forall_eq, true_and, and_true, true_implies, forall_const, not_true_eq_false, not_false_eq_true, false_implies, implies_true, e117, er]
      exact t_ok h rfl f' Jq_id w' rfl
  · refine c124b hb ⟨1, rfl, q_mkI ⟨rfl, ?_⟩⟩
    show am_ww 261 0 [.ref 99, .int x, am_U] [] (Ex E) I J S _
    apply g261_0
    exact ⟨fun _ => none, fun c0 => ⟨fun _ => none, fun c1 => (ctr_le hb (by rw [nI_0] at c0; exact c0) (Int32.not_lt.mp c1) rfl (by omega)).elim⟩⟩
/-- the first step behind that reads the cell, unless it is stored into before: -1 -/
def fRd (I : Nat → Nat → Int32) (x : Int32) : Nat → Nat → Int32
  | 0, _ => -1
  | n + 1, s => if isLd I x s then nI s else if isS I x s then -1 else fRd I x n (s + 1)
theorem m262_l {E : am_Ev} {I : Nat → Nat → Int32} {J : Nat → Nat → Int64} {S : Nat → Nat → Option Nat} {Q : am_Qt} {T c : Nat} (hp : p_in I) (hc : p_cl I) (hT : T ≤ 400) (eT : I 99 12 = nI T) (hd : ∀ t, 1 ≤ t → t ≤ T → dn I t) : ∀ n s, s + n = T + 1 → 1 ≤ s → Q (.inl (some (.int (fRd I (nI c) n s)))) E I J S → am_ww 262 17 [.ref 99, .int (nI c), .int (nI s)] [] E I J S Q := by
  intro n
  induction n with
  | zero =>
    intro s es _ h
    apply g262_17
    rw [eT]
    simp (disch := omega) only [Nat.reduceEqDiff, reduceIte, nI_mulI, nI_add, nI_clamp, nI_ltI, nI_leI, nI_eq, nI_e0, nI_n0, vt, forall_eq, true_and, and_true, true_implies, forall_const, not_true_eq_false, not_false_eq_true, false_implies, implies_true]
    exact ⟨fun _ => h, fun q => absurd (by omega) q⟩
  | succ n ih =>
    intro s es s1 h
    obtain ⟨C, p, m, r1, r2, r3, r4, r5, r6, r7, r8⟩ := dn_row hp hc (hd s (by omega) (by omega))
    obtain ⟨o, g1, g2, g3, g4, g5, g6, g7, g8⟩ := id r7
    have ef : isS I (nI c) s = (decide (o = 2) && decide (I 107 (16 * C + p) = nI c)) := by
      unfold isS
      rw [r2, nI_clamp (by omega), g2]
      simp (disch := omega) only [nI_eq]
    have el : isLd I (nI c) s = (decide (o = 1) && decide (I 108 (16 * C + p) = nI c)) := by
      unfold isLd
      rw [r2, nI_clamp (by omega), g2]
      simp (disch := omega) only [nI_eq]
    unfold fRd at h
    rw [ef, el] at h
    apply g262_17
    rw [eT]
    simp (disch := omega) only [Nat.reduceEqDiff, reduceIte, nI_mulI, nI_add, nI_clamp, nI_ltI, nI_leI, nI_eq, nI_e0, nI_n0, vt, forall_eq, true_and, and_true, true_implies, forall_const, not_true_eq_false, not_false_eq_true, false_implies, implies_true, r2, g2]
    refine ⟨fun q => absurd q (by omega), fun _ => ⟨fun c1 => ⟨fun c2 => ?_, fun c2 => ⟨fun c3 => absurd c3 (by omega), fun c3 => ?_⟩⟩, fun c1 => ⟨fun c2 => ⟨fun c3 => ?_, fun c3 => ?_⟩, fun c2 => ?_⟩⟩⟩
    · rw [decide_eq_true c1, decide_eq_true c2] at h
      exact h
    · rw [decide_eq_false c2, decide_eq_false c3, Bool.and_false, Bool.false_and, if_neg Bool.false_ne_true, if_neg Bool.false_ne_true] at h
      exact ih (s + 1) (by omega) (by omega) h
    · rw [decide_eq_false c1, decide_eq_true c2, decide_eq_true c3, Bool.false_and, if_neg Bool.false_ne_true] at h
      exact h
    · rw [decide_eq_false c1, decide_eq_false c3, Bool.false_and, Bool.and_false, if_neg Bool.false_ne_true, if_neg Bool.false_ne_true] at h
      exact ih (s + 1) (by omega) (by omega) h
    · rw [decide_eq_false c1, decide_eq_false c2, Bool.false_and, Bool.false_and, if_neg Bool.false_ne_true, if_neg Bool.false_ne_true] at h
      exact ih (s + 1) (by omega) (by omega) h
theorem c142_l {E : am_Ev} {I : Nat → Nat → Int32} {J : Nat → Nat → Int64} {S : Nat → Nat → Option Nat} {Q : am_Qt} {T c : Nat} (hc16 : c < 16) (hp : p_in I) (hc : p_cl I) (hT : T ≤ 400) (eT : I 18 10 = nI T) (hd : ∀ t, 1 ≤ t → t ≤ T → dn I t) : ∀ n s (v : Value), am_isL v = false → s + n = T + 1 → 1 ≤ s → Q (.inl (some (.int (fRd I (nI c) n s)))) E I J S → am_ww 142 9 [.ref 0, .int (nI c), .int (nI s), v] [] E I J S Q := by
  intro n
  induction n with
  | zero =>
    intro s v hv es _ h
    apply g142_9 hv
    rw [eT]
    simp (disch := omega) only [Nat.reduceEqDiff, reduceIte, nI_mulI, nI_add, nI_clamp, nI_ltI, nI_leI, nI_eq, nI_e0, nI_n0, vt, forall_eq, true_and, and_true, true_implies, forall_const, not_true_eq_false, not_false_eq_true, false_implies, implies_true]
    exact ⟨fun _ => h, fun q => absurd (by omega) q⟩
  | succ n ih =>
    intro s v hv es s1 h
    obtain ⟨C, p, m, r1, r2, r3, r4, r5, r6, r7, r8⟩ := dn_row hp hc (hd s (by omega) (by omega))
    obtain ⟨o, g1, g2, g3, g4, g5, g6, g7, g8⟩ := id r7
    have ef : isS I (nI c) s = (decide (o = 2) && decide (I 107 (16 * C + p) = nI c)) := by
      unfold isS
      rw [r2, nI_clamp (by omega), g2]
      simp (disch := omega) only [nI_eq]
    have el : isLd I (nI c) s = (decide (o = 1) && decide (I 108 (16 * C + p) = nI c)) := by
      unfold isLd
      rw [r2, nI_clamp (by omega), g2]
      simp (disch := omega) only [nI_eq]
    have ec : ct I (16 * C + p) = (if o = 1 then I 108 (16 * C + p) else if o = 2 then I 107 (16 * C + p) else -1) := by
      unfold ct
      rw [g2]
      simp (disch := omega) only [nI_eq]
    unfold fRd at h
    rw [ef, el] at h
    apply g142_9 hv
    rw [eT]
    simp (disch := omega) only [Nat.reduceEqDiff, reduceIte, nI_mulI, nI_add, nI_clamp, nI_ltI, nI_leI, nI_eq, nI_e0, nI_n0, vt, forall_eq, true_and, and_true, true_implies, forall_const, not_true_eq_false, not_false_eq_true, false_implies, implies_true, r1]
    refine ⟨fun q => absurd q (by omega), fun _ => ?_⟩
    refine c138 (by omega) r6 r7 (q_mkI ?_)
    rw [ec, g3]
    simp (disch := omega) only [Nat.reduceEqDiff, reduceIte, nI_mulI, nI_add, nI_clamp, nI_ltI, nI_leI, nI_eq, nI_e0, nI_n0, vt, forall_eq, true_and, and_true, true_implies, forall_const, not_true_eq_false, not_false_eq_true, false_implies, implies_true]
    by_cases c1 : o = 1
    · rw [if_pos c1]
      rw [decide_eq_true c1, decide_eq_false (show ¬ o = 2 by omega), Bool.true_and, Bool.false_and] at h
      refine ⟨fun c2 => ?_, fun c2 => ?_⟩
      · rw [decide_eq_true c2] at h
        rw [if_pos c1]
        exact h
      · rw [decide_eq_false c2, if_neg Bool.false_ne_true, if_neg Bool.false_ne_true] at h
        exact ih (s + 1) _ rfl (by omega) (by omega) h
    · rw [if_neg c1]
      rw [decide_eq_false c1, Bool.false_and, if_neg Bool.false_ne_true] at h
      by_cases c2 : o = 2
      · rw [if_pos c2]
        rw [decide_eq_true c2, Bool.true_and] at h
        refine ⟨fun c3 => ?_, fun c3 => ?_⟩
        · rw [decide_eq_true c3] at h
          rw [if_neg c1]
          exact h
        · rw [decide_eq_false c3, if_neg Bool.false_ne_true] at h
          exact ih (s + 1) _ rfl (by omega) (by omega) h
      · rw [if_neg c2]
        rw [decide_eq_false c2, Bool.false_and, if_neg Bool.false_ne_true] at h
        exact ⟨fun q => absurd q (m1_0 (by omega)), fun _ => ih (s + 1) _ rfl (by omega) (by omega) h⟩
theorem k_firstRead {E : am_Ev} {I : Nat → Nat → Int32} {J : Nat → Nat → Int64} {S : Nat → Nat → Option Nat} {Q : am_Qt} {T cu ac n d i : Nat} {x4 : Int32} {d5 d6 : Value} (hd5 : am_isL d5 = false) (hd6 : am_isL d6 = false) (hcr : CR I T cu ac n) (hvw : vw I T d) (hx : x4 = nI i) (hi : i + 6 ≤ E.2.2.1) (hL : E.2.2.1 ≤ 3072) (h : Hq I J S E T x4 Q) : am_ww 291 732 [.ref 1000000, .ref 0, .ref 99, .ref 145, .int x4, d5, d6] [] E I J S Q := by
  apply g291_732 hd5 hd6
  refine L1 hx hi hL ?_
  generalize E.2.2.2 (i + 1) = x
  obtain ⟨h1, h2, h3, h4, h5, h6, h7, h8, h9, h10, h11, h12, h13, h14⟩ := id hcr
  have hT := h4.1.1
  have hcu := h9.2.2
  show am_ww 141 0 [.ref 0, .int x, .ref 145, am_U] [] E I J S _
  apply g141_0
  show am_ww 142 0 [.ref 0, .int x, am_U, am_U] [] E I J S _
  apply g142_0
  rcases rng x 16 (by omega) with ⟨c, hc, rfl⟩ | hb
  · refine c124g hc ⟨rfl, ?_⟩
    rw [h9.2.1, nI_add]
    refine c142_l hc h1 h2 hT h8.2 h11 (T - cu) (cu + 1) _ rfl (by omega) (by omega) ?_
    refine W_ok (y := 141) (q_mkI ⟨rfl, ?_⟩)
    show am_ww 262 0 [.ref 99, .int (nI c), am_U] [] E I _ S _
    apply g262_0
    rw [h9.1]
    simp (disch := omega) only [Nat.reduceEqDiff, reduceIte, nI_mulI, nI_add, nI_clamp, nI_ltI, nI_leI, nI_eq, nI_e0, nI_n0, vt, forall_eq, true_and, and_true, true_implies, forall_const, not_true_eq_false, not_false_eq_true, false_implies, implies_true]
    refine ⟨fun q => absurd q (by omega), fun _ => ⟨fun q => absurd q (by omega), fun _ => ?_⟩⟩
    have hce : ce I (u_I I 99 (upd (I 99) 3 (nI 0))) := ce_99 (by omega)
    obtain ⟨b1, b2, b3, b4, b5, b6, b7, b8, b9, b10, b11, b12, b13, b14⟩ := CR_e hce hcr
    refine m262_l b1 b2 hT b8.1 b11 (T - cu) (cu + 1) (by omega) (by omega) ?_
    have ee : ∀ n s, fRd (u_I I 99 (upd (I 99) 3 (nI 0))) (nI c) n s = fRd I (nI c) n s := by
      intro n
      induction n with
      | zero => intro s; rfl
      | succ n ih =>
        intro s
        unfold fRd isLd isS
        rw [ih, u_I_ne (by decide), u_I_ne (by decide), u_I_ne (by decide), u_I_ne (by decide)]
    rw [ee]
    exact t_ok h rfl fb_id Jq_id hvw rfl
  · refine c124b hb ⟨1, rfl, q_mkI ⟨rfl, ?_⟩⟩
    show am_ww 262 0 [.ref 99, .int x, am_U] [] (Ex E) I J S _
    apply g262_0
    have t := t_bad (v := nI 0) h rfl fb_id Jq_id hvw
    exact ⟨fun _ => t, fun c0 => ⟨fun _ => t, fun c1 => (ctr_le hb (by rw [nI_0] at c0; exact c0) (Int32.not_lt.mp c1) rfl (by omega)).elim⟩⟩
