/-! last, held -/
/-- the class's test of a cell -/
theorem c124b {E : am_Ev} {I : Nat → Nat → Int32} {J : Nat → Nat → Int64} {S : Nat → Nat → Option Nat} {Q : am_Qt} {x : Int32} (hb : x < 0 ∨ nI 16 ≤ x) (h : Q (.inr 0) (Ex E) I J S) : am_cl 124 [.ref 0, .int x] E I J S Q := by
  show am_ww 124 0 [.ref 0, .int x] [] E I J S Q
  apply g124_0
  exact ⟨fun _ => h, fun c0 => ⟨fun c1 => (ctr hb c0 c1).elim, fun _ => h⟩⟩
theorem c124g {E : am_Ev} {I : Nat → Nat → Int32} {J : Nat → Nat → Int64} {S : Nat → Nat → Option Nat} {Q : am_Qt} {c : Nat} (hc : c < 16) (h : Q (.inl none) E I J S) : am_cl 124 [.ref 0, .int (nI c)] E I J S Q := by
  show am_ww 124 0 [.ref 0, .int (nI c)] [] E I J S Q
  apply g124_0
  exact ⟨fun q => absurd q (nI_pos (by omega)), fun _ => ⟨fun _ => h, fun q => absurd (nI_lt hc (by omega)) q⟩⟩
theorem k_last {E : am_Ev} {I : Nat → Nat → Int32} {J : Nat → Nat → Int64} {S : Nat → Nat → Option Nat} {Q : am_Qt} {T cu ac n d i : Nat} {x4 : Int32} {d5 d6 : Value} (hd5 : am_isL d5 = false) (hd6 : am_isL d6 = false) (hcr : CR I T cu ac n) (hvw : vw I T d) (hx : x4 = nI i) (hi : i + 6 ≤ E.2.2.1) (hL : E.2.2.1 ≤ 3072) (h : Hq I J S E T x4 Q) : am_ww 291 652 [.ref 1000000, .ref 0, .ref 99, .ref 145, .int x4, d5, d6] [] E I J S Q := by
  apply g291_652 hd5 hd6
  refine L2 hx hi hL ?_
  generalize E.2.2.2 (i + 1) = x
  generalize E.2.2.2 (i + 2) = y
  obtain ⟨h1, h2, h3, h4, h5, h6, h7, h8, h9, h10, h11, h12, h13, h14⟩ := id hcr
  have hT := h4.1.1
  have hcu := h9.2.2
  show am_ww 135 0 [.ref 0, .int x, .int y, .ref 145, am_U] [] E I J S _
  apply g135_0
  show am_ww 136 0 [.ref 0, .int x, .int y, am_U] [] E I J S _
  apply g136_0
  have badR : (x < 0 ∨ nI 16 ≤ x) ∨ (y < 0 ∨ nI 3 ≤ y) → q_I (fun v1 E1 I1 J1 S1 => E1.2.2 = E.2.2 ∧ am_cl 258 [.ref 99, .int x, .int y] E1 I1 J1 S1 (q_I fun v2 E2 I2 J2 S2 => tl v1 v2 x4 E2 I2 J2 S2 Q)) (.inl (some (.int (nI 1)))) (Ex E) I J S := by
    intro hb
    refine q_mkI ⟨rfl, ?_⟩
    show am_ww 258 0 [.ref 99, .int x, .int y, am_U] [] (Ex E) I J S _
    apply g258_0
    have t := t_bad (v := nI 0) h rfl fb_id Jq_id hvw
    refine ⟨fun _ => t, fun c0 => ⟨fun _ => t, fun c1 => ⟨fun _ => t, fun c2 => ⟨fun _ => t, fun c3 => ?_⟩⟩⟩⟩
    rw [nI_0] at c0 c2
    rcases hb with hb | hb
    · exact (ctr_le hb c0 (Int32.not_lt.mp c1) rfl (by omega)).elim
    · exact (ctr_le hb c2 (Int32.not_lt.mp c3) rfl (by omega)).elim
  rcases rng x 16 (by omega) with ⟨c, hc, rfl⟩ | hb
  · refine c124g hc ⟨rfl, ?_⟩
    rcases rng y 3 (by omega) with ⟨e, he, rfl⟩ | hb
    · have ok : ∀ v, v = (if srB (isS I (nI c)) cu = 0 then -1 else if e = 0 then nI (srB (isS I (nI c)) cu) else if e = 1 then I 118 (srB (isS I (nI c)) cu) else I 119 (srB (isS I (nI c)) cu) - I 119 (srB (isS I (nI c)) cu) / nI 16 * nI 16) → q_I (fun v1 E1 I1 J1 S1 => E1.2.2 = E.2.2 ∧ am_cl 258 [.ref 99, .int (nI c), .int (nI e)] E1 I1 J1 S1 (q_I fun v2 E2 I2 J2 S2 => tl v1 v2 x4 E2 I2 J2 S2 Q)) (.inl (some (.int (nI 0)))) E I (u_J J 145 (vp_updL (J 145) 0 v.toInt64)) S := by
        intro v ev
        refine q_mkI ⟨rfl, ?_⟩
        show am_ww 258 0 [.ref 99, .int (nI c), .int (nI e), am_U] [] E I _ S _
        apply g258_0
        simp (disch := omega) only [Nat.reduceEqDiff, reduceIte, nI_mulI, nI_add, nI_clamp, nI_ltI, nI_leI, nI_eq, nI_e0, nI_n0, vt, forall_eq, true_and, and_true, true_implies, forall_const, not_true_eq_false, not_false_eq_true, false_implies, implies_true]
        refine ⟨fun q => absurd q (by omega), fun _ => ⟨fun q => absurd q (by omega), fun _ => ⟨fun q => absurd q (by omega), fun _ => ⟨fun q => absurd q (by omega), fun _ => ?_⟩⟩⟩⟩
        have hle := srB_le (isS I (nI c)) cu
        refine m259 hcr (ce_99 (by omega)) (fun z => q_mkI ?_) (fun z => q_mkI ?_)
        · rw [if_pos z] at ev
          refine ⟨fun q => absurd rfl q, ?_⟩
          exact t_ok h rfl fb_id Jq_id hvw (by rw [if_pos rfl]; exact ev.symm)
        · rw [if_neg (by omega)] at ev
          have hv4 : vp_in (nI (srB (isS I (nI c)) cu)) 401 := vp_in_nI (by omega) (by omega)
          refine ⟨fun _ _ => ⟨fun _ => hv4, fun _ => hv4⟩, ?_⟩
          refine t_ok h rfl fb_id Jq_id hvw ?_
          rw [if_neg (nI_nm (by omega)), nI_clamp (by omega), u_I_ne (by decide), u_I_ne (by decide)]
          exact ev.symm
      simp (disch := omega) only [Nat.reduceEqDiff, reduceIte, nI_mulI, nI_add, nI_clamp, nI_ltI, nI_leI, nI_eq, nI_e0, nI_n0, vt, forall_eq, true_and, and_true, true_implies, forall_const, not_true_eq_false, not_false_eq_true, false_implies, implies_true]
      refine ⟨fun _ => ?_, fun q => absurd (by omega) q⟩
      have hle := srB_le (isS I (nI c)) cu
      refine c137 hcr (fun z => q_mkI ?_) (fun z => q_mkI ?_)
      · exact ⟨fun _ => W_ok (y := 135) (ok _ (by rw [if_pos z])), fun q => absurd rfl q⟩
      · refine ⟨fun q => absurd q (nI_nm (by omega)), fun _ => ⟨fun e0 => W_ok (y := 135) (ok _ (by rw [if_neg (by omega), if_pos e0])), fun e0 => ?_⟩⟩
        have hv4 : vp_in (nI (srB (isS I (nI c)) cu)) 401 := vp_in_nI (by omega) (by omega)
        refine ⟨⟨fun _ => hv4, fun _ => hv4⟩, ?_⟩
        obtain ⟨C, p, m, r1, r2, r3, r4, r5, r6, r7, r8⟩ := dn_row h1 h2 (h11 (srB (isS I (nI c)) cu) (by omega) (by omega))
        rw [nI_clamp (by omega), r1]
        refine W_ok (y := 135) (ok _ ?_)
        rw [if_neg (show ¬ srB (isS I (nI c)) cu = 0 by omega), if_neg e0, r2, r3]
        by_cases e1 : e = 1
        · rw [if_pos e1, if_pos e1, nI_divI (by omega) (by omega), show (16 * C + p) / 16 = C by omega]
        · rw [if_neg e1, if_neg e1]
    · exact ⟨fun _ => ⟨1, rfl, badR (Or.inr hb)⟩, fun c0 => ⟨fun c1 => (ctr_le hb c0 c1 rfl (by omega)).elim, fun _ => ⟨1, rfl, badR (Or.inr hb)⟩⟩⟩
  · exact c124b hb ⟨1, rfl, badR (Or.inl hb)⟩
