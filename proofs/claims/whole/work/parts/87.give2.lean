/-! give -/
/-- what give changes besides -/
def givf (I I' : Nat → Nat → Int32) : Prop := fr I I' [18, 27, 28, 34, 35, 36, 37, 38, 99, 110, 123, 124, 126, 127] ∧ (∀ f, f ≠ 3 → f ≠ 43 → I' 99 f = I 99 f) ∧ (∀ f, f ≠ 13 → I' 18 f = I 18 f)
theorem k_give {E : am_Ev} {I : Nat → Nat → Int32} {J : Nat → Nat → Int64} {S : Nat → Nat → Option Nat} {Q : am_Qt} {T cu ac n d i : Nat} {x4 : Int32} {d5 d6 : Value} (hd5 : am_isL d5 = false) (hd6 : am_isL d6 = false) (hcr : CR I T cu ac n) (hvw : vw I T d) (hx : x4 = nI i) (hi : i + 6 ≤ E.2.2.1) (hL : E.2.2.1 ≤ 3072) (h : ∀ I' ac', CR I' T cu ac' n → vw I' T d → givf I I' → am_ww 291 1129 [.ref 1000000, .ref 0, .ref 99, .ref 145, .int x4, d5, d6] [] E I' J S Q) : am_ww 291 211 [.ref 1000000, .ref 0, .ref 99, .ref 145, .int x4, d5, d6] [] E I J S Q := by
  apply g291_211 hd5 hd6
  subst hx
  simp (disch := omega) only [Nat.reduceEqDiff, reduceIte, nI_mulI, nI_add, nI_clamp, nI_ltI, nI_leI, nI_eq, nI_e0, nI_n0, vt, forall_eq, true_and, and_true, true_implies, forall_const, not_true_eq_false, not_false_eq_true, false_implies, implies_true]
  obtain ⟨h1, h2, h3, h4, h5, h6, h7, h8, h9, h10, h11, h12, h13, h14⟩ := id hcr
  obtain ⟨a1, a2, a3, a4⟩ := h13
  have hT := h4.1.1
  have hpre : vp_in (nI (i + 1)) E.2.2.1 := vp_in_nI (by omega) (by omega)
  have hpre2 : vp_in (nI (i + 2)) E.2.2.1 := vp_in_nI (by omega) (by omega)
  -- refused
  have refu : ((E.2.2.2 (i + 1)) < 0 ∨ nI 3 ≤ (E.2.2.2 (i + 1))) ∨ (∃ s, s < 3 ∧ E.2.2.2 (i + 1) = nI s ∧ I 124 s = nI 30) → am_cl 242 [.ref 99, .int (E.2.2.2 (i + 1)), .int (E.2.2.2 (i + 2))] E (u_I I 18 (upd (I 18) 13 (I 18 13 + nI 1))) J S (q_I fun v2 E2 I2 J2 S2 => ((-1 : Int32) = v2 → (am_ww 291 1129 [.ref 1000000, .ref 0, .ref 99, .ref 145, .int (nI i), d5, d6] [] E2 I2 J2 S2 Q)) ∧ (¬ (-1 : Int32) = v2 → (Q (.inl (some (.int (nI 0)))) E2 I2 J2 S2))) := by
    intro hb
    show am_ww 242 0 [.ref 99, .int (E.2.2.2 (i + 1)), .int (E.2.2.2 (i + 2))] [] E (u_I I 18 (upd (I 18) 13 (I 18 13 + nI 1))) J S _
    apply g242_0
    have e110 : u_I I 18 (upd (I 18) 13 (I 18 13 + nI 1)) 110 = I 110 := u_I_ne (by decide)
    have e99 : u_I I 18 (upd (I 18) 13 (I 18 13 + nI 1)) 99 = I 99 := u_I_ne (by decide)
    have e124 : u_I I 18 (upd (I 18) 13 (I 18 13 + nI 1)) 124 = I 124 := u_I_ne (by decide)
    rw [e110, e99, e124]
    have t : q_I (fun v2 E2 I2 J2 S2 => ((-1 : Int32) = v2 → (am_ww 291 1129 [.ref 1000000, .ref 0, .ref 99, .ref 145, .int (nI i), d5, d6] [] E2 I2 J2 S2 Q)) ∧ (¬ (-1 : Int32) = v2 → (Q (.inl (some (.int (nI 0)))) E2 I2 J2 S2))) (.inl (some (.int (-1)))) E (u_I (u_I (u_I I 18 (upd (I 18) 13 (I 18 13 + nI 1))) 99 (upd (I 99) 3 (nI 0))) 110 (upd (I 110) 1 (I 110 1 + nI 1))) J S := by
      refine q_mkI ⟨fun _ => h _ ac (CR_ref hcr ?_ ?_ ?_ ?_ ?_ ?_) (vw_e (fun k hk => by rw [u_I_ne (by omega), u_I_ne (by omega), u_I_ne (by omega)]) hvw) ⟨?_, ?_, ?_⟩, fun q => absurd rfl q⟩
      · rw [u_I_ne (by decide), u_I_ne (by decide), u_I_eq]
      · rw [u_I_eq]
      · rw [u_I_ne (by decide), u_I_eq, upd_ne (by omega)]
      · rw [u_I_ne (by decide), u_I_eq, upd_ne (by omega)]
      · rw [u_I_ne (by decide), u_I_eq, upd_ne (by omega)]
      · intro j hj
        rw [u_I_ne (by omega), u_I_ne (by omega), u_I_ne (by omega)]
      · exact fr_le (fr_up (fr_up fr_u)) (by simp)
      · intro f f3 _
        rw [u_I_ne (by decide), u_I_eq, upd_ne f3]
      · intro f f13
        rw [u_I_ne (by decide), u_I_ne (by decide), u_I_eq, upd_ne f13]
    refine ⟨fun _ => t, fun c0 => ⟨fun _ => t, fun c1 => ?_⟩⟩
    rw [nI_0] at c0
    rcases hb with hb | ⟨s, hs, es, e30⟩
    · exact (ctr_le hb c0 (Int32.not_lt.mp c1) rfl (by omega)).elim
    · rw [es]
      refine ⟨vp_in_nI hs (by omega), fun _ => t, fun q => absurd ?_ q⟩
      rw [nI_clamp (by omega)]
      exact e30
  show am_ww 42 0 [.ref 0, .int (E.2.2.2 (i + 1)), .int (E.2.2.2 (i + 2))] [] E I J S _
  apply g42_0
  rcases rng (E.2.2.2 (i + 1)) 3 (by omega) with ⟨s, hs, es⟩ | hb
  · obtain ⟨b1, b2, b3⟩ := h6 s hs
    obtain ⟨m, hm, em⟩ := vn b2
    rw [em] at b1
    rw [es] at refu ⊢
    simp (disch := omega) only [Nat.reduceEqDiff, reduceIte, nI_mulI, nI_add, nI_clamp, nI_ltI, nI_leI, nI_eq, nI_e0, nI_n0, vt, forall_eq, true_and, and_true, true_implies, forall_const, not_true_eq_false, not_false_eq_true, false_implies, implies_true, b1]
    refine ⟨fun q => absurd q (by omega), fun _ => ⟨fun c30 => ?_, fun c30 => ?_⟩⟩
    · refine c27 a2 a3 (fun I1 k off hk k35 k36 k37 k38 e34 f1 => q_mkV ?_)
      have e28 : I1 28 = I 28 := f1 28 (by simp)
      have e27 : I1 27 = I 27 := f1 27 (by simp)
      rw [e28, e27, b1]
      simp (disch := omega) only [Nat.reduceEqDiff, reduceIte, nI_mulI, nI_add, nI_clamp, nI_ltI, nI_leI, nI_eq, nI_e0, nI_n0, vt, forall_eq, true_and, and_true, true_implies, forall_const, not_true_eq_false, not_false_eq_true, false_implies, implies_true]
      refine q_mkI ⟨hpre, hpre2, ?_⟩
      rw [es, upd_eq]
      have g1 : fr I (u_I (u_I I1 27 (upd (I 27) (s * 30 + m) (E.2.2.2 (i + 2)))) 28 (upd (I 28) s (nI (m + 1)))) [28, 27, 34, 35, 36, 37, 38] := fr_up (fr_up f1)
      have g27 : u_I (u_I I1 27 (upd (I 27) (s * 30 + m) (E.2.2.2 (i + 2)))) 28 (upd (I 28) s (nI (m + 1))) 27 = upd (I 27) (s * 30 + m) (E.2.2.2 (i + 2)) := by rw [u_I_ne (by decide), u_I_eq]
      have g28 : u_I (u_I I1 27 (upd (I 27) (s * 30 + m) (E.2.2.2 (i + 2)))) 28 (upd (I 28) s (nI (m + 1))) 28 = upd (I 28) s (nI (m + 1)) := u_I_eq
      have ga : ∀ j, j ≠ 27 → j ≠ 28 → u_I (u_I I1 27 (upd (I 27) (s * 30 + m) (E.2.2.2 (i + 2)))) 28 (upd (I 28) s (nI (m + 1))) j = I1 j := fun j p q => by rw [u_I_ne q, u_I_ne p]
      generalize u_I (u_I I1 27 (upd (I 27) (s * 30 + m) (E.2.2.2 (i + 2)))) 28 (upd (I 28) s (nI (m + 1))) = I2 at g1 g27 g28 ga ⊢
      have e99 : I2 99 = I 99 := g1 99 (by simp)
      have e124 : I2 124 = I 124 := g1 124 (by simp)
      have e123 : I2 123 = I 123 := g1 123 (by simp)
      have e110 : I2 110 = I 110 := g1 110 (by simp)
      show am_ww 242 0 [.ref 99, .int (nI s), .int (E.2.2.2 (i + 2))] [] E I2 J S _
      apply g242_0
      rw [e124, e110, e99]
      simp (disch := omega) only [Nat.reduceEqDiff, reduceIte, nI_mulI, nI_add, nI_clamp, nI_ltI, nI_leI, nI_eq, nI_e0, nI_n0, vt, forall_eq, true_and, and_true, true_implies, forall_const, not_true_eq_false, not_false_eq_true, false_implies, implies_true, em]
      refine ⟨fun q => absurd q (by omega), fun _ => ⟨fun q => absurd q (by omega), fun _ => ⟨fun q => absurd q (by omega), fun _ => ?_⟩⟩⟩
      have z43 : u_I I2 99 (upd (I 99) 3 (nI 0)) 99 43 = nI ac := by rw [u_I_eq, upd_ne (by omega)]; exact a1
      refine m235 z43 a3 (fun I3 k' off' hk' k126 k127 e99' f3 => q_mkV ?_)
      have ekk : k' = k ∧ off' = off := by omega
      obtain ⟨rfl, rfl⟩ := ekk
      have z124 : I3 124 = I 124 := by rw [f3 124 (by simp), u_I_ne (by decide), e124]
      have z123 : I3 123 = I 123 := by rw [f3 123 (by simp), u_I_ne (by decide), e123]
      have z12 : u_I I2 99 (upd (I 99) 3 (nI 0)) 99 12 = nI T := by rw [u_I_eq, upd_ne (by omega)]; exact h8.1
      rw [z12] at k127
      rw [u_I_ne (by decide), ga 126 (by decide) (by decide), f1 126 (by simp)] at k126
      rw [u_I_ne (by decide), ga 127 (by decide) (by decide), f1 127 (by simp)] at k127
      rw [h8.2] at k36
      have oth : ∀ j, j ≠ 99 → j ≠ 126 → j ≠ 127 → j ≠ 123 → j ≠ 124 → u_I (u_I I3 123 (upd (I 123) (30 * s + m) (E.2.2.2 (i + 2)))) 124 (upd (I 124) s (nI (m + 1))) j = I2 j := fun j p1 p2 p3 p4 p5 => by rw [u_I_ne p5, u_I_ne p4, f3 j (by simp; omega), u_I_ne p1]
      have o99 : u_I (u_I I3 123 (upd (I 123) (30 * s + m) (E.2.2.2 (i + 2)))) 124 (upd (I 124) s (nI (m + 1))) 99 = upd (upd (I 99) 3 (nI 0)) 43 (nI (k' + 1)) := by rw [u_I_ne (by decide), u_I_ne (by decide), e99', u_I_eq]
      rw [z124, z123]
      simp (disch := omega) only [Nat.reduceEqDiff, reduceIte, nI_mulI, nI_add, nI_clamp, nI_ltI, nI_leI, nI_eq, nI_e0, nI_n0, vt, forall_eq, true_and, and_true, true_implies, forall_const, not_true_eq_false, not_false_eq_true, false_implies, implies_true, em]
      refine q_mkI ⟨fun _ => h _ (k' + 1) (CR_give (v := E.2.2.2 (i + 2)) (off := off') hcr hs em (by omega) hk ?_ ?_ ?_ ?_ ?_ ?_ ?_ ?_ ?_ ?_ ?_ ?_ ?_ ?_ ?_) ?_ ⟨?_, ?_, ?_⟩, fun q => absurd (by rw [upd_eq]) q⟩
      · rw [oth 35 (by decide) (by decide) (by decide) (by decide) (by decide), ga 35 (by decide) (by decide)]; exact k35
      · rw [oth 36 (by decide) (by decide) (by decide) (by decide) (by decide), ga 36 (by decide) (by decide)]; exact k36
      · rw [oth 37 (by decide) (by decide) (by decide) (by decide) (by decide), ga 37 (by decide) (by decide)]; exact k37.1
      · rw [oth 38 (by decide) (by decide) (by decide) (by decide) (by decide), ga 38 (by decide) (by decide)]; exact k38.1
      · rw [u_I_ne (by decide), u_I_ne (by decide)]; exact k126
      · rw [u_I_ne (by decide), u_I_ne (by decide)]; exact k127
      · rw [oth 34 (by decide) (by decide) (by decide) (by decide) (by decide), ga 34 (by decide) (by decide), e34, upd_eq]
      · rw [o99, upd_eq]
      · rw [o99, upd_ne (by omega), upd_ne (by omega)]
      · rw [o99, upd_ne (by omega), upd_ne (by omega)]
      · rw [oth 27 (by decide) (by decide) (by decide) (by decide) (by decide), g27]
      · rw [oth 28 (by decide) (by decide) (by decide) (by decide) (by decide), g28]
      · rw [u_I_ne (by decide), u_I_eq]
      · rw [u_I_eq]
      · intro j hj
        rw [oth j (by omega) (by omega) (by omega) (by omega) (by omega), g1 j (by simp; omega)]
      · refine vw_e (fun j hj => ?_) hvw
        rw [oth j (by omega) (by omega) (by omega) (by omega) (by omega), g1 j (by simp; omega)]
      · intro j hj
        simp only [List.mem_cons, List.not_mem_nil, or_false, not_or] at hj
        rw [oth j (by omega) (by omega) (by omega) (by omega) (by omega), g1 j (by simp; omega)]
      · intro f f3' f43
        rw [o99, upd_ne f43, upd_ne f3']
      · intro f f13
        rw [oth 18 (by decide) (by decide) (by decide) (by decide) (by decide), g1 18 (by simp)]
    · refine q_mkI ⟨hpre, hpre2, ?_⟩
      rw [es]
      exact refu (Or.inr ⟨s, hs, rfl, by rw [em, show m = 30 by omega]⟩)
  · have t := q_mkI (E := E) (I := u_I I 18 (upd (I 18) 13 (I 18 13 + nI 1))) (J := J) (S := S) (v := (-1 : Int32)) (K := fun v1 E1 I1 J1 S1 => vp_in (nI (i + 1)) E1.2.2.1 ∧ vp_in (nI (i + 2)) E1.2.2.1 ∧ am_cl 242 [.ref 99, .int (E1.2.2.2 (i + 1)), .int (E1.2.2.2 (i + 2))] E1 I1 J1 S1 (q_I fun v2 E2 I2 J2 S2 => (v1 = v2 → (am_ww 291 1129 [.ref 1000000, .ref 0, .ref 99, .ref 145, .int (nI i), d5, d6] [] E2 I2 J2 S2 Q)) ∧ (¬ v1 = v2 → (Q (.inl (some (.int (nI 0)))) E2 I2 J2 S2)))) ⟨hpre, hpre2, refu (Or.inl hb)⟩
    exact ⟨fun _ => t, fun c0 => ⟨fun _ => t, fun c1 => (ctr hb c0 (Int32.not_le.mp c1)).elim⟩⟩
