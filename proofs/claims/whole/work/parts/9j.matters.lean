/-! matters -/
theorem stk_r {nx : (Nat → Int32) → Option (Nat → Int32)} : ∀ m t r, 1 ≤ t → t + m < 1000 → (run nx m r = none → ¬ stk nx m t r = -1) ∧ (∀ r', run nx m r = some r' → stk nx m t r = -1) := by
  intro m
  induction m with
  | zero => exact fun t r _ _ => ⟨fun e => (nomatch e), fun r' _ => rfl⟩
  | succ m ih =>
    intro t r t1 t2
    cases c : nx r with
    | none =>
      rw [run_n c, stk_n c]
      exact ⟨fun _ => nI_nm (by omega), fun r' e => nomatch e⟩
    | some x =>
      rw [run_y c, stk_y c]
      exact ih (t + 1) x (by omega) (by omega)
theorem c_alt2 {E : am_Ev} {I I1 : Nat → Nat → Int32} {J : Nat → Nat → Int64} {S : Nat → Nat → Option Nat} {K : am_Ev → (Nat → Nat → Int32) → (Nat → Nat → Int64) → (Nat → Nat → Option Nat) → Prop} {T n : Nat} {how wh ins : Int32} (hv : vr0 I T n) (h5 : ¬ how = nI 5) (m1 : rm I1 69 (m_first I (I 103 1))) (e1 : I1 68 = upd (upd (upd (upd (I 68) 1 (nI 0)) 2 (nI 0)) 3 (nI 0)) 4 (-1)) (f1 : fb I I1 68 75) (h : ∀ I', ax I I' how wh ins (r0 I how wh ins) 0 → fb I I' 68 75 → K E I' J S) : am_cl 169 [.ref 68, .int how, .int wh, .int ins] E I1 J S (q_V K) := by
  have hro := r0_ro (how := how) (wh := wh) (ins := ins) hv (fun q => absurd q h5)
  show am_ww 169 0 [.ref 68, .int how, .int wh, .int ins] [] E I1 J S _
  apply g169_0
  have h47 : r0 I how wh ins 47 = nI 0 := by
    obtain ⟨_, ⟨k, k1, k2⟩, _⟩ := hro
    rw [k2, show k = 0 by omega]
  refine ⟨fun c => absurd c h5, fun c => q_mkV (h _ ⟨fb_u (fb_le f1 (by omega) (by omega)) (by omega) (by omega), ?_, ?_, hro⟩ (fb_u f1 (by omega) (by omega)))⟩
  · unfold r0
    rw [if_neg c]
    exact rm_e m1 (fun k a b => u_I_ne (by omega))
  · rw [h47, u_I_eq, e1]
    refine ⟨?_, ?_, ?_, ?_, ?_, ?_⟩
    · rw [upd_ne (by omega), upd_ne (by omega), upd_ne (by omega), upd_ne (by omega), upd_ne (by omega), upd_ne (by omega), upd_eq]
    · rw [upd_ne (by omega), upd_ne (by omega), upd_ne (by omega), upd_ne (by omega), upd_ne (by omega), upd_eq]
    · rw [upd_ne (by omega), upd_ne (by omega), upd_ne (by omega), upd_ne (by omega), upd_eq]
    · rw [upd_ne (by omega), upd_ne (by omega), upd_eq]
    · rw [upd_ne (by omega), upd_eq]
    · rw [upd_eq]
noncomputable def nxi (I : Nat → Nat → Int32) (T n z i : Nat) : (Nat → Int32) → Option (Nat → Int32) := nxr I n (lm I T) (nI (2 + z)) (nI i) (I 123 (30 * z + i) + nI 1)
def gd (I : Nat → Nat → Int32) (T n z i : Nat) : Prop := ∃ r', run (nxi I T n z i) T (m_first I (I 103 1)) = some r' ∧ ∀ c, c < 16 → r' c = rt I T c
noncomputable def mcn (I : Nat → Nat → Int32) (T n z : Nat) : Nat → Nat → Nat
  | 0, _ => 0
  | m + 1, i => @ite _ (gd I T n z i) (Classical.propDecidable _) 0 1 + mcn I T n z m (i + 1)
theorem mcn_y {I : Nat → Nat → Int32} {T n z m i : Nat} (h : gd I T n z i) : mcn I T n z (m + 1) i = mcn I T n z m (i + 1) := by
  show @ite _ (gd I T n z i) (Classical.propDecidable _) 0 1 + mcn I T n z m (i + 1) = _
  rw [if_pos h, Nat.zero_add]
theorem mcn_n {I : Nat → Nat → Int32} {T n z m i : Nat} (h : ¬ gd I T n z i) : mcn I T n z (m + 1) i = 1 + mcn I T n z m (i + 1) := by
  show @ite _ (gd I T n z i) (Classical.propDecidable _) 0 1 + mcn I T n z m (i + 1) = _
  rw [if_neg h]
theorem r0_n {I : Nat → Nat → Int32} {wh ins : Int32} {z : Nat} (hz : z < 3) : r0 I (nI (2 + z)) wh ins = m_first I (I 103 1) := by
  unfold r0
  rw [if_neg (by rw [nI_eq (by omega) (by omega)]; omega)]
theorem k_okz {I : Nat → Nat → Int32} {T n z : Nat} {ins : Int32} (hv : vr0 I T n) (hz : z < 3) : k_ok I n (nI (2 + z)) ins := ⟨by have := hv.2.2.1.1; omega, hv.2.2.1.2.2.2.2.2, fun q => by rw [nI_eq (by omega) (by omega)] at q; omega⟩
theorem c175_l {E : am_Ev} {J : Nat → Nat → Int64} {S : Nat → Nat → Option Nat} {Q : am_Qt} {I : Nat → Nat → Int32} {T cu ac n z : Nat} (hcr : CR I T cu ac n) (hz : z < 3) : ∀ m i a (I1 : Nat → Nat → Int32), i + m = (lm I T z).toNatClampNeg → a ≤ i → fb I I1 68 75 → (∀ I', fb I I' 68 75 → Q (.inl (some (.int (nI (a + mcn I T n z m i))))) E I' J S) → am_ww 175 17 [.ref 0, .int (nI z), .ref 20, .int (nI a), .int (nI i)] [] E I1 J S Q := by
  have hv := CR_vr0 hcr
  obtain ⟨h1, h2, h3, h4, h5, h6, h7, h8, h9, h10, h11, h12, h13, h14⟩ := id hcr
  obtain ⟨l1, l2, l3⟩ := hv.2.2.2.2 z hz
  have lb := vb l2
  have hT4 := h4.1.1
  intro m
  induction m with
  | zero =>
    intro i a I1 ei ha f1 h
    apply g175_17
    rw [nI_clamp (by omega), f1 26 (by omega), l1, vc l2, nI_leI (by omega) (by omega)]
    exact ⟨vp_in_nI hz (by omega), fun _ => h I1 f1, fun q => absurd (by omega) q⟩
  | succ m ih =>
    intro i a I1 ei ha f1 h
    apply g175_17
    rw [nI_clamp (by omega), f1 26 (by omega), l1, vc l2, nI_leI (by omega) (by omega)]
    refine ⟨vp_in_nI hz (by omega), fun q => absurd q (by omega), fun _ => ?_⟩
    have hv1 := vr0_fb hv f1 (by omega) (by omega)
    have hh := h_eq_fb' f1 (by omega)
    refine c17_68 (seed := I1 103 1) hv1.2.1.2.2.1 (fun I2 m2 e2 f2 => q_mkV ?_)
    rw [nI_mulI, nI_add, nI_add, nI_clamp (by omega), f2 27 (by omega), f1 27 (by omega), l3 i (by omega)]
    refine ⟨vp_in_nI (by omega) (by omega), ?_⟩
    have enx : nxr I1 n (lm I1 T) (nI (2 + z)) (nI i) (I 123 (30 * z + i) + nI 1) = nxi I T n z i := by
      unfold nxi
      rw [nxr_e hh, lm_e (f1 117 (by omega))]
    have er0 : r0 I1 (nI (2 + z)) (nI i) (I 123 (30 * z + i) + nI 1) = m_first I (I 103 1) := by rw [r0_e hh.1, r0_n hz]
    refine c_alt2 hv1 (by rw [nI_eq (by omega) (by omega)]; omega) m2 e2 f2 (fun I3 a3 f3 => ?_)
    have f13 : fb I I3 68 75 := fb_tr f1 f3
    rw [f13 18 (by omega), h8.2]
    show am_ww 46 0 [.ref 68, .int (nI T), .ref 12, .ref 18, am_U] [] E I3 J S _
    apply g46_0_68
    rw [a3.2.2.1.1]
    have bad : ∀ I5 : Nat → Nat → Int32, fb I I5 68 75 → ¬ gd I T n z i → am_ww 175 17 [.ref 0, .int (nI z), .ref 20, .int (nI (a + 1)), .int (nI (i + 1))] [] E I5 J S Q := by
      intro I5 f5 ng
      refine ih (i + 1) (a + 1) I5 (by omega) (by omega) f5 ?_
      rw [mcn_n ng, ← Nat.add_assoc] at h
      exact h
    refine c46a hv1 (k_okz hv1 hz) hT4 T 0 _ I3 (by omega) a3 (fun I4 k hk sk rn _ q1 f4 => q_mkV ?_) (fun I4 r' rs _ a4 f4 => q_mkV ?_)
    · rw [enx, er0] at rn
      have f14 := fb_tr f13 f4
      rw [q1, f14 18 (by omega), h8.2, nI_ltI (by omega) (by omega), nI_add, nI_add]
      refine ⟨fun _ => bad I4 f14 (fun ⟨r', e, _⟩ => by rw [rn] at e; exact nomatch e), fun q => absurd hk q⟩
    · rw [enx, er0] at rs
      have f14 := fb_tr f13 f4
      rw [a4.2.2.1.1, f14 18 (by omega), h8.2, nI_ltI (by omega) (by omega), nI_add, nI_add]
      refine ⟨fun q => absurd q (by omega), fun _ => ?_⟩
      have cl : ∀ c, c < 16 → (I4 70 c = r' c ∧ I4 21 c = rt I T c) := fun c hc => ⟨a4.2.1.1 c hc, by rw [f14 21 (by omega)]; exact h10.1.1 c hc⟩
      refine c172_70 (m := 16) (by omega) (fun y => q_mkI ⟨fun q => absurd q (by decide), fun _ => ?_⟩) (fun y => q_mkI ⟨fun _ => bad I4 f14 (fun ⟨r2, e, hc⟩ => ?_), fun q => absurd nI_0 q⟩)
      · have g : gd I T n z i := ⟨r', rs, fun c hc => by rw [← (cl c hc).1, ← (cl c hc).2]; exact y c hc⟩
        rw [mcn_y g] at h
        exact ih (i + 1) a I4 (by omega) (by omega) f14 h
      · rw [rs] at e
        cases e
        exact y (fun c hc' => by rw [(cl c hc').1, (cl c hc').2]; exact hc c hc')
theorem m282_l {E : am_Ev} {J : Nat → Nat → Int64} {S : Nat → Nat → Option Nat} {Q : am_Qt} {I : Nat → Nat → Int32} {T n z pt : Nat} (hv : vr0 I T n) (hT : I 99 12 = nI T) (hpt : 1 ≤ pt) (hpt5 : pt ≤ 50) (ept : I 103 2 = nI pt) (hz : z < 3) : ∀ m i a (I1 : Nat → Nat → Int32), i + m = (lm I T z).toNatClampNeg → a ≤ i → fr I I1 [99, 116] → (∀ f, f ≠ 39 → f ≠ 40 → f < 51 ∨ 56 < f → I1 99 f = I 99 f) → (∀ I', fr I I' [99, 116] → (∀ f, f ≠ 39 → f ≠ 40 → f < 51 ∨ 56 < f → I' 99 f = I 99 f) → Q (.inl (some (.int (nI (a + mcn I T n z m i))))) E I' J S) → am_ww 282 16 [.ref 99, .int (nI z), .int (nI a), .int (nI i)] [] E I1 J S Q := by
  obtain ⟨l1, l2, l3⟩ := hv.2.2.2.2 z hz
  have lb := vb l2
  have hT4 := hv.2.2.1.1.1
  have e48 : I 117 (51 * T + (48 + z)) = nI (lm I T z).toNatClampNeg := by
    rw [← rt_k (I := I) (t := T) (show 48 + z < 51 by omega)]
    exact vc l2
  intro m
  induction m with
  | zero =>
    intro i a I1 ei ha f1 g1 h
    apply g282_16
    rw [g1 12 (by omega) (by omega) (by omega), hT, nI_mulI, nI_add, nI_add, nI_clamp (by omega), f1 117 (by decide), e48]
    refine ⟨vp_in_nI (by omega) (by omega), fun w2 e2 => ?_⟩
    subst e2
    rw [nI_leI (by omega) (by omega)]
    exact ⟨fun _ => h I1 f1 g1, fun q => absurd (by omega) q⟩
  | succ m ih =>
    intro i a I1 ei ha f1 g1 h
    apply g282_16
    rw [g1 12 (by omega) (by omega) (by omega), hT, nI_mulI, nI_add, nI_add, nI_clamp (by omega), f1 117 (by decide), e48]
    refine ⟨vp_in_nI (by omega) (by omega), fun w2 e2 => ?_⟩
    subst e2
    rw [nI_leI (by omega) (by omega)]
    refine ⟨fun q => absurd q (by omega), fun _ => ?_⟩
    rw [nI_mulI, nI_add, nI_add, nI_clamp (by omega), f1 123 (by decide)]
    refine ⟨vp_in_nI (by omega) (by omega), ?_⟩
    have z99 : u_I I1 99 (upd (upd (upd (I1 99) 51 (nI (2 + z))) 52 (nI i)) 53 (I 123 (30 * z + i) + nI 1)) 99 = upd (upd (upd (I1 99) 51 (nI (2 + z))) 52 (nI i)) 53 (I 123 (30 * z + i) + nI 1) := u_I_eq
    have zo : ∀ k, k ≠ 99 → k ≠ 116 → u_I I1 99 (upd (upd (upd (I1 99) 51 (nI (2 + z))) 52 (nI i)) 53 (I 123 (30 * z + i) + nI 1)) k = I k := fun k a b => by rw [u_I_ne a]; exact f1 k (by simp [a, b])
    generalize u_I I1 99 (upd (upd (upd (I1 99) 51 (nI (2 + z))) 52 (nI i)) 53 (I 123 (30 * z + i) + nI 1)) = I2 at z99 zo ⊢
    have hv2 : vr0 I2 T n := vr0_e hv (fun k hk => zo k (by omega) (by omega))
    have hh : h_eq I I2 := ⟨fun k a b => zo k (by omega) (by omega), zo 117 (by omega) (by omega), zo 120 (by omega) (by omega), zo 121 (by omega) (by omega), zo 122 (by omega) (by omega), zo 123 (by omega) (by omega)⟩
    have enx : nxr I2 n (lm I2 T) (nI (2 + z)) (nI i) (I 123 (30 * z + i) + nI 1) = nxi I T n z i := by
      unfold nxi
      rw [nxr_e hh, lm_e hh.2.1]
    have er0 : r0 I2 (nI (2 + z)) (nI i) (I 123 (30 * z + i) + nI 1) = m_first I (I 103 1) := by rw [r0_e hh.1, r0_n hz]
    refine m276 (pt := pt) hv2 (k_okz hv2 hz) (fun q => by rw [nI_eq (by omega) (by omega)] at q; omega) (by rw [z99, upd_ne (by omega), upd_ne (by omega), upd_ne (by omega), g1 12 (by omega) (by omega) (by omega)]; exact hT) hpt hpt5 (by rw [zo 103 (by omega) (by omega)]; exact ept) (by rw [z99, upd_ne (by omega), upd_ne (by omega), upd_eq]) (by rw [z99, upd_ne (by omega), upd_eq]) (by rw [z99, upd_eq]) (fun I4 f4 _ _ q56 q116 => q_mkV ?_)
    rw [enx, er0] at q56 q116
    have f14 : fr I I4 [99, 116] := fun k hk => by
      rw [f4.1 k hk]
      simp only [List.mem_cons, List.not_mem_nil, or_false, not_or] at hk
      exact zo k hk.1 hk.2
    have g14 : ∀ f, f ≠ 39 → f ≠ 40 → f < 51 ∨ 56 < f → I4 99 f = I 99 f := fun f a b c => by rw [f4.2 f a b (by omega) (by omega) (by omega), z99, upd_ne (by omega), upd_ne (by omega), upd_ne (by omega), g1 f a b c]
    obtain ⟨S1, S2⟩ := stk_r (nx := nxi I T n z i) T 1 (m_first I (I 103 1)) (by omega) (by omega)
    have er4 : rt I4 = rt I := rt_e (f14 117 (by decide))
    have bad : ∀ w : Int32, w = nI (a + 1) → ¬ gd I T n z i → am_ww 282 16 [.ref 99, .int (nI z), .int w, .int (nI (i + 1))] [] E I4 J S Q := by
      intro w ew ng
      subst ew
      refine ih (i + 1) (a + 1) I4 (by omega) (by omega) f14 g14 ?_
      rw [mcn_n ng, ← Nat.add_assoc] at h
      exact h
    rw [q56, show nI i + nI 1 = nI (i + 1) from nI_add i 1]
    cases c : run (nxi I T n z i) T (m_first I (I 103 1)) with
    | none =>
      refine ⟨fun q => absurd q (S1 c), fun _ => ?_⟩
      rw [nI_add]
      exact bad _ rfl (fun ⟨r', e, _⟩ => by rw [c] at e; exact nomatch e)
    | some r' =>
      refine ⟨fun _ => ?_, fun q => absurd (S2 r' c) q⟩
      have e4 := q116 r' c
      refine m283 (T := T) (by rw [g14 12 (by omega) (by omega) (by omega)]; exact hT) hT4 (fun y => q_mkI (fun w7 e7 => ?_)) (fun y => q_mkI (fun w7 e7 => ?_))
      · rw [if_pos nI_0] at e7
        subst e7
        rw [er4] at y
        have g : gd I T n z i := ⟨r', c, fun k hk => by rw [← e4 k (by omega)]; exact y k hk⟩
        rw [nI_add, Nat.add_zero]
        rw [mcn_y g] at h
        exact ih (i + 1) a I4 (by omega) (by omega) f14 g14 h
      · rw [if_neg (by decide)] at e7
        subst e7
        rw [er4] at y
        refine bad _ (nI_add _ _) (fun ⟨r2, e, hc⟩ => ?_)
        rw [c] at e
        cases e
        exact y (fun k hk => by rw [e4 k (by omega)]; exact hc k hk)
theorem k_matters {E : am_Ev} {I : Nat → Nat → Int32} {J : Nat → Nat → Int64} {S : Nat → Nat → Option Nat} {Q : am_Qt} {T cu ac n d i : Nat} {x4 : Int32} {d5 d6 : Value} (hd5 : am_isL d5 = false) (hd6 : am_isL d6 = false) (hcr : CR I T cu ac n) (hvw : vw I T d) (hx : x4 = nI i) (hi : i + 6 ≤ E.2.2.1) (hL : E.2.2.1 ≤ 3072) (h : Hn I J S E x4 Q) : am_ww 291 992 [.ref 1000000, .ref 0, .ref 99, .ref 145, .int x4, d5, d6] [] E I J S Q := by
  apply g291_992 hd5 hd6
  refine L1 hx hi hL ?_
  generalize E.2.2.2 (i + 1) = x
  have hv := CR_vr0 hcr
  obtain ⟨h1, h2, h3, h4, h5, h6, h7, h8, h9, h10, h11, h12, h13, h14⟩ := id hcr
  obtain ⟨pt, p1, p2, p3⟩ := h3.2.1
  show am_ww 174 0 [.ref 0, .int x, .ref 145, am_U] [] E I J S _
  apply g174_0
  show am_ww 175 0 [.ref 0, .int x, am_U, am_U, am_U] [] E I J S _
  apply g175_0
  refine tst (by omega) (fun hx' => ?_) (fun hx' => ⟨1, rfl, q_mkI ⟨rfl, ?_⟩⟩)
  · obtain ⟨z, hz, rfl⟩ := hx'
    refine c175_l hcr hz (lm I T z).toNatClampNeg 0 0 I (by omega) (by omega) fb_id (fun I2 f2 => W_ok (y := 174) (q_mkI ⟨rfl, ?_⟩))
    show am_ww 282 0 [.ref 99, .int (nI z), am_U, am_U] [] E I2 _ S _
    apply g282_0
    refine ⟨fun q => absurd ((nI_ltI (by omega) (by omega)).mp q) (by omega), fun _ => ⟨fun q => absurd ((nI_ltI (by omega) (by omega)).mp q) (by omega), fun _ => ?_⟩⟩
    have z99 : u_I I2 99 (upd (I2 99) 3 (nI 0)) 99 = upd (I 99) 3 (nI 0) := by rw [u_I_eq, f2 99 (by omega)]
    have zo : ∀ k, k ≠ 99 → u_I I2 99 (upd (I2 99) 3 (nI 0)) k = I2 k := fun k hk => u_I_ne hk
    generalize u_I I2 99 (upd (I2 99) 3 (nI 0)) = I3 at z99 zo ⊢
    have h3i : ∀ k, k < 68 ∨ 75 < k ∧ k < 99 ∨ 99 < k → I3 k = I k := fun k hk => by rw [zo k (by omega), f2 k (by omega)]
    have hh : h_eq I I3 := ⟨fun k a b => h3i k (by omega), h3i 117 (by omega), h3i 120 (by omega), h3i 121 (by omega), h3i 122 (by omega), h3i 123 (by omega)⟩
    have emc : ∀ m j, mcn I3 T n z m j = mcn I T n z m j := by
      have eg : ∀ j, gd I3 T n z j ↔ gd I T n z j := by
        intro j
        unfold gd nxi
        rw [nxr_e hh, lm_e hh.2.1, first_e hh.1, hh.1 103 (by omega) (by omega), rt_e hh.2.1, hh.2.2.2.2.2]
      intro m
      induction m with
      | zero => intro j; rfl
      | succ m ih =>
        intro j
        by_cases c : gd I T n z j
        · rw [mcn_y c, mcn_y ((eg j).mpr c), ih]
        · rw [mcn_n c, mcn_n (fun q => c ((eg j).mp q)), ih]
    have el : lm I3 T = lm I T := lm_e hh.2.1
    refine m282_l (I := I3) (pt := pt) (vr0_e hv (fun k hk => h3i k (by omega))) (by rw [z99, upd_ne (by omega)]; exact h8.1) p1 p2 (by rw [h3i 103 (by omega)]; exact p3) hz (lm I T z).toNatClampNeg 0 0 I3 (by rw [el]; omega) (by omega) fr_id (fun _ _ _ _ => rfl) (fun I5 f5 g5 => q_mkI (tl_ok ?_ ?_ (Hn_q h (Or.inl rfl) hcr hvw (fun k hk => ?_) (fun f hf => ?_) (fun k hk => u_J_ne hk))))
    · rw [g5 3 (by omega) (by omega) (by omega), z99, upd_eq]
    · rw [u_J_eq, emc]
      exact if_pos rfl
    · rw [f5 k (by simp; omega), h3i k (by omega)]
    · rw [g5 f (by omega) (by omega) (by omega), z99, upd_ne (by omega)]
  · show am_ww 282 0 [.ref 99, .int x, am_U, am_U] [] _ I J S _
    apply g282_0
    have tb : q_I (fun v2 E2 I2 J2 S2 => tl (nI 1) v2 x4 E2 I2 J2 S2 Q) (.inl (some (.int (nI 0)))) (E.1 + 1, E.2.1 + 6, E.2.2) (u_I I 99 (upd (upd (I 99) 3 (nI 0)) 3 (nI 1))) J S := q_mkI (tl_bad (by omega) (by omega) (by rw [u_I_eq, upd_eq]) (Hn_q h (Or.inr rfl) hcr hvw (fun k hk => u_I_ne (by omega)) (fun f hf => by rw [u_I_eq, upd_ne (by omega), upd_ne (by omega)]) Jq_id))
    have := tst' (x := x) (n := 3) (by omega) (A := am_ww 282 16 [.ref 99, .int x, .int (nI 0), .int (nI 0)] [] (E.1 + 1, E.2.1 + 6, E.2.2) (u_I I 99 (upd (I 99) 3 (nI 0))) J S (q_I fun v2 E2 I2 J2 S2 => tl (nI 1) v2 x4 E2 I2 J2 S2 Q)) (fun q => absurd q hx') (fun _ => tb)
    rw [nI_subI (by omega)] at this
    exact this
