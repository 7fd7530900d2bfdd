/-! steps: the call -/
def st0 (I : Nat → Nat → Int32) (T ac : Nat) (k : Nat) : Nat → Int32 := if k = 99 then upd (upd (I 99) 3 (nI 0)) 43 (nI (kk ac + 1)) else if k = 116 then cpk (I 116) (fun j => I 117 (51 * T + j)) 0 51 else if k = 126 then kx (I 126) ac (-1) else if k = 127 then kx (I 127) ac (nI T) else I k
theorem st0_o {I : Nat → Nat → Int32} {T ac k : Nat} (h : k ≠ 99 ∧ k ≠ 116 ∧ k ≠ 126 ∧ k ≠ 127) : st0 I T ac k = I k := by
  unfold st0
  rw [if_neg h.1, if_neg h.2.1, if_neg h.2.2.1, if_neg h.2.2.2]
theorem st0_99 {I : Nat → Nat → Int32} {T ac : Nat} : st0 I T ac 99 = upd (upd (I 99) 3 (nI 0)) 43 (nI (kk ac + 1)) := if_pos rfl
theorem st0_116 {I : Nat → Nat → Int32} {T ac : Nat} : st0 I T ac 116 = cpk (I 116) (fun j => I 117 (51 * T + j)) 0 51 := by unfold st0; rw [if_neg (by omega), if_pos rfl]
theorem st0_126 {I : Nat → Nat → Int32} {T ac : Nat} : st0 I T ac 126 = kx (I 126) ac (-1) := by unfold st0; rw [if_neg (by omega), if_neg (by omega), if_pos rfl]
theorem st0_127 {I : Nat → Nat → Int32} {T ac : Nat} : st0 I T ac 127 = kx (I 127) ac (nI T) := by unfold st0; rw [if_neg (by omega), if_neg (by omega), if_neg (by omega), if_pos rfl]
theorem cnt_51 {P P' : Nat → Nat → Int32} {r s : Nat → Int32} (hp : p_in P) (hr : r_ok P r) (hpe : p_eq P P') (h : e51 s r) (h4 : P' 124 = P 124) : m_cnt (m_can P' (P' 124) s) (P' 103 4).toNatClampNeg 0 = m_cnt (m_can P (P 124) r) (P 103 4).toNatClampNeg 0 := by
  rw [hpe 103 (by omega) (by omega), h4]
  refine m_cnt_congr _ _ (fun j _ hj => ?_)
  rw [m_can_e hpe]
  exact (m_can_c hp hr (by omega) (fun k hk => (h k (by omega)).symm)).symm
theorem cnt_G {P : Nat → Nat → Int32} {G G' r : Nat → Int32} (hp : p_in P) (hr : r_ok P r) (hG : ∀ s, s < 3 → G s = G' s) : m_cnt (m_can P G r) (P 103 4).toNatClampNeg 0 = m_cnt (m_can P G' r) (P 103 4).toNatClampNeg 0 := m_cnt_congr _ _ (fun j _ hj => m_can_G hp hr (by omega) hG)
theorem k_steps {E : am_Ev} {I : Nat → Nat → Int32} {J : Nat → Nat → Int64} {S : Nat → Nat → Option Nat} {Q : am_Qt} {T cu ac n d i : Nat} {x4 : Int32} {d5 d6 : Value} (hd5 : am_isL d5 = false) (hd6 : am_isL d6 = false) (hcr : CR I T cu ac n) (hvw : vw I T d) (hx : x4 = nI i) (hi : i + 6 ≤ E.2.2.1) (hL : E.2.2.1 ≤ 3072) (h : Hn I J S E x4 Q) : am_ww 291 194 [.ref 1000000, .ref 0, .ref 99, .ref 145, .int x4, d5, d6] [] E I J S Q := by
  apply g291_194 hd5 hd6
  subst hx
  rw [nI_add, nI_clamp (by omega)]
  have hpre : vp_in (nI (i + 1)) E.2.2.1 := vp_in_nI (by omega) (by omega)
  obtain ⟨h1, h2, h3, h4, h5, h6, h7, h8, h9, h10, h11, h12, h13, h14⟩ := id hcr
  obtain ⟨a1, a2, a3, a4⟩ := h13
  have hT := h4.1.1
  have hmm := vb h1.1
  have hrT := (h4.2.1 T (Nat.le_refl _)).1
  refine ⟨hpre, ?_⟩
  -- refused
  have refu : (E.2.2.2 (i + 1) < nI 1 ∨ nI 50 < E.2.2.2 (i + 1) ∨ nI 400 < nI T + E.2.2.2 (i + 1) ∨ m_cnt (m_can I (I 124) (rt I T)) (I 103 4).toNatClampNeg 0 = 0) → am_cl 233 [.ref 99, .int (E.2.2.2 (i + 1))] E (u_I I 18 (upd (I 18) 13 (I 18 13 + nI 1))) J S (q_I fun v2 E2 I2 J2 S2 => ((-1 : Int32) = v2 → (am_ww 291 1129 [.ref 1000000, .ref 0, .ref 99, .ref 145, .int (nI i), d5, d6] [] E2 I2 J2 S2 Q)) ∧ (¬ (-1 : Int32) = v2 → (Q (.inl (some (.int (nI 0)))) E2 I2 J2 S2))) := by
    intro hb
    show am_ww 233 0 [.ref 99, .int (E.2.2.2 (i + 1)), am_U] [] E (u_I I 18 (upd (I 18) 13 (I 18 13 + nI 1))) J S _
    apply g233_0
    have y18 : u_I I 18 (upd (I 18) 13 (I 18 13 + nI 1)) 18 = upd (I 18) 13 (I 18 13 + nI 1) := u_I_eq
    have yo : ∀ k, k ≠ 18 → u_I I 18 (upd (I 18) 13 (I 18 13 + nI 1)) k = I k := fun k hk => u_I_ne hk
    generalize u_I I 18 (upd (I 18) 13 (I 18 13 + nI 1)) = I1 at y18 yo ⊢
    rw [yo 99 (by omega), h8.1]
    have z99 : u_I I1 99 (upd (I 99) 3 (nI 0)) 99 = upd (I 99) 3 (nI 0) := u_I_eq
    have zo : ∀ k, k ≠ 99 → u_I I1 99 (upd (I 99) 3 (nI 0)) k = I1 k := fun k hk => u_I_ne hk
    generalize u_I I1 99 (upd (I 99) 3 (nI 0)) = I2 at z99 zo ⊢
    refine m217 (by omega) (fun f ef => q_mkV ?_)
    have e117 : rt I2 = rt I := rt_e (by rw [zo 117 (by omega), yo 117 (by omega)])
    rw [e117] at ef
    have x99 : u_I I2 116 f 99 = upd (I 99) 3 (nI 0) := by rw [u_I_ne (by decide), z99]
    have x110 : u_I I2 116 f 110 = I 110 := by rw [u_I_ne (by decide), zo 110 (by omega), yo 110 (by omega)]
    have x116 : u_I I2 116 f 116 = f := u_I_eq
    have x18 : u_I I2 116 f 18 = upd (I 18) 13 (I 18 13 + nI 1) := by rw [u_I_ne (by decide), zo 18 (by omega), y18]
    have xo : ∀ k, k ≠ 18 → k ≠ 99 → k ≠ 116 → u_I I2 116 f k = I k := fun k a b c => by rw [u_I_ne c, zo k b, yo k a]
    generalize u_I I2 116 f = I3 at x99 x110 x116 x18 xo ⊢
    have hpe : p_eq I I3 := fun k a b => xo k (by omega) (by omega) (by omega)
    have t : q_I (fun v2 E2 I2 J2 S2 => ((-1 : Int32) = v2 → (am_ww 291 1129 [.ref 1000000, .ref 0, .ref 99, .ref 145, .int (nI i), d5, d6] [] E2 I2 J2 S2 Q)) ∧ (¬ (-1 : Int32) = v2 → (Q (.inl (some (.int (nI 0)))) E2 I2 J2 S2))) (.inl (some (.int (-1)))) E (u_I I3 110 (upd (I 110) 1 (I 110 1 + nI 1))) J S := by
      refine q_mkI ⟨fun _ => h _ _ _ _ _ _ _ _ (Or.inl rfl) (CR_ref hcr ?_ ?_ ?_ ?_ ?_ ?_) (vw_e (fun k hk => by rw [u_I_ne (by omega), xo k (by omega) (by omega) (by omega)]) hvw) ⟨fun k hk => by rw [u_I_ne (by omega), xo k (by omega) (by omega) (by omega)], fun f hf => by rw [u_I_ne (by decide), x99, upd_ne (by omega)]⟩ (Or.inr ⟨fun k a b => by rw [u_I_ne (by omega), xo k (by omega) (by omega) (by omega)], by rw [u_I_ne (by decide), xo 33 (by omega) (by omega) (by omega)], by rw [u_I_ne (by decide), x18, upd_ne (by omega)], rfl⟩) _ _ hd5 hd6, fun q => absurd rfl q⟩
      · rw [u_I_ne (by decide), x18]
      · rw [u_I_eq]
      · rw [u_I_ne (by decide), x99, upd_ne (by omega)]
      · rw [u_I_ne (by decide), x99, upd_ne (by omega)]
      · rw [u_I_ne (by decide), x99, upd_ne (by omega)]
      · intro j hj
        rw [u_I_ne (by omega), xo j (by omega) (by omega) (by omega)]
    have e12 : I3 99 12 = nI T := by rw [x99, upd_ne (by omega)]; exact h8.1
    rw [x110, e12]
    refine ⟨fun _ => t, fun c1 => ⟨fun _ => t, fun c2 => ⟨fun _ => t, fun c3 => ?_⟩⟩⟩
    have hr3 : r_ok I3 (I3 116) := by rw [x116]; exact (r_ok_e hpe).mpr (r_ok_c h1 hrT (fun k hk => (ef k (by omega)).symm))
    refine m219 ((p_in_e hpe).mpr h1) hr3 (q_mkI ⟨fun _ => ?_, fun c4 => ?_⟩)
    · rw [x110]; exact t
    · exfalso
      have ec := cnt_51 (P' := I3) h1 hrT hpe ef (xo 124 (by omega) (by omega) (by omega))
      rw [x116, ec] at c4
      rcases hb with b | b | b | b
      · exact c1 b
      · exact c2 b
      · exact c3 b
      · exact c4 (by rw [b]; exact nI_0)
  show am_ww 21 0 [.ref 0, .int (E.2.2.2 (i + 1)), am_U, am_U, am_U] [] E I J S _
  apply g21_0
  rw [h8.2]
  refine ⟨fun c => ?_, fun c1 => ⟨fun c => ?_, fun c2 => ⟨fun c => ?_, fun c3 => ?_⟩⟩⟩
  · apply g21_24 rfl rfl rfl
    exact q_mkI ⟨hpre, refu (Or.inl c)⟩
  · apply g21_24 rfl rfl rfl
    exact q_mkI ⟨hpre, refu (Or.inr (Or.inl c))⟩
  · apply g21_24 rfl rfl rfl
    exact q_mkI ⟨hpre, refu (Or.inr (Or.inr (Or.inl c)))⟩
  obtain ⟨many, b1, b2, eb⟩ := vr (by omega) (by omega) c1 c2
  have b3 : T + many ≤ 400 := by
    rw [eb, nI_add, nI_ltI (by omega) (by omega)] at c3
    omega
  have hcnt := m_cnt_le (m_can I (I 124) (rt I T)) (I 103 4).toNatClampNeg 0
  refine c22_20 h1 h2 hrT h10.1 (q_mkI ?_)
  rw [cnt_G h1 hrT (fun s hs => (h6 s hs).1), h8.2]
  intro w3 ew
  by_cases cz : m_cnt (m_can I (I 124) (rt I T)) (I 103 4).toNatClampNeg 0 = 0
  · rw [cz, if_pos nI_0] at ew
    subst ew
    refine ⟨fun q => absurd q (by decide), fun _ => q_mkI ⟨hpre, refu (Or.inr (Or.inr (Or.inr cz)))⟩⟩
  rw [if_neg (nI_ne0 (by omega) (by omega))] at ew
  subst ew
  refine ⟨fun _ => ?_, fun q => absurd nI_0 q⟩
  rw [h10.2.1, h10.2.2]
  refine c27 a2 a3 (fun I1 k off hk k35 k36 k37 k38 e34 f1 => q_mkV ?_)
  have f1' : ∀ j, j < 34 ∨ 38 < j → I1 j = I j := fun j hj => f1 j (by simp; omega)
  obtain ⟨q, q1, q2, q3⟩ := h3.1
  have k126 := (kx_kept (f := I 126) (x := -1) hk)
  have k127 := (kx_kept (f := I 127) (x := nI T) hk)
  have eM : ∀ j, j < 99 → mg I1 (st0 I T ac) j = I1 j := fun j hj => mg_lo hj
  have eN : ∀ j, 99 ≤ j → mg I1 (st0 I T ac) j = st0 I T ac j := fun j hj => mg_hi hj
  have hcr0 : CR (mg I1 (st0 I T ac)) T cu (k + 1) n := by
    refine CR_keep hcr hk ?_ ?_ ?_ ?_ ?_ ?_ ?_ ?_ ?_ ?_ ?_
    · rw [eM 35 (by omega)]; exact k35
    · rw [eM 36 (by omega)]; exact k36
    · rw [eM 37 (by omega)]; exact k37
    · rw [eM 38 (by omega)]; exact k38
    · rw [eN 126 (by omega), st0_126]; exact k126.1
    · rw [eN 127 (by omega), st0_127]; exact k127.1
    · rw [eM 34 (by omega), e34, upd_eq]
    · rw [eN 99 (by omega), st0_99, upd_eq, k126.2]
    · rw [eN 99 (by omega), st0_99, upd_ne (by omega), upd_ne (by omega)]
    · rw [eN 99 (by omega), st0_99, upd_ne (by omega), upd_ne (by omega)]
    · intro j hj
      by_cases c : j < 99
      · rw [eM j c, f1' j (by omega)]
      · rw [eN j (by omega), st0_o (by omega)]
  have er0 : rt (st0 I T ac) = rt I := rt_e (st0_o (by omega))
  have e51' : e51 (st0 I T ac 116) (rt I T) := by rw [st0_116]; exact e51_cpk
  have hpe0 : p_eq I (st0 I T ac) := fun j a b => st0_o (by omega)
  have hr0 : r_ok (st0 I T ac) (st0 I T ac 116) := (r_ok_e hpe0).mpr (r_ok_c h1 hrT (fun j hj => (e51' j (by omega)).symm))
  rw [eb]
  refine c21_l (I0 := I1) (G0 := st0 I T ac) (T0 := T) (cu := cu) (ac := k + 1) (q := q) (many := many) rfl (by omega) (by omega) (by rw [f1' 103 (by omega)]; exact q3) b3 (fun j hj => by rw [st0_o (by omega), f1' j (by omega)]) ⟨k, rfl, by rw [st0_126]; exact k126.1.2⟩ ?_ many 0 I1 n (by omega) (fun _ _ => rfl) hcr0 (show e51 (st0 I T ac 116) (rt (st0 I T ac) T) by rw [er0]; exact e51') (fun _ q => absurd q (by omega)) (fun j hj => ?_)
  · -- the reference goes the same way
    intro k' C n' hk' hcr1 hend hgo hok hC m61 b60 e89
    have hC' : ∀ j, j < 18 ∨ 38 < j ∧ j < 60 ∨ 67 < j → j ≠ 89 → C j = I j := fun j a b => by rw [hC j (by omega) b, f1' j (by omega)]
    refine q_mkI ⟨hpre, ?_⟩
    rw [eb]
    show am_ww 233 0 [.ref 99, .int (nI many), am_U] [] E C J S _
    apply g233_0
    rw [hC' 99 (by omega) (by omega), h8.1]
    have z99 : u_I C 99 (upd (I 99) 3 (nI 0)) 99 = upd (I 99) 3 (nI 0) := u_I_eq
    have zo : ∀ k, k ≠ 99 → u_I C 99 (upd (I 99) 3 (nI 0)) k = C k := fun k hk => u_I_ne hk
    generalize u_I C 99 (upd (I 99) 3 (nI 0)) = C2 at z99 zo ⊢
    refine m217x (by omega) (q_mkV ?_)
    rw [zo 116 (by omega), zo 117 (by omega), hC' 116 (by omega) (by omega), hC' 117 (by omega) (by omega), ← st0_116 (I := I) (T := T) (ac := ac)]
    have x99 : u_I C2 116 (st0 I T ac 116) 99 = upd (I 99) 3 (nI 0) := by rw [u_I_ne (by decide), z99]
    have x116 : u_I C2 116 (st0 I T ac 116) 116 = st0 I T ac 116 := u_I_eq
    have xo : ∀ k, k ≠ 99 → k ≠ 116 → u_I C2 116 (st0 I T ac 116) k = C k := fun k b c => by rw [u_I_ne c, zo k b]
    generalize u_I C2 116 (st0 I T ac 116) = C3 at x99 x116 xo ⊢
    have hpe : p_eq I C3 := fun k a b => by rw [xo k (by omega) (by omega), hC' k (by omega) (by omega)]
    have e12 : C3 99 12 = nI T := by rw [x99, upd_ne (by omega)]; exact h8.1
    have e43 : C3 99 43 = nI ac := by rw [x99, upd_ne (by omega)]; exact a1
    rw [e12, nI_add, nI_ltI (by omega) (by omega), nI_ltI (by omega) (by omega), nI_ltI (by omega) (by omega)]
    refine ⟨fun c => absurd c (by omega), fun _ => ⟨fun c => absurd c (by omega), fun _ => ⟨fun c => absurd c (by omega), fun _ => ?_⟩⟩⟩
    refine m219 ((p_in_e hpe).mpr h1) (by rw [x116]; exact (r_ok_e hpe).mpr ((r_ok_e hpe0).mp hr0)) (q_mkI ⟨fun c4 => ?_, fun _ => ?_⟩)
    · exfalso
      rw [x116, cnt_51 (P' := C3) h1 hrT hpe e51' (by rw [xo 124 (by omega) (by omega), hC' 124 (by omega) (by omega)]), nI_e0 (by omega)] at c4
      exact cz c4
    · refine m235x e43 a3 (fun C4 y126 y127 y99 yf => q_mkV ?_)
      have eC4 : C4 = mg C (st0 I T ac) := by
        funext j
        by_cases c1 : j = 99
        · subst c1
          rw [y99, mg_hi (by omega), st0_99, x99]
        by_cases c2 : j = 126
        · subst c2
          rw [y126, mg_hi (by omega), st0_126, xo 126 (by omega) (by omega), hC' 126 (by omega) (by omega)]
        by_cases c3 : j = 127
        · subst c3
          rw [y127, mg_hi (by omega), st0_127, e12, xo 127 (by omega) (by omega), hC' 127 (by omega) (by omega)]
        rw [yf j (by simp [c1, c2, c3])]
        by_cases c4 : j = 116
        · subst c4
          rw [x116, mg_hi (by omega)]
        rw [xo j c1 c4]
        by_cases c5 : j < 99
        · rw [mg_lo c5]
        · rw [mg_hi (by omega), st0_o ⟨c1, c4, c2, c3⟩, hC' j (by omega) (by omega)]
      subst eC4
      have t12 : mg C (st0 I T ac) 99 12 = nI T := by rw [mg_hi (by omega), st0_99, upd_ne (by omega), upd_ne (by omega)]; exact h8.1
      rw [t12]
      refine m233_l (C := C) (G0 := st0 I T ac) (T0 := T) (q := q) (many := many) (k := k') ((p_in_e hpe0).mpr h1) (fun s hs => by rw [st0_o (by omega)]; exact (h6 s hs).2.1) (by omega) (by omega) (by rw [st0_o (by omega)]; exact q3) b3 hk' hend hgo hok (q_mkI ⟨fun _ => ?_, fun q => absurd rfl q⟩) k' 0 (by omega)
      have hi : ∀ j, 100 ≤ j ∧ j < 116 ∨ 127 < j → mg C (git q k' (st0 I T ac)) j = I j := fun j hj => by rw [mg_hi (by omega), git_o (by omega), st0_o (by omega)]
      refine h _ _ _ _ _ _ _ 0 (Or.inl rfl) hcr1 (vw_0 (I := I1) hcr1.2.2.2.1 (by rw [hi 103 (by omega), f1' 103 (by omega)]) (by rw [hi 104 (by omega), f1' 104 (by omega)]) (rm_e m61 (fun j a b => mg_lo (by omega))) (by rw [mg_lo (by omega)]; exact b60)) ⟨fun j hj => ?_, fun f hf => ?_⟩ (Or.inl (by rw [mg_lo (by omega)]; exact e89)) _ _ hd5 hd6
      · by_cases c : j < 99
        · rw [mg_lo c, hC' j (by omega) (by omega)]
        · exact hi j (by omega)
      · rw [mg_hi (by omega), git_99 (by omega), st0_99, upd_ne (by omega), upd_ne (by omega)]
  · have : j = 0 := by omega
    subst this
    refine ⟨hr0, ⟨n, h4.1.2, ?_⟩, ?_⟩
    · show st0 I T ac 116 47 = nI n
      rw [e51' 47 (by omega)]
      exact h4.2.2.2.1
    · show st0 I T ac 99 12 = nI (T + 0)
      rw [st0_99, upd_ne (by omega), upd_ne (by omega), h8.1, Nat.add_zero]
