/-! back, on -/
theorem ins_lt {I : Nat → Nat → Int32} {c e : Nat} (hp : p_in I) (hc : c < (I 103 4).toNatClampNeg) (he : e < (I 105 c).toNatClampNeg) : c < 4 ∧ e < 16 := by
  have hm := vb hp.1
  have hv := vb (hp.2 c hc).1
  omega
theorem k_back {E : am_Ev} {I : Nat → Nat → Int32} {J : Nat → Nat → Int64} {S : Nat → Nat → Option Nat} {Q : am_Qt} {T cu ac n d i : Nat} {x4 : Int32} {d5 d6 : Value} (hd5 : am_isL d5 = false) (hd6 : am_isL d6 = false) (hcr : CR I T cu ac n) (hvw : vw I T d) (hx : x4 = nI i) (hi : i + 6 ≤ E.2.2.1) (hL : E.2.2.1 ≤ 3072) (h : Hc I J S E T x4 Q) : am_ww 291 562 [.ref 1000000, .ref 0, .ref 99, .ref 145, .int x4, d5, d6] [] E I J S Q := by
  apply g291_562 hd5 hd6
  refine L2 hx hi hL ?_
  generalize E.2.2.2 (i + 1) = x
  generalize E.2.2.2 (i + 2) = y
  obtain ⟨h1, h2, h3, h4, h5, h6, h7, h8, h9, h10, h11, h12, h13, h14⟩ := hcr
  have hT := h4.1.1
  have hcu := h9.2.2
  show am_ww 130 0 [.ref 0, .int x, .int y, .ref 145, am_U] [] E I J S _
  apply g130_0
  show am_ww 131 0 [.ref 0, .int x, .int y, am_U, am_U] [] E I J S _
  apply g131_0
  show am_ww 132 0 [.ref 0, .int x, .int y] [] E I J S _
  apply g132_0
  rcases ins_rng h1 x y with hb | ⟨c, e, hc, he, rfl, rfl⟩
  · refine ins_CB h1 h2 hb ⟨1, rfl, q_mkI ⟨rfl, ?_⟩⟩
    show am_ww 255 0 [.ref 99, .int x, .int y, am_U] [] (Ex E) I J S _
    apply g255_0
    exact ins_P h1 hb (tc_bad h9 hvw h)
  · obtain ⟨hc4, he16⟩ := ins_lt h1 hc he
    refine ins_CG h1 h2 hc he ⟨rfl, ?_⟩
    have e33 : ∀ t, 1 ≤ t → t ≤ T → I 33 t = I 119 t := fun t a b => by
      obtain ⟨C, p, q1, q2, q3, q4, q5, q6, q7⟩ := h11 t a b
      exact q5
    rw [h9.2.1, nI_mulI, nI_add, Nat.mul_comm c 16]
    have es : srD (I 33) (nI (16 * c + e)) cu = srD (I 119) (nI (16 * c + e)) cu := srD_c cu (fun t a b => e33 t a (by omega))
    have hle := srD_le (I 119) (nI (16 * c + e)) cu
    refine c131_l rfl rfl cu (by omega) (fun z => ?_) (fun z => ?_)
    · rw [es] at z
      refine W_ok (y := 130) (q_mkI ⟨rfl, ?_⟩)
      show am_ww 255 0 [.ref 99, .int (nI c), .int (nI e), am_U] [] E I _ S _
      apply g255_0
      refine ins_G h1 hc he ?_
      rw [h9.1]
      have e119 : u_I I 99 (upd (I 99) 3 (nI 0)) 119 = I 119 := u_I_ne (by decide)
      refine m255_l hc4 he16 cu (by omega) (fun z' => ?_) (fun z' => absurd (by rw [e119] at z'; exact z') (by omega))
      refine q_mkI (tl_ok (by rw [u_I_eq, upd_eq]) (by rw [u_J_eq]; exact if_pos rfl) (h _ _ _ cu (Or.inl rfl) hcu ⟨fun k hk hk' _ => u_I_ne hk', fun f hf' _ => by rw [u_I_eq, upd_ne hf'], fun f _ => by rw [u_I_ne (by decide)], by rw [u_I_eq, upd_ne (by omega)]; exact h9.1, by rw [u_I_ne (by decide)]; exact h9.2.1⟩ ⟨d, vw_e (fun k hk => u_I_ne (by omega)) hvw⟩ (fun k hk => u_J_ne hk)))
    · rw [es] at z ⊢
      refine W_ok (y := 130) (q_mkI ⟨rfl, ?_⟩)
      generalize hr : srD (I 119) (nI (16 * c + e)) cu = r at z hle ⊢
      have hpu : p_eq I (u_I I 18 (upd (I 18) 11 (nI (r - 1)))) := p_eq_u (by omega)
      have g103 : u_I I 18 (upd (I 18) 11 (nI (r - 1))) 103 = I 103 := u_I_ne (by decide)
      have g105 : u_I I 18 (upd (I 18) 11 (nI (r - 1))) 105 = I 105 := u_I_ne (by decide)
      have g99 : u_I I 18 (upd (I 18) 11 (nI (r - 1))) 99 = I 99 := u_I_ne (by decide)
      show am_ww 255 0 [.ref 99, .int (nI c), .int (nI e), am_U] [] E (u_I I 18 (upd (I 18) 11 (nI (r - 1)))) _ S _
      apply g255_0
      refine ins_G ((p_in_e hpu).mpr h1) (by rw [g103]; exact hc) (by rw [g105]; exact he) ?_
      rw [g99, h9.1]
      have e119 : u_I (u_I I 18 (upd (I 18) 11 (nI (r - 1)))) 99 (upd (I 99) 3 (nI 0)) 119 = I 119 := by rw [u_I_ne (by decide), u_I_ne (by decide)]
      refine m255_l hc4 he16 cu (by omega) (fun z' => absurd (by rw [e119, hr] at z'; exact z') (by omega)) (fun z' => ?_)
      rw [e119, hr, u_I_eq, uI_0]
      refine q_mkI (tl_ok (by rw [u_I_eq, upd_ne (by omega), upd_eq]) (by rw [u_J_eq]; exact if_pos rfl) (h _ _ _ (r - 1) (Or.inl rfl) (by omega) ⟨fun k hk hk' hk'' => by rw [u_I_ne hk', u_I_ne hk''], fun f hf' hf'' => by rw [u_I_eq, upd_ne hf'', upd_ne hf'], fun f hf' => by rw [u_I_ne (by decide), u_I_eq, upd_ne hf'], by rw [u_I_eq, upd_eq], by rw [u_I_ne (by decide), u_I_eq, upd_eq]⟩ ⟨d, vw_e (fun k hk => by rw [u_I_ne (by omega), u_I_ne (by omega)]) hvw⟩ (fun k hk => u_J_ne hk)))
theorem k_on {E : am_Ev} {I : Nat → Nat → Int32} {J : Nat → Nat → Int64} {S : Nat → Nat → Option Nat} {Q : am_Qt} {T cu ac n d i : Nat} {x4 : Int32} {d5 d6 : Value} (hd5 : am_isL d5 = false) (hd6 : am_isL d6 = false) (hcr : CR I T cu ac n) (hvw : vw I T d) (hx : x4 = nI i) (hi : i + 6 ≤ E.2.2.1) (hL : E.2.2.1 ≤ 3072) (h : Hc I J S E T x4 Q) : am_ww 291 607 [.ref 1000000, .ref 0, .ref 99, .ref 145, .int x4, d5, d6] [] E I J S Q := by
  apply g291_607 hd5 hd6
  refine L2 hx hi hL ?_
  generalize E.2.2.2 (i + 1) = x
  generalize E.2.2.2 (i + 2) = y
  obtain ⟨h1, h2, h3, h4, h5, h6, h7, h8, h9, h10, h11, h12, h13, h14⟩ := hcr
  have hT := h4.1.1
  have hcu := h9.2.2
  show am_ww 133 0 [.ref 0, .int x, .int y, .ref 145, am_U] [] E I J S _
  apply g133_0
  show am_ww 134 0 [.ref 0, .int x, .int y, am_U, am_U] [] E I J S _
  apply g134_0
  show am_ww 132 0 [.ref 0, .int x, .int y] [] E I J S _
  apply g132_0
  rcases ins_rng h1 x y with hb | ⟨c, e, hc, he, rfl, rfl⟩
  · refine ins_CB h1 h2 hb ⟨1, rfl, q_mkI ⟨rfl, ?_⟩⟩
    show am_ww 257 0 [.ref 99, .int x, .int y, am_U] [] (Ex E) I J S _
    apply g257_0
    exact ins_P h1 hb (tc_bad h9 hvw h)
  · obtain ⟨hc4, he16⟩ := ins_lt h1 hc he
    refine ins_CG h1 h2 hc he ⟨rfl, ?_⟩
    have e33 : ∀ t, 1 ≤ t → t ≤ T → I 33 t = I 119 t := fun t a b => by
      obtain ⟨C, p, q1, q2, q3, q4, q5, q6, q7⟩ := h11 t a b
      exact q5
    rw [h9.2.1, nI_mulI, nI_add, Nat.mul_comm c 16]
    rw [nI_add]
    have es : srU (I 33) (nI (16 * c + e)) (T - cu) (cu + 1) = srU (I 119) (nI (16 * c + e)) (T - cu) (cu + 1) := srU_c _ _ (fun t a b => e33 t (by omega) (by omega))
    have hin := srU_in (I 119) (nI (16 * c + e)) (T - cu) (cu + 1)
    refine c134_l rfl rfl hT h8.2 (T - cu) (cu + 1) (by omega) (by omega) (fun z => ?_) (fun z => ?_)
    · rw [es] at z
      refine W_ok (y := 133) (q_mkI ⟨rfl, ?_⟩)
      show am_ww 257 0 [.ref 99, .int (nI c), .int (nI e), am_U] [] E I _ S _
      apply g257_0
      refine ins_G h1 hc he ?_
      rw [h9.1, nI_add]
      have e119 : u_I I 99 (upd (I 99) 3 (nI 0)) 119 = I 119 := u_I_ne (by decide)
      have eT : u_I I 99 (upd (I 99) 3 (nI 0)) 99 12 = nI T := by rw [u_I_eq, upd_ne (by omega)]; exact h8.1
      refine m257_l hc4 he16 hT eT (T - cu) (cu + 1) (by omega) (by omega) (fun z' => ?_) (fun z' => absurd (by rw [e119] at z'; exact z') (by omega))
      refine q_mkI (tl_ok (by rw [u_I_eq, upd_eq]) (by rw [u_J_eq]; exact if_pos rfl) (h _ _ _ cu (Or.inl rfl) hcu ⟨fun k hk hk' _ => u_I_ne hk', fun f hf' _ => by rw [u_I_eq, upd_ne hf'], fun f _ => by rw [u_I_ne (by decide)], by rw [u_I_eq, upd_ne (by omega)]; exact h9.1, by rw [u_I_ne (by decide)]; exact h9.2.1⟩ ⟨d, vw_e (fun k hk => u_I_ne (by omega)) hvw⟩ (fun k hk => u_J_ne hk)))
    · rw [es] at z ⊢
      refine W_ok (y := 133) (q_mkI ⟨rfl, ?_⟩)
      generalize hr : srU (I 119) (nI (16 * c + e)) (T - cu) (cu + 1) = r at z hin ⊢
      have hpu : p_eq I (u_I I 18 (upd (I 18) 11 (nI r))) := p_eq_u (by omega)
      have g103 : u_I I 18 (upd (I 18) 11 (nI r)) 103 = I 103 := u_I_ne (by decide)
      have g105 : u_I I 18 (upd (I 18) 11 (nI r)) 105 = I 105 := u_I_ne (by decide)
      have g99 : u_I I 18 (upd (I 18) 11 (nI r)) 99 = I 99 := u_I_ne (by decide)
      show am_ww 257 0 [.ref 99, .int (nI c), .int (nI e), am_U] [] E (u_I I 18 (upd (I 18) 11 (nI r))) _ S _
      apply g257_0
      refine ins_G ((p_in_e hpu).mpr h1) (by rw [g103]; exact hc) (by rw [g105]; exact he) ?_
      rw [g99, h9.1, nI_add]
      have e119 : u_I (u_I I 18 (upd (I 18) 11 (nI r))) 99 (upd (I 99) 3 (nI 0)) 119 = I 119 := by rw [u_I_ne (by decide), u_I_ne (by decide)]
      have eT : u_I (u_I I 18 (upd (I 18) 11 (nI r))) 99 (upd (I 99) 3 (nI 0)) 99 12 = nI T := by rw [u_I_eq, upd_ne (by omega)]; exact h8.1
      refine m257_l hc4 he16 hT eT (T - cu) (cu + 1) (by omega) (by omega) (fun z' => absurd (by rw [e119, hr] at z'; exact z') (by omega)) (fun z' => ?_)
      rw [e119, hr, u_I_eq, uI_0]
      refine q_mkI (tl_ok (by rw [u_I_eq, upd_ne (by omega), upd_eq]) (by rw [u_J_eq]; exact if_pos rfl) (h _ _ _ r (Or.inl rfl) (by omega) ⟨fun k hk hk' hk'' => by rw [u_I_ne hk', u_I_ne hk''], fun f hf' hf'' => by rw [u_I_eq, upd_ne hf'', upd_ne hf'], fun f hf' => by rw [u_I_ne (by decide), u_I_eq, upd_ne hf'], by rw [u_I_eq, upd_eq], by rw [u_I_ne (by decide), u_I_eq, upd_eq]⟩ ⟨d, vw_e (fun k hk => by rw [u_I_ne (by omega), u_I_ne (by omega)]) hvw⟩ (fun k hk => u_J_ne hk)))
