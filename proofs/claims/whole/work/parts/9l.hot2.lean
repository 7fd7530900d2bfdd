/-! hot: the call -/
theorem dn_D {I : Nat → Nat → Int32} {T : Nat} (hp : p_in I) (hd : ∀ t, 1 ≤ t → t ≤ T → dn I t) : ∀ t, 1 ≤ t → t ≤ T → (I 33 t = nI (I 119 t).toNatClampNeg ∧ (I 119 t).toNatClampNeg < 64) ∧ I 119 t = nI (I 119 t).toNatClampNeg := by
  intro t a b
  obtain ⟨C, p, h1, h2, h3, h4, h5, h6, h7⟩ := hd t a b
  obtain ⟨c4, p16⟩ := ins_lt hp h1 h2
  rw [h5, h3, nI_clamp (by omega)]
  exact ⟨⟨rfl, by omega⟩, rfl⟩
theorem k_hot {E : am_Ev} {I : Nat → Nat → Int32} {J : Nat → Nat → Int64} {S : Nat → Nat → Option Nat} {Q : am_Qt} {T cu ac n d i : Nat} {x4 : Int32} {d5 d6 : Value} (hd5 : am_isL d5 = false) (hd6 : am_isL d6 = false) (hcr : CR I T cu ac n) (hvw : vw I T d) (hx : x4 = nI i) (hi : i + 6 ≤ E.2.2.1) (hL : E.2.2.1 ≤ 3072) (h : Hn I J S E x4 Q) : am_ww 291 882 [.ref 1000000, .ref 0, .ref 99, .ref 145, .int x4, d5, d6] [] E I J S Q := by
  apply g291_882 hd5 hd6
  refine L2 hx hi hL ?_
  generalize E.2.2.2 (i + 1) = x
  generalize E.2.2.2 (i + 2) = y
  obtain ⟨h1, h2, h3, h4, h5, h6, h7, h8, h9, h10, h11, h12, h13, h14⟩ := id hcr
  have hT4 := h4.1.1
  have hD := dn_D h1 h11
  show am_ww 163 0 [.ref 0, .int x, .int y, .ref 145, am_U] [] E I J S _
  apply g163_0
  show am_ww 164 0 [.ref 0, .int x, .int y, am_U] [] E I J S _
  apply g164_0
  show am_ww 165 0 [.ref 96, .ref 18, am_U, am_U] [] E I J S _
  apply g165_0
  refine c13_98 (q_mkV ?_)
  have z96 : u_I (u_I I 98 (fil (I 98) 64 (nI 0))) 96 (upd (u_I I 98 (fil (I 98) 64 (nI 0)) 96) 2 (nI 0)) 96 2 = nI 0 := by rw [u_I_eq, upd_eq]
  have z98 : ∀ x, x < 64 → u_I (u_I I 98 (fil (I 98) 64 (nI 0))) 96 (upd (u_I I 98 (fil (I 98) 64 (nI 0)) 96) 2 (nI 0)) 98 x = nI 0 := fun x hx => by
    rw [u_I_ne (by decide), u_I_eq]
    exact if_pos hx
  have zo : fr I (u_I (u_I I 98 (fil (I 98) 64 (nI 0))) 96 (upd (u_I I 98 (fil (I 98) 64 (nI 0)) 96) 2 (nI 0))) [96, 97, 98] := fun k hk => by
    simp only [List.mem_cons, List.not_mem_nil, or_false, not_or] at hk
    rw [u_I_ne hk.1, u_I_ne hk.2.2]
  generalize u_I (u_I I 98 (fil (I 98) 64 (nI 0))) 96 (upd (u_I I 98 (fil (I 98) 64 (nI 0)) 96) 2 (nI 0)) = I0 at z96 z98 zo ⊢
  refine c165_l (I := I) (D := fun t => (I 119 t).toNatClampNeg) hT4 h8.2 (fun t a b => (hD t a b).1) T 1 0 (fun _ => 0) (fun _ => 0) I0 am_U rfl (by omega) (by omega) HI_0 zo z96 (fun j hj => absurd hj (by omega)) z98 (fun I1 f1 e96 e97 e98 hI => q_mkV ?_)
  generalize eh : hs (fun t => (I 119 t).toNatClampNeg) T 1 0 (fun _ => 0) (fun _ => 0) = H at e96 e97 e98 hI
  obtain ⟨k, o, c⟩ := H
  dsimp only at e96 e97 e98 hI
  have k64 : k ≤ 64 := by rw [hI.2.2.2.1]; exact m_cnt_le _ _ _
  -- the reference, on the heap that the class has left
  have ref : ∀ (E1 : am_Ev) (J1 : Nat → Nat → Int64) (Q' : am_Qt), (∀ I', fr I1 I' [99, 131, 132] → I' 99 = upd (I 99) 3 (nI 0) → (∀ j, j < k → I' 131 j = nI (o j) ∧ I' 132 j = nI (c (o j))) → Q' (.inl (some (.int (nI k)))) E1 I' J1 S) → am_cl 273 [.ref 99] E1 (u_I I1 99 (upd (I1 99) 3 (nI 0))) J1 S Q' := by
    intro E1 J1 Q' hq
    show am_ww 273 0 [.ref 99, am_U, am_U, am_U] [] E1 (u_I I1 99 (upd (I1 99) 3 (nI 0))) J1 S Q'
    apply g273_0
    have e99 : I1 99 = I 99 := f1 99 (by decide)
    rw [e99]
    have y99 : u_I I1 99 (upd (I 99) 3 (nI 0)) 99 = upd (I 99) 3 (nI 0) := u_I_eq
    have yo : ∀ k, k ≠ 99 → u_I I1 99 (upd (I 99) 3 (nI 0)) k = I1 k := fun k hk => u_I_ne hk
    generalize u_I I1 99 (upd (I 99) 3 (nI 0)) = I2 at y99 yo ⊢
    have e119 : I2 119 = I 119 := by rw [yo 119 (by omega), f1 119 (by decide)]
    refine m273_l (I := I2) (D := fun t => (I 119 t).toNatClampNeg) hT4 (by rw [y99, upd_ne (by omega)]; exact h8.1) (fun t a b => ?_) T 1 0 (fun _ => 0) (fun _ => 0) I2 am_U rfl (by omega) (by omega) HI_0 fr_id (fun j hj => absurd hj (by omega)) (fun j hj => absurd hj (by omega)) (fun I3 f3 e3 => ?_)
    · rw [e119]
      exact ⟨(hD t a b).2, (hD t a b).1.2⟩
    · rw [eh] at e3 ⊢
      refine hq I3 (fun j hj => ?_) ?_ e3
      · simp only [List.mem_cons, List.not_mem_nil, or_false, not_or] at hj
        rw [f3 j (by simp [hj.2.1, hj.2.2]), yo j hj.1]
      · rw [f3 99 (by decide), y99]
  have fin : ∀ (E1 : am_Ev) (J1 : Nat → Nat → Int64) (I' : Nat → Nat → Int32) (v : Int32), E1 = E ∨ E1 = Ex E → Jq J J1 → fr I1 I' [99, 131, 132] → (∀ f, f ≠ 3 → I' 99 f = I 99 f) → lk x4 E1 I' J1 S Q := by
    intro E1 J1 I' v hE hJ f' g'
    refine Hn_q h hE hcr hvw (fun k hk => ?_) (fun f hf => g' f (by omega)) hJ
    rw [f' k (by simp; omega), f1 k (by simp; omega)]
  have r272 : ∀ (E1 : am_Ev) (J1 : Nat → Nat → Int64) (Q' : am_Qt), am_ww 272 0 [.ref 99, .int x, .int y, am_U] [] E1 I1 J1 S Q' → am_cl 272 [.ref 99, .int x, .int y] E1 I1 J1 S Q' := fun _ _ _ z => z
  -- refused
  have bad : ¬ x = -1 → (¬ (∃ j, j < k ∧ x = nI j) ∨ ¬ (∃ j, j < 3 ∧ y = nI j)) → q_I (fun v1 E1 I1 J1 S1 => E1.2.2 = E.2.2 ∧ am_cl 272 [.ref 99, .int x, .int y] E1 I1 J1 S1 (q_I fun v2 E2 I2 J2 S2 => tl v1 v2 x4 E2 I2 J2 S2 Q)) (.inl (some (.int (nI 1)))) (E.1 + 1, E.2.1 + 6, E.2.2) I1 J S := by
    intro nx hb
    refine q_mkI ⟨rfl, r272 _ _ _ ?_⟩
    apply g272_0
    refine ref _ _ _ (fun I3 f3 e99 e3 => q_mkI ⟨fun q => absurd q nx, fun _ => ?_⟩)
    have t : q_I (fun v2 E2 I2 J2 S2 => tl (nI 1) v2 x4 E2 I2 J2 S2 Q) (.inl (some (.int (nI 0)))) (E.1 + 1, E.2.1 + 6, E.2.2) (u_I I3 99 (upd (I3 99) 3 (nI 1))) J S := by
      refine q_mkI (tl_bad (by omega) (by omega) (by rw [u_I_eq, upd_eq]) (fin _ _ _ 0 (Or.inr rfl) Jq_id (fun j hj => ?_) (fun f hf => ?_)))
      · simp only [List.mem_cons, List.not_mem_nil, or_false, not_or] at hj
        rw [u_I_ne hj.1, f3 j (by simp [hj.1, hj.2.1, hj.2.2])]
      · rw [u_I_eq, upd_ne hf, e99, upd_ne hf]
    have t2 : ∀ B : Prop, (¬ (∃ j, j < 3 ∧ y = nI j) → True) → ((∃ j, j < k ∧ x = nI j) → (∃ j, j < 3 ∧ y = nI j) → B) → True := fun _ _ _ => trivial
    refine tst' (by omega) (fun vx => ?_) (fun _ => t)
    have := tst' (x := y) (n := 3) (by omega) (A := False) (fun vy => by
      rcases hb with hb | hb
      · exact hb vx
      · exact hb vy) (fun _ => t)
    rw [nI_subI (by omega)] at this
    exact ⟨this.1, fun q => ⟨(this.2 q).1, fun q2 => ((this.2 q).2 q2).elim⟩⟩
  refine ⟨fun ex => ?_, fun nx => ?_⟩
  · rw [e96]
    refine W_ok (y := 163) (q_mkI ⟨rfl, r272 _ _ _ ?_⟩)
    apply g272_0
    refine ref _ _ _ (fun I3 f3 e99 e3 => q_mkI ⟨fun _ => q_mkI (tl_ok (by rw [e99, upd_eq]) (by rw [u_J_eq]; exact if_pos rfl) (fin _ _ _ 0 (Or.inl rfl) (fun k hk => u_J_ne hk) f3 (fun f hf => by rw [e99, upd_ne hf]))), fun q => absurd ex q⟩)
  · rw [e96]
    refine tst (by omega) (fun vx => ?_) (fun vx => ⟨1, rfl, bad nx (Or.inl vx)⟩)
    rcases rng' y 3 (by omega) with ⟨w, hw, ew⟩ | ⟨ny, hb⟩
    · obtain ⟨j, hj, ej⟩ := vx
      subst ej ew
      have oj := (hI.1 j hj).1
      refine ⟨fun q => absurd q (nI_pos (by omega)), fun _ => ⟨fun _ => ⟨vp_in_nI (by omega) (by omega), ?_⟩, fun q => absurd ((nI_leI (by omega) (by omega)).mpr (by omega)) q⟩⟩
      rw [nI_clamp (by omega), e97 j hj, nI_clamp (by omega), e98 _ oj]
      have good : ∀ v : Int32, v = (if w = 0 then nI (o j / 16) else if w = 1 then nI (o j % 16) else nI (c (o j))) → q_I (fun v1 E1 I1 J1 S1 => E1.2.2 = E.2.2 ∧ am_cl 272 [.ref 99, .int (nI j), .int (nI w)] E1 I1 J1 S1 (q_I fun v2 E2 I2 J2 S2 => tl v1 v2 x4 E2 I2 J2 S2 Q)) (.inl (some (.int (nI 0)))) E I1 (u_J J 145 (vp_updL (J 145) 0 v.toInt64)) S := by
        intro v ev
        refine q_mkI ⟨rfl, r272 _ _ _ ?_⟩
        apply g272_0
        refine ref _ _ _ (fun I3 f3 e99 e3 => q_mkI ⟨fun q => absurd q nx, fun _ => ?_⟩)
        rw [nI_subI (by omega)]
        refine ⟨fun q => absurd ((nI_ltI (by omega) (by omega)).mp q) (by omega), fun _ => ⟨fun q => absurd ((nI_ltI (by omega) (by omega)).mp q) (by omega), fun _ => ⟨fun q => absurd ((nI_ltI (by omega) (by omega)).mp q) (by omega), fun _ => ⟨fun q => absurd ((nI_ltI (by omega) (by omega)).mp q) (by omega), fun _ => ?_⟩⟩⟩⟩
        have vj : vp_in (nI j) 64 := vp_in_nI (by omega) (by omega)
        refine ⟨⟨fun _ => ⟨vj, trivial⟩, fun _ => ⟨fun _ => ⟨vj, trivial⟩, fun _ => ⟨vj, trivial⟩⟩⟩, fun w4 e4 => ?_⟩
        rw [nI_clamp (by omega), (e3 j hj).1, (e3 j hj).2, nI_divI (by omega) (by omega), nI_mulI, nI_subI (by omega)] at e4
        have ee : w4 = v := by
          rw [e4, ev]
          have : w = 0 ∨ w = 1 ∨ w = 2 := by omega
          rcases this with rfl | rfl | rfl
          · rw [if_pos nI_0, if_pos rfl]
          · rw [if_neg (show ¬ nI 1 = 0 by decide), if_pos (rfl : nI 1 = nI 1), if_neg (show ¬ (1 : Nat) = 0 by decide), if_pos (rfl : (1 : Nat) = 1), show o j - o j / 16 * 16 = o j % 16 by omega]
          · rw [if_neg (show ¬ nI 2 = 0 by decide), if_neg (show ¬ nI 2 = nI 1 by decide), if_neg (show ¬ (2 : Nat) = 0 by decide), if_neg (show ¬ (2 : Nat) = 1 by decide)]
        subst ee
        exact q_mkI (tl_ok (by rw [e99, upd_eq]) (by rw [u_J_eq]; exact if_pos rfl) (fin _ _ _ 0 (Or.inl rfl) (fun k hk => u_J_ne hk) f3 (fun f hf => by rw [e99, upd_ne hf])))
      refine ⟨fun w2 => ⟨vp_in_nI oj (by omega), W_ok (y := 163) (good _ ?_)⟩, fun w2 => ?_⟩
      · have : w = 2 := by rw [nI_eq (by omega) (by omega)] at w2; exact w2
        subst this
        rfl
      · intro w4 e4
        have nw2 : ¬ w = 2 := fun q => w2 (by rw [q])
        refine W_ok (y := 163) (good w4 ?_)
        rw [e4, nI_divI (by omega) (by omega), nI_mulI, nI_subI (by omega)]
        have : w = 0 ∨ w = 1 := by omega
        rcases this with rfl | rfl
        · rw [if_pos nI_0, if_pos rfl]
        · rw [if_neg (show ¬ nI 1 = 0 by decide), if_neg (show ¬ (1 : Nat) = 0 by decide), if_pos (rfl : (1 : Nat) = 1), show o j - o j / 16 * 16 = o j % 16 by omega]
    · have t := bad nx (Or.inr ny)
      exact ⟨fun _ => ⟨1, rfl, t⟩, fun q0 => ⟨fun q1 => (ctr_le hb q0 q1 rfl (by omega)).elim, fun _ => ⟨1, rfl, t⟩⟩⟩
