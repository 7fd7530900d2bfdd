/-! greatest cost; snapshot, seek: the calls -/
theorem nI_max {a b : Nat} (ha : a < 2 ^ 31) (hb : b < 2 ^ 31) : (if nI a < nI b then nI b else nI a) = nI (max a b) := by
  by_cases c : a < b
  · rw [if_pos ((nI_ltI ha hb).mpr c), Nat.max_eq_right (by omega)]
  · rw [if_neg (fun q => c ((nI_ltI ha hb).mp q)), Nat.max_eq_left (by omega)]
theorem c105 {E : am_Ev} {I : Nat → Nat → Int32} {J : Nat → Nat → Int64} {S : Nat → Nat → Option Nat} {Q : am_Qt} {n T : Nat} {F : Nat → Nat} (en : I 85 1 = nI n) (hn1 : 1 ≤ n) (hn : n ≤ 9) (ha : ar (I 86) n F) (hs : ∀ a b, a < b → b < n → F a < F b) (hF : ∀ j, j < n → F j ≤ T) (hT : T ≤ 400) (h : Q (.inl (some (.int (nI (gA F (n - 1) 1 (T - pr F T n 0 0)))))) E I J S) : am_cl 105 [.ref 85, .int (nI T)] E I J S Q := by
  show am_ww 105 0 [.ref 85, .int (nI T), am_U, am_U] [] E I J S Q
  apply g105_0
  refine c106 en hn ha (fun j hj => by have := hF j hj; omega) hT (q_mkI ?_)
  have l : ∀ m i v, i + m = n → 1 ≤ i → v ≤ 400 → Q (.inl (some (.int (nI (gA F m i v))))) E I J S → am_ww 105 6 [.ref 85, .int (nI T), .int (nI v), .int (nI i)] [] E I J S Q := by
    intro m
    induction m with
    | zero =>
      intro i v ei i1 hv h
      apply g105_6 rfl
      rw [en, nI_leI (by omega) (by omega)]
      exact ⟨fun _ => h, fun q => absurd (by omega) q⟩
    | succ m ih =>
      intro i v ei i1 hv h
      apply g105_6 rfl
      have g1 := hs (i - 1) i (by omega) (by omega)
      have g2 := hF i (by omega)
      rw [en, nI_leI (by omega) (by omega), nI_subI i1, nI_clamp (by omega), nI_clamp (by omega), ha i (by omega), ha (i - 1) (by omega), nI_subI (show 1 ≤ F i by omega), nI_subI (show F (i - 1) ≤ F i - 1 by omega), nI_max (by omega) (by omega), nI_add]
      refine ⟨fun q => absurd q (by omega), fun _ => ⟨vp_in_nI (by omega) (by omega), vp_in_nI (by omega) (by omega), fun w3 e3 => ?_⟩⟩
      subst e3
      exact ih (i + 1) _ (by omega) (by omega) (Nat.max_le.mpr ⟨hv, by omega⟩) h
  exact l (n - 1) 1 _ (by omega) (by omega) (by omega) h
theorem m227_l {E : am_Ev} {I : Nat → Nat → Int32} {J : Nat → Nat → Int64} {S : Nat → Nat → Option Nat} {Q : am_Qt} {n T : Nat} {F : Nat → Nat} (eT : I 99 12 = nI T) (en : I 99 42 = nI n) (hn : n ≤ 9) (ha : ar (I 125) n F) (hs : ∀ a b, a < b → b < n → F a < F b) (hF : ∀ j, j < n → F j ≤ T) (hT : T ≤ 400) : ∀ m x v, x + m = T + 1 → v ≤ 400 → Q (.inl (some (.int (nI (gB (fun x => x - pr F x n 0 0) m x v))))) E I J S → am_ww 227 6 [.ref 99, .int (nI v), .int (nI x)] [] E I J S Q := by
  intro m
  induction m with
  | zero =>
    intro x v ex hv h
    apply g227_6
    rw [eT, nI_ltI (by omega) (by omega)]
    exact ⟨fun _ => h, fun q => absurd (by omega) q⟩
  | succ m ih =>
    intro x v ex hv h
    apply g227_6
    rw [eT, nI_ltI (by omega) (by omega)]
    refine ⟨fun q => absurd q (by omega), fun _ => ?_⟩
    refine m228 en hn ha hs (fun j hj => by have := hF j hj; omega) (by omega) (q_mkI ?_)
    rw [nI_max (by omega) (by omega), nI_add]
    exact ih (x + 1) _ (by omega) (Nat.max_le.mpr ⟨hv, by omega⟩) h
/-- what the snapshots of a time are -/
theorem sn_ok {T s : Nat} (hs : 2 ≤ s) : (1 ≤ (sn s (T / 16) 16 1 (fun _ => 0)).1 ∧ (sn s (T / 16) 16 1 (fun _ => 0)).1 ≤ s) ∧ (sn s (T / 16) 16 1 (fun _ => 0)).2 0 = 0 ∧ (∀ a b, a < b → b < (sn s (T / 16) 16 1 (fun _ => 0)).1 → (sn s (T / 16) 16 1 (fun _ => 0)).2 a < (sn s (T / 16) 16 1 (fun _ => 0)).2 b) ∧ (∀ j, j < (sn s (T / 16) 16 1 (fun _ => 0)).1 → (sn s (T / 16) 16 1 (fun _ => 0)).2 j < 16 + 16 * (T / 16)) := sn_SI hs (T / 16) 16 1 (fun _ => 0) (SI_0 hs)
/-- all of them are multiples of 16 -/
theorem sn_16 {s : Nat} : ∀ m x n (F : Nat → Nat), x % 16 = 0 → (∀ j, F j % 16 = 0) → ∀ j, (sn s m x n F).2 j % 16 = 0 := by
  intro m
  induction m with
  | zero => intro x n F _ h; exact h
  | succ m ih =>
    intro x n F hx h
    refine ih (x + 16) _ _ (by omega) (fun j => ?_)
    have hp : ∀ j, put1 F n x j % 16 = 0 := fun j => by
      unfold put1
      split
      · exact hx
      · exact h j
    unfold sadd
    by_cases c : n + 1 ≤ s
    · rw [if_pos c]; exact hp j
    · rw [if_neg c]
      show drp (put1 F n x) _ j % 16 = 0
      unfold drp
      split
      · exact hp j
      · exact hp (j + 1)
theorem sn_T {T s j : Nat} (hs : 2 ≤ s) (hj : j < (sn s (T / 16) 16 1 (fun _ => 0)).1) : (sn s (T / 16) 16 1 (fun _ => 0)).2 j ≤ T := by
  have a := (sn_ok (T := T) hs).2.2.2 j hj
  have b := sn_16 (s := s) (T / 16) 16 1 (fun _ => 0) (by omega) (fun _ => rfl) j
  omega
/-- the class's snapshots, made anew -/
theorem c101 {E : am_Ev} {I : Nat → Nat → Int32} {J : Nat → Nat → Int64} {S : Nat → Nat → Option Nat} {Q : am_Qt} {T s : Nat} (eT : I 18 10 = nI T) (es : I 17 3 = nI s) (hT : T ≤ 400) (hs : 2 ≤ s) (hs8 : s ≤ 8) (h : ∀ I', fr I I' [85, 86] → I' 85 1 = nI (sn s (T / 16) 16 1 (fun _ => 0)).1 → ar (I' 86) (sn s (T / 16) 16 1 (fun _ => 0)).1 (sn s (T / 16) 16 1 (fun _ => 0)).2 → Q (.inl (some (.ref 85))) E I' J S) : am_cl 101 [.ref 0] E I J S Q := by
  show am_ww 101 0 [.ref 0] [] E I J S Q
  apply g101_0
  rw [eT, es]
  exact c102 hT hs hs8 (fun I' f e a => q_mkV (h I' f e a))
theorem k_snapshot {E : am_Ev} {I : Nat → Nat → Int32} {J : Nat → Nat → Int64} {S : Nat → Nat → Option Nat} {Q : am_Qt} {T cu ac n d i : Nat} {x4 : Int32} {d5 d6 : Value} (hd5 : am_isL d5 = false) (hd6 : am_isL d6 = false) (hcr : CR I T cu ac n) (hvw : vw I T d) (hx : x4 = nI i) (hi : i + 6 ≤ E.2.2.1) (hL : E.2.2.1 ≤ 3072) (h : Hn I J S E x4 Q) : am_ww 291 370 [.ref 1000000, .ref 0, .ref 99, .ref 145, .int x4, d5, d6] [] E I J S Q := by
  apply g291_370 hd5 hd6
  refine L1 hx hi hL ?_
  generalize E.2.2.2 (i + 1) = x
  obtain ⟨h1, h2, h3, h4, h5, h6, h7, h8, h9, h10, h11, h12, h13, h14⟩ := id hcr
  have hT4 := h4.1.1
  obtain ⟨s, s1, s2, s3⟩ := h3.2.2
  obtain ⟨k1, k2, k3, k4⟩ := sn_ok (T := T) s1
  show am_ww 118 0 [.ref 0, .int x, .ref 145, am_U] [] E I J S _
  apply g118_0
  show am_ww 119 0 [.ref 0, .int x, am_U] [] E I J S _
  apply g119_0
  refine c101 h8.2 (by rw [h2.2.2.2 3 (by omega)]; exact s3) hT4 s1 s2 (fun I1 f1 e1 a1 => q_mkR ⟨rfl, ?_⟩)
  have ref : ∀ (E1 : am_Ev) (J1 : Nat → Nat → Int64) (Q' : am_Qt), (∀ I', fr I I' [85, 86, 99, 125] → (∀ f, f ≠ 3 → f ≠ 42 → I' 99 f = I 99 f) → I' 99 3 = nI 0 → I' 99 42 = nI (sn s (T / 16) 16 1 (fun _ => 0)).1 → ar (I' 125) (sn s (T / 16) 16 1 (fun _ => 0)).1 (sn s (T / 16) 16 1 (fun _ => 0)).2 → Q' (.inl none) E1 I' J1 S) → am_cl 225 [.ref 99] E1 (u_I I1 99 (upd (I1 99) 3 (nI 0))) J1 S Q' := by
    intro E1 J1 Q' hq
    have y99 : u_I I1 99 (upd (I1 99) 3 (nI 0)) 99 = upd (I 99) 3 (nI 0) := by rw [u_I_eq, f1 99 (by decide)]
    have yo : ∀ k, k ≠ 99 → u_I I1 99 (upd (I1 99) 3 (nI 0)) k = I1 k := fun k a => u_I_ne a
    generalize u_I I1 99 (upd (I1 99) 3 (nI 0)) = I2 at y99 yo ⊢
    refine m225 (by rw [y99, upd_ne (by omega)]; exact h8.1) (by rw [yo 103 (by omega), f1 103 (by decide)]; exact s3) hT4 s1 s2 (fun I3 f3 g3 e3 a3 => hq I3 (fun k hk => ?_) (fun f a b => ?_) ?_ e3 a3)
    · simp only [List.mem_cons, List.not_mem_nil, or_false, not_or] at hk
      rw [f3 k (by simp [hk.2.2.1, hk.2.2.2]), yo k hk.2.2.1, f1 k (by simp [hk.1, hk.2.1])]
    · rw [g3 f b, y99, upd_ne a]
    · rw [g3 3 (by omega), y99, upd_eq]
  generalize sn s (T / 16) 16 1 (fun _ => 0) = H at k1 k2 k3 k4 e1 a1 ref
  obtain ⟨N, F⟩ := H
  dsimp only at k1 k2 k3 k4 e1 a1 ref
  rw [e1]
  rcases rng' x N (by omega) with ⟨j, hj, ej⟩ | ⟨nx, hb⟩
  · subst ej
    refine ⟨fun q => absurd q (nI_pos (by omega)), fun _ => ⟨fun _ => ⟨vp_in_nI (by omega) (by omega), ?_⟩, fun q => absurd ((nI_ltI (by omega) (by omega)).mpr hj) q⟩⟩
    rw [nI_clamp (by omega), a1 j hj]
    refine W_ok (y := 118) (q_mkI ⟨rfl, ?_⟩)
    show am_ww 249 0 [.ref 99, .int (nI j)] [] E I1 _ S _
    apply g249_0
    refine ref _ _ _ (fun I3 f3 g3 e3 e42 a3 => q_mkV ?_)
    rw [e42, nI_subI (by omega), nI_clamp (by omega), a3 j hj]
    refine ⟨fun q => absurd ((nI_ltI (by omega) (by omega)).mp q) (by omega), fun _ => ⟨fun q => absurd ((nI_ltI (by omega) (by omega)).mp q) (by omega), fun _ => ⟨vp_in_nI (by omega) (by omega), q_mkI (tl_ok e3 (by rw [u_J_eq]; exact if_pos rfl) (Hn_q h (Or.inl rfl) hcr hvw (fun k hk => f3 k (by simp; omega)) (fun f hf => g3 f (by omega) (by omega)) (fun k hk => u_J_ne hk)))⟩⟩⟩
  · have t : q_I (fun v1 E1 I1 J1 S1 => E1.2.2 = E.2.2 ∧ am_cl 249 [.ref 99, .int x] E1 I1 J1 S1 (q_I fun v2 E2 I2 J2 S2 => tl v1 v2 x4 E2 I2 J2 S2 Q)) (.inl (some (.int (nI 1)))) (E.1 + 1, E.2.1 + 6, E.2.2) I1 J S := by
      refine q_mkI ⟨rfl, ?_⟩
      show am_ww 249 0 [.ref 99, .int x] [] _ I1 J S _
      apply g249_0
      refine ref _ _ _ (fun I3 f3 g3 e3 e42 a3 => q_mkV ?_)
      rw [e42]
      have tb : q_I (fun v2 E2 I2 J2 S2 => tl (nI 1) v2 x4 E2 I2 J2 S2 Q) (.inl (some (.int (nI 0)))) (E.1 + 1, E.2.1 + 6, E.2.2) (u_I I3 99 (upd (I3 99) 3 (nI 1))) J S := q_mkI (tl_bad (by omega) (by omega) (by rw [u_I_eq, upd_eq]) (Hn_q h (Or.inr rfl) hcr hvw (fun k hk => by rw [u_I_ne (by omega), f3 k (by simp; omega)]) (fun f hf => by rw [u_I_eq, upd_ne (by omega)]; exact g3 f (by omega) (by omega)) Jq_id))
      exact tst' (by omega) (fun q => absurd q nx) (fun _ => tb)
    exact ⟨fun _ => ⟨1, rfl, t⟩, fun q0 => ⟨fun q1 => (ctr hb q0 q1).elim, fun _ => ⟨1, rfl, t⟩⟩⟩
theorem k_seek {E : am_Ev} {I : Nat → Nat → Int32} {J : Nat → Nat → Int64} {S : Nat → Nat → Option Nat} {Q : am_Qt} {T cu ac n d i : Nat} {x4 : Int32} {d5 d6 : Value} (hd5 : am_isL d5 = false) (hd6 : am_isL d6 = false) (hcr : CR I T cu ac n) (hvw : vw I T d) (hx : x4 = nI i) (hi : i + 6 ≤ E.2.2.1) (hL : E.2.2.1 ≤ 3072) (h : Hn I J S E x4 Q) : am_ww 291 405 [.ref 1000000, .ref 0, .ref 99, .ref 145, .int x4, d5, d6] [] E I J S Q := by
  apply g291_405 hd5 hd6
  refine L1 hx hi hL ?_
  generalize E.2.2.2 (i + 1) = x
  obtain ⟨h1, h2, h3, h4, h5, h6, h7, h8, h9, h10, h11, h12, h13, h14⟩ := id hcr
  have hT4 := h4.1.1
  obtain ⟨s, s1, s2, s3⟩ := h3.2.2
  obtain ⟨k1, k2, k3, k4⟩ := sn_ok (T := T) s1
  have k5 := fun j hj => sn_T (T := T) (j := j) s1 hj
  show am_ww 120 0 [.ref 0, .int x, .ref 145, am_U] [] E I J S _
  apply g120_0
  show am_ww 121 0 [.ref 0, .int x] [] E I J S _
  apply g121_0
  rw [h8.2]
  rcases rng' x (T + 1) (by omega) with ⟨c, hc, ec⟩ | ⟨nx, hb⟩
  · subst ec
    refine ⟨fun q => absurd q (nI_pos (by omega)), fun _ => ⟨fun _ => ?_, fun q => absurd ((nI_leI (by omega) (by omega)).mpr (by omega)) q⟩⟩
    have z18 : u_I I 18 (upd (I 18) 11 (nI c)) 18 = upd (I 18) 11 (nI c) := u_I_eq
    have zo : ∀ k, k ≠ 18 → u_I I 18 (upd (I 18) 11 (nI c)) k = I k := fun k a => u_I_ne a
    generalize u_I I 18 (upd (I 18) 11 (nI c)) = I0 at z18 zo ⊢
    refine c101 (T := T) (s := s) (by rw [z18, upd_ne (by omega)]; exact h8.2) (by rw [zo 17 (by omega), h2.2.2.2 3 (by omega)]; exact s3) hT4 s1 s2 (fun I1 f1 e1 a1 => q_mkR ⟨rfl, ?_⟩)
    refine c106 e1 (by omega) a1 (fun j hj => by have := k5 j hj; omega) (by omega) (q_mkI (W_ok (y := 120) (q_mkI ⟨rfl, ?_⟩)))
    show am_ww 250 0 [.ref 99, .int (nI c)] [] E I1 _ S _
    apply g250_0
    have e99 : I1 99 = I 99 := by rw [f1 99 (by decide), zo 99 (by omega)]
    rw [e99, h8.1]
    refine ⟨fun q => absurd ((nI_ltI (by omega) (by omega)).mp q) (by omega), fun _ => ⟨fun q => absurd ((nI_ltI (by omega) (by omega)).mp q) (by omega), fun _ => ?_⟩⟩
    have y99 : u_I I1 99 (upd (upd (I 99) 3 (nI 0)) 13 (nI c)) 99 = upd (upd (I 99) 3 (nI 0)) 13 (nI c) := u_I_eq
    have yo : ∀ k, k ≠ 99 → u_I I1 99 (upd (upd (I 99) 3 (nI 0)) 13 (nI c)) k = I1 k := fun k a => u_I_ne a
    generalize u_I I1 99 (upd (upd (I 99) 3 (nI 0)) 13 (nI c)) = I2 at y99 yo ⊢
    refine m225 (T := T) (s := s) (by rw [y99, upd_ne (by omega), upd_ne (by omega)]; exact h8.1) (by rw [yo 103 (by omega), f1 103 (by decide), zo 103 (by omega)]; exact s3) hT4 s1 s2 (fun I3 f3 g3 e3 a3 => q_mkV ?_)
    refine m228 e3 (by omega) a3 k3 (fun j hj => by have := k5 j hj; omega) (by omega) (q_mkI (q_mkI (tl_ok ?_ ?_ ?_)))
    · rw [g3 3 (by omega), y99, upd_ne (by omega), upd_eq]
    · rw [u_J_eq]; exact if_pos rfl
    · have f13 : ∀ k, k ≠ 18 → k ≠ 85 → k ≠ 86 → k ≠ 99 → k ≠ 125 → I3 k = I k := fun k a b c d e => by rw [f3 k (by simp [d, e]), yo k d, f1 k (by simp [b, c]), zo k a]
      have g18 : I3 18 = upd (I 18) 11 (nI c) := by rw [f3 18 (by decide), yo 18 (by omega), f1 18 (by decide), z18]
      have g99 : ∀ f, f ≠ 3 → f ≠ 13 → f ≠ 42 → I3 99 f = I 99 f := fun f a b c => by rw [g3 f c, y99, upd_ne b, upd_ne a]
      have g13 : I3 99 13 = nI c := by rw [g3 13 (by omega), y99, upd_eq]
      refine h _ _ _ T c ac n d (Or.inl rfl) ?_ (vw_e (fun k hk => f13 k (by omega) (by omega) (by omega) (by omega) (by omega)) hvw) ⟨fun k hk => f13 k (by omega) (by omega) (by omega) (by omega) (by omega), fun f hf => g99 f (by omega) (by omega) (by omega)⟩ (Or.inr ⟨fun k a b => f13 k (by omega) (by omega) (by omega) (by omega) (by omega), f13 33 (by omega) (by omega) (by omega) (by omega) (by omega), by rw [g18, upd_ne (by omega)], u_J_ne (by omega)⟩)
      have hh : h_eq I I3 := ⟨fun k a b => f13 k (by omega) (by omega) (by omega) (by omega) (by omega), f13 117 (by omega) (by omega) (by omega) (by omega) (by omega), f13 120 (by omega) (by omega) (by omega) (by omega) (by omega), f13 121 (by omega) (by omega) (by omega) (by omega) (by omega), f13 122 (by omega) (by omega) (by omega) (by omega) (by omega), f13 123 (by omega) (by omega) (by omega) (by omega) (by omega)⟩
      have ff : ∀ k, 12 ≤ k ∧ k < 18 ∨ 19 ≤ k ∧ k < 39 ∨ 103 ≤ k ∧ k < 125 ∨ k = 126 ∨ k = 127 → I3 k = I k := fun k hk => f13 k (by omega) (by omega) (by omega) (by omega) (by omega)
      have g18' : ∀ f, f ≠ 11 → I3 18 f = I 18 f := fun f a => by rw [g18, upd_ne a]
      have er : rt I3 = rt I := rt_e hh.2.1
      refine ⟨(p_in_e hh.1).mpr h1, (p_cl_e ⟨fun k a b => ff k (by omega), hh.1⟩).mpr h2, ?_, RW_e hh h4, ?_, (gq_e (fun k hk => ff k (by omega))).mpr h6, ?_, ?_, ⟨g13, by rw [g18, upd_eq], by omega⟩, ?_, ?_, ?_, ?_, ?_⟩
      · unfold st_ok
        rw [ff 103 (by omega)]
        exact h3
      · unfold sq
        rw [g18' 9 (by omega), ff 29 (by omega), ff 30 (by omega), ff 31 (by omega), hh.2.2.1, hh.2.2.2.1, hh.2.2.2.2.1]
        exact h5
      · rw [er, ff 124 (by omega)]; exact h7
      · rw [g99 12 (by omega) (by omega) (by omega), g18' 10 (by omega)]; exact h8
      · rw [er, ff 19 (by omega)]
        exact ⟨rm_e h10.1 (fun k a b => ff k (by omega)), h10.2⟩
      · intro t a b
        obtain ⟨C, p, q⟩ := h11 t a b
        refine ⟨C, p, ?_⟩
        rw [er, ff 103 (by omega), ff 105 (by omega), ff 119 (by omega), ff 118 (by omega), ff 33 (by omega)]
        exact q
      · unfold DG
        rw [er, ff 103 (by omega), ff 32 (by omega)]
        exact h12
      · obtain ⟨a, b, c, d⟩ := h13
        refine ⟨by rw [g99 43 (by omega) (by omega) (by omega)]; exact a, by rw [ff 34 (by omega)]; exact b, c, ?_⟩
        rw [ff 124 (by omega)]
        exact aw_e (fun k hk => ff k (by omega)) _ _ _ d
      · rw [ff 110 (by omega), g18' 12 (by omega), g18' 13 (by omega)]; exact h14
  · have t : q_I (fun v1 E1 I1 J1 S1 => E1.2.2 = E.2.2 ∧ am_cl 250 [.ref 99, .int x] E1 I1 J1 S1 (q_I fun v2 E2 I2 J2 S2 => tl v1 v2 x4 E2 I2 J2 S2 Q)) (.inl (some (.int (nI 1)))) (E.1 + 1, E.2.1 + 6, E.2.2) I J S := by
      refine q_mkI ⟨rfl, ?_⟩
      show am_ww 250 0 [.ref 99, .int x] [] _ I J S _
      apply g250_0
      rw [h8.1]
      have tb : q_I (fun v2 E2 I2 J2 S2 => tl (nI 1) v2 x4 E2 I2 J2 S2 Q) (.inl (some (.int (nI 0)))) (E.1 + 1, E.2.1 + 6, E.2.2) (u_I I 99 (upd (upd (I 99) 3 (nI 0)) 3 (nI 1))) J S := q_mkI (tl_bad (by omega) (by omega) (by rw [u_I_eq, upd_eq]) (Hn_q h (Or.inr rfl) hcr hvw (fun k hk => u_I_ne (by omega)) (fun f hf => by rw [u_I_eq, upd_ne (by omega), upd_ne (by omega)]) Jq_id))
      refine ⟨fun _ => tb, fun q0 => ⟨fun _ => tb, fun q1 => ?_⟩⟩
      rw [nI_0] at q0
      exact (ctr_le hb q0 (Int32.not_lt.mp q1) rfl (by omega)).elim
    exact ⟨fun _ => ⟨1, rfl, t⟩, fun q0 => ⟨fun q1 => (ctr_le hb q0 q1 rfl (by omega)).elim, fun _ => ⟨1, rfl, t⟩⟩⟩
