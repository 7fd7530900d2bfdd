/-! count -/
theorem sm3_c {f g : Nat → Int32} (h : ∀ z, z < 3 → f z = g z) : sm3 f = sm3 g := by
  unfold sm3
  rw [h 0 (by omega), h 1 (by omega), h 2 (by omega)]
theorem k_count {E : am_Ev} {I : Nat → Nat → Int32} {J : Nat → Nat → Int64} {S : Nat → Nat → Option Nat} {Q : am_Qt} {T cu ac n d i : Nat} {x4 : Int32} {d5 d6 : Value} (hd5 : am_isL d5 = false) (hd6 : am_isL d6 = false) (hcr : CR I T cu ac n) (hvw : vw I T d) (htp : I 1 1 = I 99 15) (hx : x4 = nI i) (hi : i + 6 ≤ E.2.2.1) (hL : E.2.2.1 ≤ 3072) (h : Hn I J S E x4 Q) : am_ww 291 124 [.ref 1000000, .ref 0, .ref 99, .ref 145, .int x4, d5, d6] [] E I J S Q := by
  apply g291_124 hd5 hd6
  refine L1 hx hi hL ?_
  generalize E.2.2.2 (i + 1) = x
  obtain ⟨h1, h2, h3, h4, h5, h6, h7, h8, h9, h10, h11, h12, h13, h14⟩ := id hcr
  have hT4 := h4.1.1
  have hrT := (h4.2.1 T (Nat.le_refl _)).1
  obtain ⟨pt, p1, p2, p3⟩ := h3.2.1
  obtain ⟨s, s1, s2, s3⟩ := h3.2.2
  obtain ⟨k1, k2, k3, k4⟩ := sn_ok (T := T) s1
  have k5 := fun j hj => sn_T (T := T) (j := j) s1 hj
  have hmm := vb h1.1
  have e17 : ∀ k, k < 4 → I 17 k = I 103 k := h2.2.2.2
  show am_ww 97 0 [.ref 0, .int x, .ref 145, am_U] [] E I J S _
  apply g97_0
  show am_ww 98 0 [.ref 0, .int x, am_U] [] E I J S _
  apply g98_0
  -- the reference's row
  have ref : ∀ (E1 : am_Ev) (I1 : Nat → Nat → Int32) (J1 : Nat → Nat → Int64) (K : am_Ev → (Nat → Nat → Int32) → (Nat → Nat → Int64) → (Nat → Nat → Option Nat) → Prop), fr I I1 [85, 86] → (∀ I2, I2 99 = upd (I 99) 3 (nI 0) → e51 (I2 116) (rt I T) → (∀ k, k ≠ 99 → k ≠ 116 → k ≠ 85 → k ≠ 86 → I2 k = I k) → K E1 I2 J1 S) → am_cl 217 [.ref 99, .int ((I1 99) 12)] E1 (u_I I1 99 (upd (I1 99) 3 (nI 0))) J1 S (q_V K) := by
    intro E1 I1 J1 K f1 hk
    rw [f1 99 (by decide), h8.1]
    have y99 : u_I I1 99 (upd (I 99) 3 (nI 0)) 99 = upd (I 99) 3 (nI 0) := u_I_eq
    have yo : ∀ k, k ≠ 99 → u_I I1 99 (upd (I 99) 3 (nI 0)) k = I1 k := fun k a => u_I_ne a
    generalize u_I I1 99 (upd (I 99) 3 (nI 0)) = I0 at y99 yo ⊢
    have er : rt I0 = rt I := rt_e (by rw [yo 117 (by omega), f1 117 (by decide)])
    refine m217 hT4 (fun f ef => q_mkV (hk _ ?_ ?_ (fun k a b c d => ?_)))
    · rw [u_I_ne (by decide), y99]
    · rw [u_I_eq, ← er]; exact ef
    · rw [u_I_ne b, yo k a, f1 k (by simp [c, d])]
  have fin : ∀ (E1 : am_Ev) (J1 : Nat → Nat → Int64) (I' : Nat → Nat → Int32), E1 = E ∨ E1 = Ex E → Jq J J1 → (∀ k, k ≠ 99 → k ≠ 116 → k ≠ 85 → k ≠ 86 → k ≠ 125 → I' k = I k) → (∀ f, f ≠ 3 → f ≠ 42 → I' 99 f = I 99 f) → lk x4 E1 I' J1 S Q := fun E1 J1 I' hE hJ f' g' => Hn_q h hE hcr hvw (fun k hk => f' k (by omega) (by omega) (by omega) (by omega) (by omega)) (fun f hf => g' f (by omega) (by omega)) hJ
  have r216 : ∀ (E1 : am_Ev) (I1 : Nat → Nat → Int32) (J1 : Nat → Nat → Int64) (Q' : am_Qt), am_ww 216 0 [.ref 99, .int x] [] E1 I1 J1 S Q' → am_cl 216 [.ref 99, .int x] E1 I1 J1 S Q' := fun _ _ _ _ z => z
  have gd : ∀ (v v' : Int32) (I' : Nat → Nat → Int32), v' = v → I' 99 3 = nI 0 → (∀ k, k ≠ 99 → k ≠ 116 → k ≠ 85 → k ≠ 86 → k ≠ 125 → I' k = I k) → (∀ f, f ≠ 3 → f ≠ 42 → I' 99 f = I 99 f) → q_I (fun v2 E2 I2 J2 S2 => tl (nI 0) v2 x4 E2 I2 J2 S2 Q) (.inl (some (.int v'))) E I' (u_J J 145 (vp_updL (J 145) 0 v.toInt64)) S := by
    intro v v' I' ev e3 f' g'
    subst ev
    exact q_mkI (tl_ok e3 (by rw [u_J_eq]; exact if_pos rfl) (fin _ _ _ (Or.inl rfl) (fun k hk => u_J_ne hk) f' g'))
  refine ⟨?_, ?_, ?_, ?_, ?_, ?_, ?_, ?_, ?_, ?_, ?_, ?_, ?_, ?_, ?_, ?_, ?_, ?_, ?_⟩
  · intro ex
    subst ex
    refine W_ok (y := 97) (q_mkI ⟨rfl, r216 _ _ _ _ ?_⟩)
    apply g216_0
    refine ref _ _ _ _ fr_id (fun I2 e99 er fo => ?_)
    exact ⟨fun _ => gd _ _ _ (by rw [fo 103 (by omega) (by omega) (by omega) (by omega)]; exact h2.1.symm) (by rw [e99, upd_eq]) (fun k a b c d _ => fo k a b c d) (fun f a _ => by rw [e99, upd_ne a]), fun q => absurd q (by decide), fun q => absurd q (by decide), fun q => absurd q (by decide), fun q => absurd q (by decide), fun q => absurd q (by decide), fun q => absurd q (by decide), fun q => absurd q (by decide), fun q => absurd q (by decide), fun q => absurd q (by decide), fun q => absurd q (by decide), fun q => absurd q (by decide), fun q => absurd q (by decide), fun q => absurd q (by decide), fun q => absurd q (by decide), fun q => absurd q (by decide), fun q => absurd q (by decide), fun q => absurd q (by decide), fun q0 q1 q2 q3 q4 q5 q6 q7 q8 q9 q10 q11 q12 q13 q14 q15 q16 q17 => absurd rfl q0⟩
  · intro ex
    subst ex
    refine W_ok (y := 97) (q_mkI ⟨rfl, r216 _ _ _ _ ?_⟩)
    apply g216_0
    refine ref _ _ _ _ fr_id (fun I2 e99 er fo => ?_)
    exact ⟨fun q => absurd q (by decide), fun _ => gd _ _ _ (by rw [e99, upd_ne (by omega), h8.1, h8.2]) (by rw [e99, upd_eq]) (fun k a b c d _ => fo k a b c d) (fun f a _ => by rw [e99, upd_ne a]), fun q => absurd q (by decide), fun q => absurd q (by decide), fun q => absurd q (by decide), fun q => absurd q (by decide), fun q => absurd q (by decide), fun q => absurd q (by decide), fun q => absurd q (by decide), fun q => absurd q (by decide), fun q => absurd q (by decide), fun q => absurd q (by decide), fun q => absurd q (by decide), fun q => absurd q (by decide), fun q => absurd q (by decide), fun q => absurd q (by decide), fun q => absurd q (by decide), fun q => absurd q (by decide), fun q0 q1 q2 q3 q4 q5 q6 q7 q8 q9 q10 q11 q12 q13 q14 q15 q16 q17 => absurd rfl q1⟩
  · intro ex
    subst ex
    refine W_ok (y := 97) (q_mkI ⟨rfl, r216 _ _ _ _ ?_⟩)
    apply g216_0
    refine ref _ _ _ _ fr_id (fun I2 e99 er fo => ?_)
    exact ⟨fun q => absurd q (by decide), fun q => absurd q (by decide), fun _ => gd _ _ _ (by rw [er 44 (by omega)]; exact h10.1.2.2.2.2.2.1.symm) (by rw [e99, upd_eq]) (fun k a b c d _ => fo k a b c d) (fun f a _ => by rw [e99, upd_ne a]), fun q => absurd q (by decide), fun q => absurd q (by decide), fun q => absurd q (by decide), fun q => absurd q (by decide), fun q => absurd q (by decide), fun q => absurd q (by decide), fun q => absurd q (by decide), fun q => absurd q (by decide), fun q => absurd q (by decide), fun q => absurd q (by decide), fun q => absurd q (by decide), fun q => absurd q (by decide), fun q => absurd q (by decide), fun q => absurd q (by decide), fun q => absurd q (by decide), fun q0 q1 q2 q3 q4 q5 q6 q7 q8 q9 q10 q11 q12 q13 q14 q15 q16 q17 => absurd rfl q2⟩
  · intro ex
    subst ex
    refine W_ok (y := 97) (q_mkI ⟨rfl, r216 _ _ _ _ ?_⟩)
    apply g216_0
    refine ref _ _ _ _ fr_id (fun I2 e99 er fo => ?_)
    exact ⟨fun q => absurd q (by decide), fun q => absurd q (by decide), fun q => absurd q (by decide), fun _ => gd _ _ _ (by rw [er 45 (by omega)]; exact h10.2.1.symm) (by rw [e99, upd_eq]) (fun k a b c d _ => fo k a b c d) (fun f a _ => by rw [e99, upd_ne a]), fun q => absurd q (by decide), fun q => absurd q (by decide), fun q => absurd q (by decide), fun q => absurd q (by decide), fun q => absurd q (by decide), fun q => absurd q (by decide), fun q => absurd q (by decide), fun q => absurd q (by decide), fun q => absurd q (by decide), fun q => absurd q (by decide), fun q => absurd q (by decide), fun q => absurd q (by decide), fun q => absurd q (by decide), fun q => absurd q (by decide), fun q0 q1 q2 q3 q4 q5 q6 q7 q8 q9 q10 q11 q12 q13 q14 q15 q16 q17 => absurd rfl q3⟩
  · intro ex
    subst ex
    refine W_ok (y := 97) (q_mkI ⟨rfl, r216 _ _ _ _ ?_⟩)
    apply g216_0
    refine ref _ _ _ _ fr_id (fun I2 e99 er fo => ?_)
    exact ⟨fun q => absurd q (by decide), fun q => absurd q (by decide), fun q => absurd q (by decide), fun q => absurd q (by decide), fun _ => gd _ _ _ (by rw [er 47 (by omega), h5.1]; exact h4.2.2.2.1) (by rw [e99, upd_eq]) (fun k a b c d _ => fo k a b c d) (fun f a _ => by rw [e99, upd_ne a]), fun q => absurd q (by decide), fun q => absurd q (by decide), fun q => absurd q (by decide), fun q => absurd q (by decide), fun q => absurd q (by decide), fun q => absurd q (by decide), fun q => absurd q (by decide), fun q => absurd q (by decide), fun q => absurd q (by decide), fun q => absurd q (by decide), fun q => absurd q (by decide), fun q => absurd q (by decide), fun q => absurd q (by decide), fun q0 q1 q2 q3 q4 q5 q6 q7 q8 q9 q10 q11 q12 q13 q14 q15 q16 q17 => absurd rfl q4⟩
  · intro ex
    subst ex
    refine c99_26 (q_mkI (W_ok (y := 97) (q_mkI ⟨rfl, r216 _ _ _ _ ?_⟩)))
    apply g216_0
    refine ref _ _ _ _ fr_id (fun I2 e99 er fo => ?_)
    refine ⟨fun q => absurd q (by decide), fun q => absurd q (by decide), fun q => absurd q (by decide), fun q => absurd q (by decide), fun q => absurd q (by decide), fun _ => m218 (q_mkI (gd _ _ _ ?_ (by rw [e99, upd_eq]) (fun k a b c d _ => fo k a b c d) (fun f a _ => by rw [e99, upd_ne a]))), fun q => absurd q (by decide), fun q => absurd q (by decide), fun q => absurd q (by decide), fun q => absurd q (by decide), fun q => absurd q (by decide), fun q => absurd q (by decide), fun q => absurd q (by decide), fun q => absurd q (by decide), fun q => absurd q (by decide), fun q => absurd q (by decide), fun q => absurd q (by decide), fun q => absurd q (by decide), fun q0 q1 q2 q3 q4 q5 q6 q7 q8 q9 q10 q11 q12 q13 q14 q15 q16 q17 => absurd rfl q5⟩
    exact sm3_c (fun z hz => by rw [er _ (by omega)]; exact (h10.1.2.2.2.2.2.2 z hz).symm)
  · intro ex
    subst ex
    intro w2 e2
    rw [e17 2 (by omega), p3] at e2
    have ew : w2 = nI pt := by
      rw [e2]
      by_cases c : 1 < pt
      · rw [if_pos ((nI_ltI (by omega) (by omega)).mpr c)]
      · rw [if_neg (fun q => c ((nI_ltI (by omega) (by omega)).mp q)), show pt = 1 by omega]
    subst ew
    refine ⟨nI_ne0 (by omega) (by omega), W_ok (y := 97) (q_mkI ⟨rfl, r216 _ _ _ _ ?_⟩)⟩
    apply g216_0
    refine ref _ _ _ _ fr_id (fun I2 e99 er fo => ?_)
    have e103 : I2 103 2 = nI pt := by rw [fo 103 (by omega) (by omega) (by omega) (by omega)]; exact p3
    exact ⟨fun q => absurd q (by decide), fun q => absurd q (by decide), fun q => absurd q (by decide), fun q => absurd q (by decide), fun q => absurd q (by decide), fun q => absurd q (by decide), fun _ => ⟨by rw [e103]; exact nI_ne0 (by omega) (by omega), gd _ _ _ (by rw [e103, e99, upd_ne (by omega), h8.1, h8.2]) (by rw [e99, upd_eq]) (fun k a b c d _ => fo k a b c d) (fun f a _ => by rw [e99, upd_ne a])⟩, fun q => absurd q (by decide), fun q => absurd q (by decide), fun q => absurd q (by decide), fun q => absurd q (by decide), fun q => absurd q (by decide), fun q => absurd q (by decide), fun q => absurd q (by decide), fun q => absurd q (by decide), fun q => absurd q (by decide), fun q => absurd q (by decide), fun q => absurd q (by decide), fun q0 q1 q2 q3 q4 q5 q6 q7 q8 q9 q10 q11 q12 q13 q14 q15 q16 q17 => absurd rfl q6⟩
  · intro ex
    subst ex
    refine c22_20 h1 h2 hrT h10.1 (q_mkI (W_ok (y := 97) (q_mkI ⟨rfl, r216 _ _ _ _ ?_⟩)))
    apply g216_0
    refine ref _ _ _ _ fr_id (fun I2 e99 er fo => ?_)
    have hpe : p_eq I I2 := fun k a b => fo k (by omega) (by omega) (by omega) (by omega)
    refine ⟨fun q => absurd q (by decide), fun q => absurd q (by decide), fun q => absurd q (by decide), fun q => absurd q (by decide), fun q => absurd q (by decide), fun q => absurd q (by decide), fun q => absurd q (by decide), fun _ => m219 ((p_in_e hpe).mpr h1) ((r_ok_e hpe).mpr (r_ok_c h1 hrT (fun k hk => (er k (by omega)).symm))) (q_mkI (gd _ _ _ ?_ (by rw [e99, upd_eq]) (fun k a b c d _ => fo k a b c d) (fun f a _ => by rw [e99, upd_ne a]))), fun q => absurd q (by decide), fun q => absurd q (by decide), fun q => absurd q (by decide), fun q => absurd q (by decide), fun q => absurd q (by decide), fun q => absurd q (by decide), fun q => absurd q (by decide), fun q => absurd q (by decide), fun q => absurd q (by decide), fun q => absurd q (by decide), fun q0 q1 q2 q3 q4 q5 q6 q7 q8 q9 q10 q11 q12 q13 q14 q15 q16 q17 => absurd rfl q7⟩
    rw [cnt_51 (P' := I2) h1 hrT hpe er (fo 124 (by omega) (by omega) (by omega) (by omega)), cnt_G h1 hrT (fun s hs => (h6 s hs).1)]
  · intro ex
    subst ex
    refine c100_20 h1 h2 h10.1 (q_mkI (W_ok (y := 97) (q_mkI ⟨rfl, r216 _ _ _ _ ?_⟩)))
    apply g216_0
    refine ref _ _ _ _ fr_id (fun I2 e99 er fo => ?_)
    have hpe : p_eq I I2 := fun k a b => fo k (by omega) (by omega) (by omega) (by omega)
    refine ⟨fun q => absurd q (by decide), fun q => absurd q (by decide), fun q => absurd q (by decide), fun q => absurd q (by decide), fun q => absurd q (by decide), fun q => absurd q (by decide), fun q => absurd q (by decide), fun q => absurd q (by decide), fun _ => m224 ((p_in_e hpe).mpr h1) (q_mkI (gd _ _ _ ?_ (by rw [e99, upd_eq]) (fun k a b c d _ => fo k a b c d) (fun f a _ => by rw [e99, upd_ne a]))), fun q => absurd q (by decide), fun q => absurd q (by decide), fun q => absurd q (by decide), fun q => absurd q (by decide), fun q => absurd q (by decide), fun q => absurd q (by decide), fun q => absurd q (by decide), fun q => absurd q (by decide), fun q => absurd q (by decide), fun q0 q1 q2 q3 q4 q5 q6 q7 q8 q9 q10 q11 q12 q13 q14 q15 q16 q17 => absurd rfl q8⟩
    rw [hpe 103 (by omega) (by omega), m_cnt_congr (f := ended I2 (I2 116)) (g := ended I (rt I T)) _ _ (fun j _ hj => ?_)]
    unfold ended
    rw [er _ (by omega), hpe 105 (by omega) (by omega)]
  · intro ex
    subst ex
    refine c101 h8.2 (by rw [e17 3 (by omega)]; exact s3) hT4 s1 s2 (fun I1 f1 e1 a1 => q_mkR ⟨rfl, ?_⟩)
    rw [e1]
    refine W_ok (y := 97) (q_mkI ⟨rfl, r216 _ _ _ _ ?_⟩)
    apply g216_0
    refine ref _ _ _ _ f1 (fun I2 e99 er fo => ?_)
    have e12 : I2 99 12 = nI T := by rw [e99, upd_ne (by omega)]; exact h8.1
    have e103 : I2 103 3 = nI s := by rw [fo 103 (by omega) (by omega) (by omega) (by omega)]; exact s3
    exact ⟨fun q => absurd q (by decide), fun q => absurd q (by decide), fun q => absurd q (by decide), fun q => absurd q (by decide), fun q => absurd q (by decide), fun q => absurd q (by decide), fun q => absurd q (by decide), fun q => absurd q (by decide), fun q => absurd q (by decide), fun _ => m225 e12 e103 hT4 s1 s2 (fun I3 f3 g3 e3 a3 => q_mkV (gd _ _ _ e3 (by rw [g3 3 (by omega), e99, upd_eq]) (fun k a b c d e => by rw [f3 k (by simp [a, e]), fo k a b c d]) (fun f a b => by rw [g3 f b, e99, upd_ne a]))), fun q => absurd q (by decide), fun q => absurd q (by decide), fun q => absurd q (by decide), fun q => absurd q (by decide), fun q => absurd q (by decide), fun q => absurd q (by decide), fun q => absurd q (by decide), fun q => absurd q (by decide), fun q0 q1 q2 q3 q4 q5 q6 q7 q8 q9 q10 q11 q12 q13 q14 q15 q16 q17 => absurd rfl q9⟩
  · intro ex
    subst ex
    refine c101 h8.2 (by rw [e17 3 (by omega)]; exact s3) hT4 s1 s2 (fun I1 f1 e1 a1 => q_mkR ⟨rfl, ?_⟩)
    rw [f1 18 (by decide), h8.2]
    refine c105 e1 k1.1 (by omega) a1 k3 k5 hT4 (q_mkI (W_ok (y := 97) (q_mkI ⟨rfl, r216 _ _ _ _ ?_⟩)))
    apply g216_0
    refine ref _ _ _ _ f1 (fun I2 e99 er fo => ?_)
    have e12 : I2 99 12 = nI T := by rw [e99, upd_ne (by omega)]; exact h8.1
    have e103 : I2 103 3 = nI s := by rw [fo 103 (by omega) (by omega) (by omega) (by omega)]; exact s3
    refine ⟨fun q => absurd q (by decide), fun q => absurd q (by decide), fun q => absurd q (by decide), fun q => absurd q (by decide), fun q => absurd q (by decide), fun q => absurd q (by decide), fun q => absurd q (by decide), fun q => absurd q (by decide), fun q => absurd q (by decide), fun q => absurd q (by decide), fun _ => ?_, fun q => absurd q (by decide), fun q => absurd q (by decide), fun q => absurd q (by decide), fun q => absurd q (by decide), fun q => absurd q (by decide), fun q => absurd q (by decide), fun q => absurd q (by decide), fun q0 q1 q2 q3 q4 q5 q6 q7 q8 q9 q10 q11 q12 q13 q14 q15 q16 q17 => absurd rfl q10⟩
    show am_ww 227 0 [.ref 99, am_U, am_U] [] E I2 _ S _
    apply g227_0
    refine m225 e12 e103 hT4 s1 s2 (fun I3 f3 g3 e3 a3 => q_mkV ?_)
    refine m227_l (by rw [g3 12 (by omega)]; exact e12) e3 (by omega) a3 k3 k5 hT4 (T + 1) 0 0 (by omega) (by omega) (q_mkI (gd _ _ _ ?_ (by rw [g3 3 (by omega), e99, upd_eq]) (fun k a b c d e => by rw [f3 k (by simp [a, e]), fo k a b c d]) (fun f a b => by rw [g3 f b, e99, upd_ne a])))
    rw [gAB k1.1 k2 k3 k5]
  · intro ex
    subst ex
    refine W_ok (y := 97) (q_mkI ⟨rfl, r216 _ _ _ _ ?_⟩)
    apply g216_0
    refine ref _ _ _ _ fr_id (fun I2 e99 er fo => ?_)
    exact ⟨fun q => absurd q (by decide), fun q => absurd q (by decide), fun q => absurd q (by decide), fun q => absurd q (by decide), fun q => absurd q (by decide), fun q => absurd q (by decide), fun q => absurd q (by decide), fun q => absurd q (by decide), fun q => absurd q (by decide), fun q => absurd q (by decide), fun q => absurd q (by decide), fun _ => gd _ _ _ (by rw [e99, upd_ne (by omega), h9.1, h9.2.1]) (by rw [e99, upd_eq]) (fun k a b c d _ => fo k a b c d) (fun f a _ => by rw [e99, upd_ne a]), fun q => absurd q (by decide), fun q => absurd q (by decide), fun q => absurd q (by decide), fun q => absurd q (by decide), fun q => absurd q (by decide), fun q => absurd q (by decide), fun q0 q1 q2 q3 q4 q5 q6 q7 q8 q9 q10 q11 q12 q13 q14 q15 q16 q17 => absurd rfl q11⟩
  · intro ex
    subst ex
    refine c107 h1 h2 hrT h10.1 (q_mkI (W_ok (y := 97) (q_mkI ⟨rfl, r216 _ _ _ _ ?_⟩)))
    apply g216_0
    refine ref _ _ _ _ fr_id (fun I2 e99 er fo => ?_)
    have hpe : p_eq I I2 := fun k a b => fo k (by omega) (by omega) (by omega) (by omega)
    have hr2 : r_ok I (I2 116) := r_ok_c h1 hrT (fun k hk => (er k (by omega)).symm)
    refine ⟨fun q => absurd q (by decide), fun q => absurd q (by decide), fun q => absurd q (by decide), fun q => absurd q (by decide), fun q => absurd q (by decide), fun q => absurd q (by decide), fun q => absurd q (by decide), fun q => absurd q (by decide), fun q => absurd q (by decide), fun q => absurd q (by decide), fun q => absurd q (by decide), fun q => absurd q (by decide), fun _ => m229 ((p_in_e hpe).mpr h1) ((r_ok_e hpe).mpr hr2) (q_mkI (gd _ _ _ ?_ (by rw [e99, upd_eq]) (fun k a b c d _ => fo k a b c d) (fun f a _ => by rw [e99, upd_ne a]))), fun q => absurd q (by decide), fun q => absurd q (by decide), fun q => absurd q (by decide), fun q => absurd q (by decide), fun q => absurd q (by decide), fun q0 q1 q2 q3 q4 q5 q6 q7 q8 q9 q10 q11 q12 q13 q14 q15 q16 q17 => absurd rfl q12⟩
    have ew : ∀ c, c < (I 103 4).toNatClampNeg → wf I2 (I2 116) c = wf I (rt I T) c ∧ (wf I2 (I2 116) c < (I 103 4).toNatClampNeg ∨ wf I2 (I2 116) c = 4) := by
      intro c hc
      have e : wf I2 (I2 116) c = wf I (rt I T) c := by
        obtain ⟨p, l, ep, en, hpn, hn, hi', ht4, hok⟩ := r_at h1 hrT hc
        have ep2 : I2 116 (16 + 6 * c + 4) = nI p := by rw [er _ (by omega)]; exact ep
        have hi2 : m_i (I2 116) c = 16 * c + p := by unfold m_i; rw [ep2, nI_clamp (by omega)]
        unfold wf
        rw [hi', hi2, ep2, ep, hpe 105 (by omega) (by omega), hpe 106 (by omega) (by omega), hpe 107 (by omega) (by omega)]
        by_cases c1 : nI p < I 105 c
        · rw [if_pos c1, if_pos c1]
          by_cases c2 : I 106 (16 * c + p) = nI 7
          · rw [if_pos c2, if_pos c2]
            rw [en, nI_ltI (by omega) (by omega)] at c1
            obtain ⟨o, ho, eo, q1, q2, _⟩ := hok c1
            rw [eo, nI_eq (by omega) (by omega)] at c2
            have b := vb (q2 (by omega) (by omega) (by omega))
            rw [er _ (by omega)]
          · rw [if_neg c2, if_neg c2]
        · rw [if_neg c1, if_neg c1]
      rw [e]
      exact ⟨rfl, wf_in h1 hrT hc⟩
    rw [hpe 103 (by omega) (by omega), rgn_c ew _ 0 0 (by omega), ring_eq (by omega) (fun c hc => wf_in h1 hrT hc)]
  · intro ex
    subst ex
    refine c99_28 (q_mkI (c99_26 (q_mkI (W_ok (y := 97) (q_mkI ⟨rfl, r216 _ _ _ _ ?_⟩)))))
    apply g216_0
    refine ref _ _ _ _ fr_id (fun I2 e99 er fo => ?_)
    refine ⟨fun q => absurd q (by decide), fun q => absurd q (by decide), fun q => absurd q (by decide), fun q => absurd q (by decide), fun q => absurd q (by decide), fun q => absurd q (by decide), fun q => absurd q (by decide), fun q => absurd q (by decide), fun q => absurd q (by decide), fun q => absurd q (by decide), fun q => absurd q (by decide), fun q => absurd q (by decide), fun q => absurd q (by decide), fun _ => m218 (q_mkI (gd _ _ _ ?_ (by rw [e99, upd_eq]) (fun k a b c d _ => fo k a b c d) (fun f a _ => by rw [e99, upd_ne a]))), fun q => absurd q (by decide), fun q => absurd q (by decide), fun q => absurd q (by decide), fun q => absurd q (by decide), fun q0 q1 q2 q3 q4 q5 q6 q7 q8 q9 q10 q11 q12 q13 q14 q15 q16 q17 => absurd rfl q13⟩
    rw [sm3_c (f := fun z => I2 116 (48 + z)) (g := I 26) (fun z hz => by rw [er _ (by omega)]; exact (h10.1.2.2.2.2.2.2 z hz).symm), fo 124 (by omega) (by omega) (by omega) (by omega), ← (h6 0 (by omega)).1, ← (h6 1 (by omega)).1, ← (h6 2 (by omega)).1]
    have e0 : sm3 (I 28) = I 28 0 + I 28 1 + I 28 2 := by unfold sm3; rw [nI_0, Int32.zero_add]
    rw [e0]
  · intro ex
    subst ex
    refine W_ok (y := 97) (q_mkI ⟨rfl, r216 _ _ _ _ ?_⟩)
    apply g216_0
    refine ref _ _ _ _ fr_id (fun I2 e99 er fo => ?_)
    exact ⟨fun q => absurd q (by decide), fun q => absurd q (by decide), fun q => absurd q (by decide), fun q => absurd q (by decide), fun q => absurd q (by decide), fun q => absurd q (by decide), fun q => absurd q (by decide), fun q => absurd q (by decide), fun q => absurd q (by decide), fun q => absurd q (by decide), fun q => absurd q (by decide), fun q => absurd q (by decide), fun q => absurd q (by decide), fun q => absurd q (by decide), fun _ => gd _ _ _ (by rw [e99, upd_ne (by omega), h13.1, h13.2.1]) (by rw [e99, upd_eq]) (fun k a b c d _ => fo k a b c d) (fun f a _ => by rw [e99, upd_ne a]), fun q => absurd q (by decide), fun q => absurd q (by decide), fun q => absurd q (by decide), fun q0 q1 q2 q3 q4 q5 q6 q7 q8 q9 q10 q11 q12 q13 q14 q15 q16 q17 => absurd rfl q14⟩
  · intro ex
    subst ex
    refine W_ok (y := 97) (q_mkI ⟨rfl, r216 _ _ _ _ ?_⟩)
    apply g216_0
    refine ref _ _ _ _ fr_id (fun I2 e99 er fo => ?_)
    exact ⟨fun q => absurd q (by decide), fun q => absurd q (by decide), fun q => absurd q (by decide), fun q => absurd q (by decide), fun q => absurd q (by decide), fun q => absurd q (by decide), fun q => absurd q (by decide), fun q => absurd q (by decide), fun q => absurd q (by decide), fun q => absurd q (by decide), fun q => absurd q (by decide), fun q => absurd q (by decide), fun q => absurd q (by decide), fun q => absurd q (by decide), fun q => absurd q (by decide), fun _ => gd _ _ _ (by rw [e99, upd_ne (by omega), htp]) (by rw [e99, upd_eq]) (fun k a b c d _ => fo k a b c d) (fun f a _ => by rw [e99, upd_ne a]), fun q => absurd q (by decide), fun q => absurd q (by decide), fun q0 q1 q2 q3 q4 q5 q6 q7 q8 q9 q10 q11 q12 q13 q14 q15 q16 q17 => absurd rfl q15⟩
  · intro ex
    subst ex
    refine W_ok (y := 97) (q_mkI ⟨rfl, r216 _ _ _ _ ?_⟩)
    apply g216_0
    refine ref _ _ _ _ fr_id (fun I2 e99 er fo => ?_)
    have e110 : I2 110 = I 110 := fo 110 (by omega) (by omega) (by omega) (by omega)
    refine ⟨fun q => absurd q (by decide), fun q => absurd q (by decide), fun q => absurd q (by decide), fun q => absurd q (by decide), fun q => absurd q (by decide), fun q => absurd q (by decide), fun q => absurd q (by decide), fun q => absurd q (by decide), fun q => absurd q (by decide), fun q => absurd q (by decide), fun q => absurd q (by decide), fun q => absurd q (by decide), fun q => absurd q (by decide), fun q => absurd q (by decide), fun q => absurd q (by decide), fun q => absurd q (by decide), fun _ => ?_, fun q => absurd q (by decide), fun q0 q1 q2 q3 q4 q5 q6 q7 q8 q9 q10 q11 q12 q13 q14 q15 q16 q17 => absurd rfl q16⟩
    rw [nI_subI (by omega), nI_clamp (by omega), e110]
    exact ⟨vp_in_nI (by omega) (by omega), gd _ _ _ h14.1 (by rw [e99, upd_eq]) (fun k a b c d _ => fo k a b c d) (fun f a _ => by rw [e99, upd_ne a])⟩
  · intro ex
    subst ex
    refine W_ok (y := 97) (q_mkI ⟨rfl, r216 _ _ _ _ ?_⟩)
    apply g216_0
    refine ref _ _ _ _ fr_id (fun I2 e99 er fo => ?_)
    have e110 : I2 110 = I 110 := fo 110 (by omega) (by omega) (by omega) (by omega)
    refine ⟨fun q => absurd q (by decide), fun q => absurd q (by decide), fun q => absurd q (by decide), fun q => absurd q (by decide), fun q => absurd q (by decide), fun q => absurd q (by decide), fun q => absurd q (by decide), fun q => absurd q (by decide), fun q => absurd q (by decide), fun q => absurd q (by decide), fun q => absurd q (by decide), fun q => absurd q (by decide), fun q => absurd q (by decide), fun q => absurd q (by decide), fun q => absurd q (by decide), fun q => absurd q (by decide), fun q => absurd q (by decide), fun _ => ?_, fun q0 q1 q2 q3 q4 q5 q6 q7 q8 q9 q10 q11 q12 q13 q14 q15 q16 q17 => absurd rfl q17⟩
    rw [nI_subI (by omega), nI_clamp (by omega), e110]
    exact ⟨vp_in_nI (by omega) (by omega), gd _ _ _ h14.2 (by rw [e99, upd_eq]) (fun k a b c d _ => fo k a b c d) (fun f a _ => by rw [e99, upd_ne a])⟩
  · intro q0 q1 q2 q3 q4 q5 q6 q7 q8 q9 q10 q11 q12 q13 q14 q15 q16 q17
    refine ⟨1, rfl, q_mkI ⟨rfl, r216 _ _ _ _ ?_⟩⟩
    apply g216_0
    refine ref _ _ _ _ fr_id (fun I2 e99 er fo => ?_)
    exact ⟨fun q => absurd q q0, fun q => absurd q q1, fun q => absurd q q2, fun q => absurd q q3, fun q => absurd q q4, fun q => absurd q q5, fun q => absurd q q6, fun q => absurd q q7, fun q => absurd q q8, fun q => absurd q q9, fun q => absurd q q10, fun q => absurd q q11, fun q => absurd q q12, fun q => absurd q q13, fun q => absurd q q14, fun q => absurd q q15, fun q => absurd q q16, fun q => absurd q q17, fun _ _ _ _ _ _ _ _ _ _ _ _ _ _ _ _ _ _ => q_mkI (tl_bad (by omega) (by omega) (by rw [u_I_eq, upd_eq]) (fin _ _ _ (Or.inr rfl) Jq_id (fun k a b c d _ => by rw [u_I_ne a, fo k a b c d]) (fun f a _ => by rw [u_I_eq, upd_ne a, e99, upd_ne a])))⟩
