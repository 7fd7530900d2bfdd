/-! toSpare -/
def spf (v : Nat → Int32) : Nat → Nat → Int32 → Int32 → Int32 × Int32
  | 0, _, b, f => (b, f)
  | m + 1, q, b, f => spf v m (q + 1) (if f ≤ v q then b else nI q) (if f ≤ v q then f else v q)
def tv (I : Nat → Nat → Int32) (n : Nat) (q : Nat) : Int32 := tr I q n (m_first I (I 103 1)) 47
theorem c182_l {E : am_Ev} {J : Nat → Nat → Int64} {S : Nat → Nat → Option Nat} {Q : am_Qt} {I0 : Nat → Nat → Int32} {n : Nat} {w : Int32} (hp : p_in I0) (hc : p_cl I0) (hg : gq I0) (hr : r_ok I0 (m_first I0 (I0 103 1))) (hn : n ≤ 400) : ∀ m q b f (I1 : Nat → Nat → Int32) (d6 : Value), am_isL d6 = false → q + m = 10 → 0 < q → fb I0 I1 76 83 → (∀ I', fb I0 I' 76 83 → Q (.inl (some (.int (if w = 0 then (spf (tv I0 n) m q b f).1 else (spf (tv I0 n) m q b f).2)))) E I' J S) → am_ww 182 18 [.ref 0, .int (nI n), .int w, .int b, .int f, .int (nI q), d6] [] E I1 J S Q := by
  intro m
  induction m with
  | zero =>
    intro q b f I1 d6 hd6 eq hq f1 h
    apply g182_18 hd6
    rw [nI_ltI (by omega) (by omega)]
    exact ⟨fun _ => h I1 f1, fun z => absurd (by omega) z⟩
  | succ m ih =>
    intro q b f I1 d6 hd6 eq hq f1 h
    apply g182_18 hd6
    rw [nI_ltI (by omega) (by omega)]
    refine ⟨fun z => absurd z (by omega), fun _ => ?_⟩
    have hpe : p_eq I0 I1 := p_eq_fb f1 (by omega)
    have hpq : p_q I0 I1 := p_q_fb f1 (by omega)
    have e17 : I1 17 1 = I0 103 1 := by rw [f1 17 (by omega)]; exact hc.2.2.2 1 (by omega)
    rw [e17]
    have ef : m_first I1 (I0 103 1) = m_first I0 (I0 103 1) := first_e hpe
    have et : tr I1 q n (m_first I1 (I0 103 1)) = tr I0 q n (m_first I0 (I0 103 1)) := by rw [ef, tr_e hpe (f1 123 (by omega)) (f1 124 (by omega))]
    refine c179 ((p_in_e hpe).mpr hp) ((p_cl_e hpq).mpr hc) ((gq_e (fun k hk => f1 k (by omega))).mpr hg) (by rw [ef]; exact (r_ok_e hpe).mpr hr) hq (by omega) hn (fun I2 _ f2 => q_mkI ?_)
    rw [et, nI_add]
    exact ih (q + 1) _ _ I2 _ rfl (by omega) (by omega) (fb_tr f1 f2) h
theorem m287_l {E : am_Ev} {J : Nat → Nat → Int64} {S : Nat → Nat → Option Nat} {Q : am_Qt} {I0 : Nat → Nat → Int32} {n : Nat} {w : Int32} (hp : p_in I0) (hG : ∀ s, s < 3 → vp_in (I0 124 s) 31) (hr : r_ok I0 (m_first I0 (I0 103 1))) (hn : n ≤ 400) : ∀ m q b f (I1 : Nat → Nat → Int32), ¬ b = -1 → q + m = 10 → 0 < q → fr I0 I1 [99, 116] → (∀ f, f ≠ 39 → f ≠ 40 → I1 99 f = I0 99 f) → (∀ I', fr I0 I' [99, 116] → (∀ f, f ≠ 39 → f ≠ 40 → I' 99 f = I0 99 f) → Q (.inl (some (.int (if w = 0 then (spf (tv I0 n) m q b f).1 else (spf (tv I0 n) m q b f).2)))) E I' J S) → am_ww 287 27 [.ref 99, .int (nI n), .int w, .int b, .int f, .int (nI q)] [] E I1 J S Q := by
  intro m
  induction m with
  | zero =>
    intro q b f I1 hb eq hq f1 g1 h
    apply g287_27
    rw [nI_ltI (by omega) (by omega)]
    exact ⟨fun _ => h I1 f1 g1, fun z => absurd (by omega) z⟩
  | succ m ih =>
    intro q b f I1 hb eq hq f1 g1 h
    apply g287_27
    rw [nI_ltI (by omega) (by omega)]
    refine ⟨fun z => absurd z (by omega), fun _ => ?_⟩
    have hpe : p_eq I0 I1 := p_eq_fr f1 (by simp)
    rw [f1 103 (by decide)]
    have ef : m_first I1 (I0 103 1) = m_first I0 (I0 103 1) := first_e hpe
    have et : tr I1 q n (m_first I1 (I0 103 1)) = tr I0 q n (m_first I0 (I0 103 1)) := by rw [ef, tr_e hpe (f1 123 (by decide)) (f1 124 (by decide))]
    refine m285 ((p_in_e hpe).mpr hp) (by rw [f1 124 (by decide)]; exact hG) (by rw [ef]; exact (r_ok_e hpe).mpr hr) hq (by omega) hn (fun I2 e2 f2 g2 => q_mkV ?_)
    rw [et] at e2
    have e47 : I2 116 47 = tv I0 n q := e2 47 (by omega)
    rw [e47, if_neg hb, if_neg hb]
    intro w5 ew5 w6 ew6
    have f12 : fr I0 I2 [99, 116] := fun k hk => by rw [f2 k hk, f1 k hk]
    have g12 : ∀ f, f ≠ 39 → f ≠ 40 → I2 99 f = I0 99 f := fun f a b => by rw [g2 f a b, g1 f a b]
    have h' : ∀ I', fr I0 I' [99, 116] → (∀ f, f ≠ 39 → f ≠ 40 → I' 99 f = I0 99 f) → Q (.inl (some (.int (if w = 0 then (spf (tv I0 n) m (q + 1) (if f ≤ tv I0 n q then b else nI q) (if f ≤ tv I0 n q then f else tv I0 n q)).1 else (spf (tv I0 n) m (q + 1) (if f ≤ tv I0 n q then b else nI q) (if f ≤ tv I0 n q then f else tv I0 n q)).2)))) E I' J S := h
    rw [nI_add]
    by_cases c : f ≤ tv I0 n q
    · rw [if_pos c, if_pos c] at h'
      rw [if_neg (Int32.not_lt.mpr c)] at ew5 ew6
      subst ew5 ew6
      exact ih (q + 1) _ _ I2 hb (by omega) (by omega) f12 g12 h'
    · rw [if_neg c, if_neg c] at h'
      rw [if_pos (Int32.not_le.mp c)] at ew5 ew6
      subst ew5 ew6
      exact ih (q + 1) _ _ I2 (nI_nm (by omega)) (by omega) (by omega) f12 g12 h'
/-- the frame of a call that changes nothing of the course -/
theorem Hn_q {E E' : am_Ev} {I I' : Nat → Nat → Int32} {J J' : Nat → Nat → Int64} {S : Nat → Nat → Option Nat} {Q : am_Qt} {x4 : Int32} {T cu ac n d : Nat} (h : Hn I J S E x4 Q) (hE : E' = E ∨ E' = Ex E) (hcr : CR I T cu ac n) (hvw : vw I T d) (hk : ∀ k, k < 68 ∨ 89 ≤ k ∧ k < 96 ∨ 100 ≤ k ∧ k < 116 ∨ 117 ≤ k ∧ k < 125 ∨ k = 126 ∨ k = 127 ∨ 134 ≤ k → I' k = I k) (h9 : ∀ f, f = 12 ∨ f = 13 ∨ f = 15 ∨ f = 24 ∨ f = 43 ∨ 58 ≤ f ∧ f < 62 → I' 99 f = I 99 f) (hJ : Jq J J') : lk x4 E' I' J' S Q :=
  h E' I' J' T cu ac n d hE (CR_e ⟨fun k q => hk k (by omega), h9 12 (by omega), h9 13 (by omega), h9 43 (by omega)⟩ hcr) (vw_e (fun k q => hk k (by omega)) hvw) ⟨fun k q => hk k (by omega), fun f q => h9 f (by omega)⟩ (Or.inr ⟨fun k a b => hk k (by omega), hk 33 (by omega), by rw [hk 18 (by omega)], hJ 95 (by omega)⟩)
/-- the numbers of a trial that are refused: 1, what; 2, n -/
theorem k_toSpare {E : am_Ev} {I : Nat → Nat → Int32} {J : Nat → Nat → Int64} {S : Nat → Nat → Option Nat} {Q : am_Qt} {T cu ac n d i : Nat} {x4 : Int32} {d5 d6 : Value} (hd5 : am_isL d5 = false) (hd6 : am_isL d6 = false) (hcr : CR I T cu ac n) (hvw : vw I T d) (hx : x4 = nI i) (hi : i + 6 ≤ E.2.2.1) (hL : E.2.2.1 ≤ 3072) (h : Hn I J S E x4 Q) : am_ww 291 1072 [.ref 1000000, .ref 0, .ref 99, .ref 145, .int x4, d5, d6] [] E I J S Q := by
  apply g291_1072 hd5 hd6
  refine L2 hx hi hL ?_
  generalize E.2.2.2 (i + 1) = x
  generalize E.2.2.2 (i + 2) = y
  obtain ⟨h1, h2, h3, h4, h5, h6, h7, h8, h9, h10, h11, h12, h13, h14⟩ := id hcr
  have hr := first_ok (x := I 103 1) h1 h4
  show am_ww 181 0 [.ref 0, .int x, .int y, .ref 145, am_U] [] E I J S _
  apply g181_0
  show am_ww 182 0 [.ref 0, .int x, .int y, am_U, am_U, am_U, am_U] [] E I J S _
  apply g182_0
  show am_ww 178 0 [.ref 0, .int x, .int y] [] E I J S _
  apply g178_0
  -- refused
  have bad : ∀ c, 0 < c → c < 3 → (c = 1 ∧ (y < 0 ∨ nI 2 ≤ y) ∨ c = 2 ∧ ¬ (y < 0 ∨ nI 2 ≤ y) ∧ (x < 0 ∨ nI 401 ≤ x)) → q_I (fun v1 E1 I1 J1 S1 => E1.2.2 = E.2.2 ∧ am_cl 287 [.ref 99, .int x, .int y] E1 I1 J1 S1 (q_I fun v2 E2 I2 J2 S2 => tl v1 v2 x4 E2 I2 J2 S2 Q)) (.inl (some (.int (nI c)))) (E.1 + 1, E.2.1 + 6, E.2.2) I J S := by
    intro c c0 c3 hc
    refine q_mkI ⟨rfl, ?_⟩
    show am_ww 287 0 [.ref 99, .int x, .int y, am_U, am_U, am_U] [] _ I J S _
    apply g287_0
    have t : q_I (fun v2 E2 I2 J2 S2 => tl (nI c) v2 x4 E2 I2 J2 S2 Q) (.inl (some (.int (nI 0)))) (E.1 + 1, E.2.1 + 6, E.2.2) (u_I I 99 (upd (upd (I 99) 3 (nI 0)) 3 (nI c))) J S := q_mkI (tl_bad c0 (by omega) (by rw [u_I_eq, upd_eq]) (Hn_q h (Or.inr rfl) hcr hvw (fun k hk => u_I_ne (by omega)) (fun f hf => by rw [u_I_eq, upd_ne (by omega), upd_ne (by omega)]) Jq_id))
    rw [nI_0] at t ⊢
    rcases hc with ⟨rfl, hy⟩ | ⟨rfl, hy, hx⟩
    · refine ⟨fun _ => t, fun e0 => ⟨fun _ => t, fun e1 => ?_⟩⟩
      exact (ctr_le hy e0 (Int32.not_lt.mp e1) rfl (by omega)).elim
    · refine ⟨fun e => absurd (Or.inl e) hy, fun e0 => ⟨fun e => absurd (Or.inr ?_) hy, fun e1 => ⟨fun _ => t, fun e2 => ⟨fun _ => t, fun e3 => ?_⟩⟩⟩⟩
      · rcases rng y 2 (by omega) with ⟨j, hj, ej⟩ | hb
        · rw [ej, nI_ltI (by omega) (by omega)] at e
          omega
        · exact hb.resolve_left e0
      · exact (ctr_le hx e2 (Int32.not_lt.mp e3) rfl (by omega)).elim
  rcases rng y 2 (by omega) with ⟨w, hw, ew⟩ | hy
  · have ny : ¬ (y < 0 ∨ nI 2 ≤ y) := by
      rw [ew]
      rintro (q | q)
      · exact nI_pos (by omega) q
      · rw [nI_leI (by omega) (by omega)] at q
        omega
    rcases rng x 401 (by omega) with ⟨k, hk, ek⟩ | hx'
    · subst ew ek
      refine ⟨fun q => absurd q (nI_pos (by omega)), fun _ => ⟨fun _ => ⟨fun q => absurd q (nI_pos (by omega)), fun _ => ⟨fun _ => ⟨rfl, ?_⟩, fun q => absurd ((nI_leI (by omega) (by omega)).mpr (by omega)) q⟩⟩, fun q => absurd ((nI_leI (by omega) (by omega)).mpr (by omega)) q⟩⟩
      have e17 : I 17 1 = I 103 1 := h2.2.2.2 1 (by omega)
      rw [e17]
      refine c179 (q := 1) h1 h2 h6 hr (by omega) (by omega) (by omega) (fun I1 _ f1 => q_mkI ?_)
      refine c182_l (I0 := I) h1 h2 h6 hr (by omega) 8 2 (nI 1) _ I1 am_U rfl (by omega) (by omega) f1 (fun I2 f2 => W_ok (y := 181) (q_mkI ⟨rfl, ?_⟩))
      show am_ww 287 0 [.ref 99, .int (nI k), .int (nI w), am_U, am_U, am_U] [] E I2 _ S _
      apply g287_0
      refine ⟨fun q => absurd ((nI_ltI (by omega) (by omega)).mp q) (by omega), fun _ => ⟨fun q => absurd ((nI_ltI (by omega) (by omega)).mp q) (by omega), fun _ => ⟨fun q => absurd ((nI_ltI (by omega) (by omega)).mp q) (by omega), fun _ => ⟨fun q => absurd ((nI_ltI (by omega) (by omega)).mp q) (by omega), fun _ => ?_⟩⟩⟩⟩
      have z99 : u_I I2 99 (upd (I2 99) 3 (nI 0)) 99 = upd (I 99) 3 (nI 0) := by rw [u_I_eq, f2 99 (by omega)]
      have zo : ∀ k, k ≠ 99 → u_I I2 99 (upd (I2 99) 3 (nI 0)) k = I2 k := fun k hk => u_I_ne hk
      generalize u_I I2 99 (upd (I2 99) 3 (nI 0)) = I3 at z99 zo ⊢
      have h3i : ∀ k, k < 76 ∨ 83 < k ∧ k < 99 ∨ 99 < k → I3 k = I k := fun k hk => by rw [zo k (by omega), f2 k (by omega)]
      have hpe : p_eq I I3 := fun k a b => h3i k (by omega)
      have ef : m_first I3 (I3 103 1) = m_first I (I 103 1) := by rw [first_e hpe, h3i 103 (by omega)]
      have et : tv I3 k = tv I k := by
        funext q
        unfold tv
        rw [ef, tr_e hpe (h3i 123 (by omega)) (h3i 124 (by omega))]
      have hp3 := (p_in_e hpe).mpr h1
      have hr3 : r_ok I3 (m_first I3 (I3 103 1)) := by rw [ef]; exact (r_ok_e hpe).mpr hr
      have hG3 : ∀ s, s < 3 → vp_in (I3 124 s) 31 := fun s hs => by rw [h3i 124 (by omega)]; exact (h6 s hs).2.1
      apply g287_27
      refine ⟨fun q => absurd q (by decide), fun _ => ?_⟩
      refine m285 (q := 1) hp3 hG3 hr3 (by omega) (by omega) (by omega) (fun I4 e4 f4 g4 => q_mkV ?_)
      have e47 : I4 116 47 = tv I3 k 1 := e4 47 (by omega)
      rw [e47, if_pos rfl, if_pos rfl]
      intro w5 ew5 w6 ew6
      subst ew5 ew6
      refine m287_l (I0 := I3) hp3 hG3 hr3 (by omega) 8 2 (nI 1) _ I4 (nI_nm (by omega)) (by omega) (by omega) f4 g4 (fun I5 f5 g5 => q_mkI (tl_ok ?_ ?_ (Hn_q h (Or.inl rfl) hcr hvw (fun k hk => ?_) (fun f hf => ?_) (fun k hk => u_J_ne hk))))
      · rw [g5 3 (by omega) (by omega), z99, upd_eq]
      · rw [u_J_eq, et]
        exact if_pos rfl
      · rw [f5 k (by simp; omega), h3i k (by omega)]
      · rw [g5 f (by omega) (by omega), z99, upd_ne (by omega)]
    · have t := bad 2 (by omega) (by omega) (Or.inr ⟨rfl, ny, hx'⟩)
      refine ⟨fun q => absurd (Or.inl q) ny, fun _ => ⟨fun _ => ⟨fun _ => ⟨2, rfl, t⟩, fun e0 => ⟨fun e1 => (ctr_le hx' e0 e1 rfl (by omega)).elim, fun _ => ⟨2, rfl, t⟩⟩⟩, fun q => absurd ?_ q⟩⟩
      rw [ew, nI_leI (by omega) (by omega)]
      omega
  · have t := bad 1 (by omega) (by omega) (Or.inl ⟨rfl, hy⟩)
    exact ⟨fun _ => ⟨1, rfl, t⟩, fun e0 => ⟨fun e1 => (ctr_le hy e0 e1 rfl (by omega)).elim, fun _ => ⟨1, rfl, t⟩⟩⟩
