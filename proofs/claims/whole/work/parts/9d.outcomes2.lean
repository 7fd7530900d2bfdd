/-! outcomes: the reference, the call -/
theorem m284_40 {E : am_Ev} {J : Nat → Nat → Int64} {S : Nat → Nat → Option Nat} {Q : am_Qt} {A : Nat → Int32} {s : Nat} {x1 w x3 x4 : Int32} {d7 : Value} (hd7 : am_isL d7 = false) (hs : s < 7) {I2 : Nat → Nat → Int32} (h6 : ∀ c, c < 16 → I2 116 c = A (16 * s + c)) (h : ∀ I', (∀ k, k ≠ 133 → I' k = I2 k) → (∀ j, j < 16 * (s + 1) → I' 133 j = A j) → am_ww 284 61 [.ref 99, .int x1, .int w, .int x3, .int x4, .int (nI s), .int (nI 1), .int (nI 0)] [] E I' J S Q) : ∀ m c (I1 : Nat → Nat → Int32), c + m = 16 → (∀ k, k ≠ 133 → I1 k = I2 k) → (∀ j, j < 16 * s + c → I1 133 j = A j) → am_ww 284 40 [.ref 99, .int x1, .int w, .int x3, .int x4, .int (nI s), .int (nI c), d7] [] E I1 J S Q := by
  intro m
  induction m with
  | zero =>
    intro c I1 ec f1 a1
    apply g284_40 hd7
    rw [nI_leI (by omega) (by omega)]
    exact ⟨fun _ => h I1 f1 (fun j hj => a1 j (by omega)), fun z => absurd (by omega) z⟩
  | succ m ih =>
    intro c I1 ec f1 a1
    apply g284_40 hd7
    rw [nI_leI (by omega) (by omega)]
    refine ⟨fun z => absurd z (by omega), fun _ => ⟨vp_in_nI (by omega) (by omega), ?_⟩⟩
    rw [nI_mulI, nI_add, nI_add, nI_clamp (by omega), nI_clamp (by omega), f1 116 (by omega), h6 c (by omega)]
    refine ⟨vp_in_nI (by omega) (by omega), ih (c + 1) _ (by omega) (fun k hk => by rw [u_I_ne hk]; exact f1 k hk) (fun j hj => ?_)⟩
    rw [u_I_eq]
    by_cases cj : j = 16 * s + c
    · rw [cj, upd_eq]
    · rw [upd_ne cj]; exact a1 j (by omega)
theorem m284_61 {E : am_Ev} {I : Nat → Nat → Int32} {J : Nat → Nat → Int64} {S : Nat → Nat → Option Nat} {Q : am_Qt} {A : Nat → Int32} {s : Nat} {x1 w l x3 : Int32} (hs : s < 7) (hA : ∀ j, j < 16 * (s + 1) → I 133 j = A j) (h : ∀ (x3' l' : Int32) (v6 v7 : Int32), x3' = x3 + (@ite _ (nw A s) (Classical.propDecidable _) (nI 1) (nI 0)) → l' = (if l = -1 then @ite _ (LK A 0 s) (Classical.propDecidable _) l (nI s) else l) → am_ww 284 27 [.ref 99, .int x1, .int w, .int x3', .int l', .int (nI (s + 1)), .int v6, .int v7] [] E I J S Q) : ∀ m k (x : Int32), k + m = s → (x = nI 1 ∧ (∀ o, o < k → ¬ LK A o s) ∨ x = nI 0 ∧ ¬ nw A s) → am_ww 284 61 [.ref 99, .int x1, .int w, .int x3, .int l, .int (nI s), .int x, .int (nI k)] [] E I J S Q := by
  intro m
  induction m with
  | zero =>
    intro k x ek hx
    apply g284_61
    rw [nI_leI (by omega) (by omega)]
    refine ⟨fun _ => ?_, fun z => absurd (by omega) z⟩
    intro w2 e2
    have e2' : w2 = @ite _ (nw A s) (Classical.propDecidable _) (nI 1) (nI 0) := by
      rcases hx with ⟨rfl, h1⟩ | ⟨rfl, h1⟩
      · rw [if_neg (by decide)] at e2
        rw [e2, if_pos (show nw A s from fun o ho => h1 o (by omega))]
      · rw [if_pos nI_0] at e2
        rw [e2, if_neg h1]
    rw [nI_add]
    refine ⟨fun c => ?_, fun c => h _ _ _ _ (by rw [e2']) (by rw [if_neg c])⟩
    refine m286 hA (by omega) hs (fun y => q_mkI (h _ _ _ _ (by rw [e2']) ?_)) (fun y => q_mkI (h _ _ _ _ (by rw [e2']) ?_))
    · rw [if_neg (by decide), if_pos c, if_pos y]
    · rw [if_pos nI_0, if_pos c, if_neg y]
  | succ m ih =>
    intro k x ek hx
    apply g284_61
    rw [nI_leI (by omega) (by omega)]
    refine ⟨fun z => absurd z (by omega), fun _ => ⟨fun c => ?_, fun c => ?_⟩⟩
    · rcases hx with ⟨rfl, h1⟩ | ⟨rfl, h1⟩
      · exact absurd c (by decide)
      · rw [nI_add]
        exact ih (k + 1) (nI 0) (by omega) (Or.inr ⟨rfl, h1⟩)
    · rcases hx with ⟨rfl, h1⟩ | ⟨rfl, h1⟩
      · refine m286 hA (by omega) hs (fun y => q_mkI ?_) (fun y => q_mkI ?_)
        · intro w7 e7
          rw [if_neg (by decide)] at e7
          rw [nI_add]
          exact ih (k + 1) w7 (by omega) (Or.inr ⟨e7, fun z => z k (by omega) y⟩)
        · intro w7 e7
          rw [if_pos nI_0] at e7
          rw [nI_add]
          refine ih (k + 1) w7 (by omega) (Or.inl ⟨e7, fun o ho => ?_⟩)
          by_cases co : o = k
          · rw [co]; exact y
          · exact h1 o (by omega)
      · exact absurd nI_0 c
theorem m284_l {E : am_Ev} {J : Nat → Nat → Int64} {S : Nat → Nat → Option Nat} {Q : am_Qt} {I0 : Nat → Nat → Int32} {n q : Nat} {w : Int32} (hp : p_in I0) (hG : ∀ s, s < 3 → vp_in (I0 124 s) 31) (hr : ∀ x, r_ok I0 (m_first I0 x)) (eq : I0 103 0 = nI q) (hq : 0 < q) (hq9 : q < 10) (hn : n ≤ 400) : ∀ m s a (l : Int32) (I1 : Nat → Nat → Int32) (d6 d7 : Value), am_isL d6 = false → am_isL d7 = false → s + m = 7 → a ≤ s → fr I0 I1 [99, 116, 133] → (∀ f, f ≠ 39 → f ≠ 40 → I1 99 f = I0 99 f) → (∀ j, j < 16 * s → I1 133 j = AF I0 q n j) → (∀ I', fr I0 I' [99, 116, 133] → (∀ f, f ≠ 39 → f ≠ 40 → I' 99 f = I0 99 f) → Q (.inl (some (.int (if w = 0 then nI (a + cn (AF I0 q n) m s) else if l = -1 then fi (AF I0 q n) m s else l)))) E I' J S) → am_ww 284 27 [.ref 99, .int (nI n), .int w, .int (nI a), .int l, .int (nI s), d6, d7] [] E I1 J S Q := by
  intro m
  induction m with
  | zero =>
    intro s a l I1 d6 d7 hd6 hd7 es ha f1 g1 a1 h
    apply g284_27 hd6 hd7
    rw [nI_leI (by omega) (by omega)]
    refine ⟨fun _ => ?_, fun z => absurd (by omega) z⟩
    have h := h I1 f1 g1
    have e1 : cn (AF I0 q n) 0 s = 0 := rfl
    have e2 : fi (AF I0 q n) 0 s = -1 := rfl
    rw [e1, e2, Nat.add_zero] at h
    have e3 : (if l = -1 then (-1 : Int32) else l) = l := by
      by_cases c : l = -1
      · rw [if_pos c, c]
      · rw [if_neg c]
    rw [e3] at h
    exact h
  | succ m ih =>
    intro s a l I1 d6 d7 hd6 hd7 es ha f1 g1 a1 h
    apply g284_27 hd6 hd7
    rw [nI_leI (by omega) (by omega)]
    refine ⟨fun z => absurd z (by omega), fun _ => ?_⟩
    have hpe : p_eq I0 I1 := p_eq_fr f1 (by simp)
    have ef : m_first I1 (nI s) = m_first I0 (nI s) := first_e hpe
    have et : tr I1 q n (m_first I1 (nI s)) = tr I0 q n (m_first I0 (nI s)) := by rw [ef, tr_e hpe (f1 123 (by decide)) (f1 124 (by decide))]
    rw [f1 103 (by decide), eq]
    refine m285 ((p_in_e hpe).mpr hp) (by rw [f1 124 (by decide)]; exact hG) (by rw [ef]; exact (r_ok_e hpe).mpr (hr _)) hq hq9 hn (fun I2 e2 f2 g2 => q_mkV ?_)
    rw [et] at e2
    refine m284_40 (A := AF I0 q n) (I2 := I2) hd7 (by omega) (fun c hc => ?_) (fun I3 f3 a3 => ?_) 16 0 I2 (by omega) (fun _ _ => rfl) (fun j hj => by rw [f2 133 (by decide)]; exact a1 j (by omega))
    · rw [e2 c (by omega)]
      unfold AF
      rw [show (16 * s + c) / 16 = s by omega, show (16 * s + c) % 16 = c by omega]
    · have f13 : fr I0 I3 [99, 116, 133] := fun k hk => by
        simp only [List.mem_cons, List.not_mem_nil, or_false, not_or] at hk
        rw [f3 k hk.2.2, f2 k (by simp [hk.1, hk.2.1]), f1 k (by simp [hk.1, hk.2.1, hk.2.2])]
      have g13 : ∀ f, f ≠ 39 → f ≠ 40 → I3 99 f = I0 99 f := fun f a b => by rw [f3 99 (by omega), g2 f a b, g1 f a b]
      refine m284_61 (A := AF I0 q n) (by omega) a3 (fun x3' l' v6 v7 ex el => ?_) s 0 (nI 1) (by omega) (Or.inl ⟨rfl, fun o ho => absurd ho (by omega)⟩)
      have ell : (if l' = -1 then fi (AF I0 q n) m (s + 1) else l') = (if l = -1 then fi (AF I0 q n) (m + 1) s else l) := by
        by_cases c : l = -1
        · rw [if_pos c] at el ⊢
          by_cases y : LK (AF I0 q n) 0 s
          · rw [if_pos y] at el
            rw [el, if_pos c, fi_y y]
          · rw [if_neg y] at el
            rw [el, if_neg (nI_nm (by omega)), fi_n y]
        · rw [if_neg c] at el ⊢
          rw [el, if_neg c]
      by_cases y : nw (AF I0 q n) s
      · rw [if_pos y, nI_add] at ex
        rw [ex]
        refine ih (s + 1) (a + 1) l' I3 _ _ rfl rfl (by omega) (by omega) f13 g13 a3 ?_
        rw [ell, show a + 1 + cn (AF I0 q n) m (s + 1) = a + (1 + cn (AF I0 q n) m (s + 1)) by omega, ← cn_y y]
        exact h
      · rw [if_neg y, nI_add, Nat.add_zero] at ex
        rw [ex]
        refine ih (s + 1) a l' I3 _ _ rfl rfl (by omega) (by omega) f13 g13 a3 ?_
        rw [ell, ← cn_n y]
        exact h
theorem k_outcomes {E : am_Ev} {I : Nat → Nat → Int32} {J : Nat → Nat → Int64} {S : Nat → Nat → Option Nat} {Q : am_Qt} {T cu ac n d i : Nat} {x4 : Int32} {d5 d6 : Value} (hd5 : am_isL d5 = false) (hd6 : am_isL d6 = false) (hcr : CR I T cu ac n) (hvw : vw I T d) (hx : x4 = nI i) (hi : i + 6 ≤ E.2.2.1) (hL : E.2.2.1 ≤ 3072) (h : Hn I J S E x4 Q) : am_ww 291 1027 [.ref 1000000, .ref 0, .ref 99, .ref 145, .int x4, d5, d6] [] E I J S Q := by
  apply g291_1027 hd5 hd6
  refine L2 hx hi hL ?_
  generalize E.2.2.2 (i + 1) = x
  generalize E.2.2.2 (i + 2) = y
  obtain ⟨h1, h2, h3, h4, h5, h6, h7, h8, h9, h10, h11, h12, h13, h14⟩ := id hcr
  have hr : ∀ x, r_ok I (m_first I x) := fun x => first_ok h1 h4
  obtain ⟨q, q1, q2, q3⟩ := h3.1
  show am_ww 176 0 [.ref 0, .int x, .int y, .ref 145, am_U] [] E I J S _
  apply g176_0
  show am_ww 177 0 [.ref 0, .int x, .int y, am_U, am_U, am_U, am_U] [] E I J S _
  apply g177_0
  show am_ww 178 0 [.ref 0, .int x, .int y] [] E I J S _
  apply g178_0
  -- refused
  have bad : ∀ c, 0 < c → c < 3 → (c = 1 ∧ (y < 0 ∨ nI 2 ≤ y) ∨ c = 2 ∧ ¬ (y < 0 ∨ nI 2 ≤ y) ∧ (x < 0 ∨ nI 401 ≤ x)) → q_I (fun v1 E1 I1 J1 S1 => E1.2.2 = E.2.2 ∧ am_cl 284 [.ref 99, .int x, .int y] E1 I1 J1 S1 (q_I fun v2 E2 I2 J2 S2 => tl v1 v2 x4 E2 I2 J2 S2 Q)) (.inl (some (.int (nI c)))) (E.1 + 1, E.2.1 + 6, E.2.2) I J S := by
    intro c c0 c3 hc
    refine q_mkI ⟨rfl, ?_⟩
    show am_ww 284 0 [.ref 99, .int x, .int y, am_U, am_U, am_U, am_U, am_U] [] _ I J S _
    apply g284_0
    have t : q_I (fun v2 E2 I2 J2 S2 => tl (nI c) v2 x4 E2 I2 J2 S2 Q) (.inl (some (.int (nI 0)))) (E.1 + 1, E.2.1 + 6, E.2.2) (u_I I 99 (upd (upd (I 99) 3 (nI 0)) 3 (nI c))) J S := q_mkI (tl_bad c0 (by omega) (by rw [u_I_eq, upd_eq]) (Hn_q h (Or.inr rfl) hcr hvw (fun k hk => u_I_ne (by omega)) (fun f hf => by rw [u_I_eq, upd_ne (by omega), upd_ne (by omega)]) Jq_id))
    rw [nI_0] at t ⊢
    rcases hc with ⟨rfl, hy⟩ | ⟨rfl, hy, hx⟩
    · refine ⟨fun _ => t, fun e0 => ⟨fun _ => t, fun e1 => ?_⟩⟩
      exact (ctr_le hy e0 (Int32.not_lt.mp e1) rfl (by omega)).elim
    · refine ⟨fun e => absurd (Or.inl e) hy, fun e0 => ⟨fun e => absurd (Or.inr ?_) hy, fun e1 => ⟨fun _ => t, fun e2 => ⟨fun _ => t, fun e3 => ?_⟩⟩⟩⟩
      · rcases rng y 2 (by omega) with ⟨j, hj, ej⟩ | hb
        · rw [ej, nI_ltI (by omega) (by omega)] at e
          omega
        · exact hb.resolve_left e0
      · exact (ctr_le hx e2 (Int32.not_lt.mp e3) rfl (by omega)).elim
  rcases rng y 2 (by omega) with ⟨w, hw, ew⟩ | hy
  · have ny : ¬ (y < 0 ∨ nI 2 ≤ y) := by
      rw [ew]
      rintro (q | q)
      · exact nI_pos (by omega) q
      · rw [nI_leI (by omega) (by omega)] at q
        omega
    rcases rng x 401 (by omega) with ⟨k, hk, ek⟩ | hx'
    · subst ew ek
      refine ⟨fun q => absurd q (nI_pos (by omega)), fun _ => ⟨fun _ => ⟨fun q => absurd q (nI_pos (by omega)), fun _ => ⟨fun _ => ⟨rfl, ?_⟩, fun q => absurd ((nI_leI (by omega) (by omega)).mpr (by omega)) q⟩⟩, fun q => absurd ((nI_leI (by omega) (by omega)).mpr (by omega)) q⟩⟩
      refine c177_a (I0 := I) (q := q) (n := k) rfl rfl rfl h1 h2 h6 hr q3 (by omega) (by omega) (by omega) (fun I2 f2 a2 => ?_) 7 0 I (by omega) fb_id (fun j hj => absurd hj (by omega))
      refine c177_b (A := AF I q k) rfl a2 6 1 1 (-1) _ rfl (by omega) (by omega) (by omega) (W_ok (y := 176) (q_mkI ⟨rfl, ?_⟩))
      show am_ww 284 0 [.ref 99, .int (nI k), .int (nI w), am_U, am_U, am_U, am_U, am_U] [] E I2 _ S _
      apply g284_0
      refine ⟨fun q => absurd ((nI_ltI (by omega) (by omega)).mp q) (by omega), fun _ => ⟨fun q => absurd ((nI_ltI (by omega) (by omega)).mp q) (by omega), fun _ => ⟨fun q => absurd ((nI_ltI (by omega) (by omega)).mp q) (by omega), fun _ => ⟨fun q => absurd ((nI_ltI (by omega) (by omega)).mp q) (by omega), fun _ => ?_⟩⟩⟩⟩
      have z99 : u_I I2 99 (upd (I2 99) 3 (nI 0)) 99 = upd (I 99) 3 (nI 0) := by rw [u_I_eq, f2 99 (by omega)]
      have zo : ∀ k, k ≠ 99 → u_I I2 99 (upd (I2 99) 3 (nI 0)) k = I2 k := fun k hk => u_I_ne hk
      generalize u_I I2 99 (upd (I2 99) 3 (nI 0)) = I3 at z99 zo ⊢
      have h3i : ∀ k, k < 76 ∨ 84 < k ∧ k < 99 ∨ 99 < k → I3 k = I k := fun k hk => by rw [zo k (by omega), f2 k (by omega)]
      have hpe : p_eq I I3 := fun k a b => h3i k (by omega)
      have et : AF I3 q k = AF I q k := by
        funext j
        unfold AF
        rw [first_e hpe, tr_e hpe (h3i 123 (by omega)) (h3i 124 (by omega))]
      have e0 : LK (AF I q k) 0 0 := fun _ _ => rfl
      have n0 : nw (AF I q k) 0 := fun o ho => absurd ho (by omega)
      refine m284_l (I0 := I3) (q := q) ((p_in_e hpe).mpr h1) (fun s hs => by rw [h3i 124 (by omega)]; exact (h6 s hs).2.1) (fun x => by rw [first_e hpe]; exact (r_ok_e hpe).mpr (hr x)) (by rw [h3i 103 (by omega)]; exact q3) (by omega) (by omega) (by omega) 7 0 0 (-1) I3 _ _ rfl rfl (by omega) (by omega) fr_id (fun _ _ _ => rfl) (fun j hj => absurd hj (by omega)) (fun I5 f5 g5 => q_mkI (tl_ok ?_ ?_ (Hn_q h (Or.inl rfl) hcr hvw (fun k hk => ?_) (fun f hf => ?_) (fun k hk => u_J_ne hk))))
      · rw [g5 3 (by omega) (by omega), z99, upd_eq]
      · rw [u_J_eq, et, cn_y n0, fi_y e0, Nat.zero_add]
        exact if_pos rfl
      · rw [f5 k (by simp; omega), h3i k (by omega)]
      · rw [g5 f (by omega) (by omega), z99, upd_ne (by omega)]
    · have t := bad 2 (by omega) (by omega) (Or.inr ⟨rfl, ny, hx'⟩)
      refine ⟨fun q => absurd (Or.inl q) ny, fun _ => ⟨fun _ => ⟨fun _ => ⟨2, rfl, t⟩, fun e0 => ⟨fun e1 => (ctr_le hx' e0 e1 rfl (by omega)).elim, fun _ => ⟨2, rfl, t⟩⟩⟩, fun q => absurd ?_ q⟩⟩
      rw [ew, nI_leI (by omega) (by omega)]
      omega
  · have t := bad 1 (by omega) (by omega) (Or.inl ⟨rfl, hy⟩)
    exact ⟨fun _ => ⟨1, rfl, t⟩, fun e0 => ⟨fun e1 => (ctr_le hy e0 e1 rfl (by omega)).elim, fun _ => ⟨1, rfl, t⟩⟩⟩
