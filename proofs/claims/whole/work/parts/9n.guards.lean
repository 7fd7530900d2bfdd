/-! guards -/
def ge (I : Nat → Nat → Int32) (t l : Nat) : Bool := decide (rt I t (40 + l) = I 118 t)
def gds (I : Nat → Nat → Int32) (c : Nat) : Nat → Nat → Nat → Nat
  | 0, _, b => b
  | m + 1, t, b => if ct I (I 119 t).toNatClampNeg = nI c then gds I c m (t + 1) (b &&& mm (ge I t 0) (ge I t 1) (ge I t 2) (ge I t 3)) else gds I c m (t + 1) b
theorem gds_y {I : Nat → Nat → Int32} {c m t b : Nat} (h : ct I (I 119 t).toNatClampNeg = nI c) : gds I c (m + 1) t b = gds I c m (t + 1) (b &&& mm (ge I t 0) (ge I t 1) (ge I t 2) (ge I t 3)) := if_pos h
theorem gds_n {I : Nat → Nat → Int32} {c m t b : Nat} (h : ¬ ct I (I 119 t).toNatClampNeg = nI c) : gds I c (m + 1) t b = gds I c m (t + 1) b := if_neg h
theorem ct_o {I : Nat → Nat → Int32} {a c : Nat} (hc : c < 16) (h : ct I a = nI c) : ¬ I 106 a = nI 7 ∧ ¬ I 106 a = nI 8 := by
  unfold ct at h
  by_cases c1 : I 106 a = nI 1
  · rw [c1, nI_eq (by omega) (by omega), nI_eq (by omega) (by omega)]
    omega
  rw [if_neg c1] at h
  by_cases c2 : I 106 a = nI 2
  · rw [c2, nI_eq (by omega) (by omega), nI_eq (by omega) (by omega)]
    omega
  rw [if_neg c2] at h
  exact absurd h.symm (nI_nm (by omega))
theorem c161_l {E : am_Ev} {J : Nat → Nat → Int64} {S : Nat → Nat → Option Nat} {Q : am_Qt} {I : Nat → Nat → Int32} {T n c : Nat} (hp : p_in I) (hcl : p_cl I) (hR : RW I T n) (eT : I 18 10 = nI T) (hd : ∀ t, 1 ≤ t → t ≤ T → dn I t) (hc : c < 16) : ∀ m t b (I1 : Nat → Nat → Int32) (d4 : Value), am_isL d4 = false → t + m = T + 1 → 1 ≤ t → b < 16 → fr I I1 [88] → (∀ l, l < 4 → I1 88 l = rt I (t - 1) (40 + l)) → (∀ I', fr I I' [88] → gds I c m t b < 16 → Q (.inl (some (.int (nI (gds I c m t b))))) E I' J S) → am_ww 161 10 [.ref 0, .int (nI c), .int (nI b), .int (nI t), d4] [] E I1 J S Q := by
  have hT4 := hR.1.1
  intro m
  induction m with
  | zero =>
    intro t b I1 d4 hd4 et t1 hb f1 o1 h
    apply g161_10 hd4
    rw [f1 18 (by decide), eT, nI_ltI (by omega) (by omega)]
    exact ⟨fun _ => h I1 f1 hb, fun q => absurd (by omega) q⟩
  | succ m ih =>
    intro t b I1 d4 hd4 et t1 hb f1 o1 h
    apply g161_10 hd4
    obtain ⟨C, p, n', d1, d2, d3, d4', d5, d6, d7, d8, d9⟩ := own_step hp hcl hR (hd t t1 (by omega)) t1 (by omega)
    have ff : ∀ k, k ≠ 88 → I1 k = I k := fun k hk => f1 k (by simp [hk])
    have ok1 : p_ok I1 (16 * C + p) n' := by
      unfold p_ok
      rw [ff 106 (by omega), ff 107 (by omega), ff 108 (by omega), ff 109 (by omega)]
      exact d7
    have op1 : p_op I1 (16 * C + p) := by
      unfold p_op
      rw [ff 106 (by omega), ff 107 (by omega), ff 108 (by omega), ff 109 (by omega), ff 13 (by omega), ff 14 (by omega)]
      exact d8
    have ect : ct I1 (16 * C + p) = ct I (16 * C + p) := by
      unfold ct
      rw [ff 106 (by omega), ff 107 (by omega), ff 108 (by omega)]
    have e119 : (I 119 t).toNatClampNeg = 16 * C + p := by rw [d5, nI_clamp (by omega)]
    rw [ff 18 (by omega), eT, nI_ltI (by omega) (by omega), nI_clamp (by omega), ff 33 (by omega), d4', nI_add, nI_divI (by omega) (by omega), show (16 * C + p) / 16 = C by omega]
    refine ⟨fun q => absurd q (by omega), fun _ => ⟨vp_in_nI (by omega) (by omega), ?_⟩⟩
    have eow : ∀ l, l < 4 → ow I1 (16 * C + p) (nI C) (I1 88) l = rt I (t + 1 - 1) (40 + l) := by
      intro l hl
      rw [show t + 1 - 1 = t by omega, d9 l hl]
      unfold ow
      rw [ff 106 (by omega), ff 107 (by omega), o1 l hl]
    refine c138 (by omega) ok1 op1 (q_mkI ?_)
    rw [ect]
    refine ⟨fun y => ?_, fun y => ?_⟩
    · refine c162 (q_mkI ?_)
      have ec : ct I (I 119 t).toNatClampNeg = nI c := by rw [e119]; exact y
      obtain ⟨n7, n8⟩ := ct_o hc y
      have eg : ∀ l, l < 4 → decide (I1 88 l = nI C) = ge I t l := by
        intro l hl
        unfold ge
        rw [o1 l hl, d6, d9 l hl]
        unfold ow
        rw [if_neg n7, if_neg n8]
      rw [eg 0 (by omega), eg 1 (by omega), eg 2 (by omega), eg 3 (by omega)]
      obtain ⟨m1, m2, m3⟩ := gmask b hb (ge I t 0) (ge I t 1) (ge I t 2) (ge I t 3)
      rw [m1]
      rw [gds_y ec] at h
      refine c150 d2 d3 ok1 op1 (fun I2 f2 o2 => q_mkV ?_)
      exact ih (t + 1) _ I2 _ rfl (by omega) (by omega) m3 (fun k hk => by rw [f2 k (by simpa using hk), f1 k hk]) (fun l hl => by rw [o2 l hl, eow l hl]) h
    · have ec : ¬ ct I (I 119 t).toNatClampNeg = nI c := by rw [e119]; exact y
      rw [gds_n ec] at h
      refine c150 d2 d3 ok1 op1 (fun I2 f2 o2 => q_mkV ?_)
      exact ih (t + 1) _ I2 _ rfl (by omega) (by omega) hb (fun k hk => by rw [f2 k (by simpa using hk), f1 k hk]) (fun l hl => by rw [o2 l hl, eow l hl]) h
theorem m271_33 {E : am_Ev} {I : Nat → Nat → Int32} {J : Nat → Nat → Int64} {S : Nat → Nat → Option Nat} {Q : am_Qt} {t b : Nat} {x1 : Int32} (ht : t ≤ 400) (hb : b < 16) (h : ∀ v : Int32, am_ww 271 16 [.ref 99, .int x1, .int (nI (b &&& mm (ge I t 0) (ge I t 1) (ge I t 2) (ge I t 3))), .int (nI (t + 1)), .int v] [] E I J S Q) : am_ww 271 33 [.ref 99, .int x1, .int (nI b), .int (nI t), .int (nI 0)] [] E I J S Q := by
  have st : ∀ l, l < 4 → ∀ (x w2 w : Int32), w2 = I 117 (51 * t + (40 + l)) → w = (if w2 = I 118 t then x else x &&& ((nI 1 <<< (nI l &&& 31)) ^^^ (-1))) → w = rb1 (ge I t l) l x := by
    intro l hl x w2 w e2 e
    have er : w2 = rt I t (40 + l) := by rw [rt_k (by omega)]; exact e2
    rw [e, er]
    unfold rb1 ge
    by_cases c : rt I t (40 + l) = I 118 t
    · rw [if_pos c, decide_eq_true c, if_pos rfl]
    · rw [if_neg c, decide_eq_false c, if_neg Bool.false_ne_true]
  apply g271_33
  refine ⟨fun q => absurd q (by decide), fun _ => ?_⟩
  rw [nI_mulI, nI_add, nI_add, nI_clamp (by omega), nI_clamp (by omega), nI_add]
  refine ⟨vp_in_nI (by omega) (by omega), fun w2 e2 => ⟨vp_in_nI (by omega) (by omega), fun w5 e5 => ?_⟩⟩
  rw [st 0 (by omega) _ w2 w5 e2 e5]
  clear e2 e5
  apply g271_33
  refine ⟨fun q => absurd q (by decide), fun _ => ?_⟩
  rw [nI_mulI, nI_add, nI_add, nI_clamp (by omega), nI_clamp (by omega), nI_add]
  refine ⟨vp_in_nI (by omega) (by omega), fun w2 e2 => ⟨vp_in_nI (by omega) (by omega), fun w5 e5 => ?_⟩⟩
  rw [st 1 (by omega) _ w2 w5 e2 e5]
  clear e2 e5
  apply g271_33
  refine ⟨fun q => absurd q (by decide), fun _ => ?_⟩
  rw [nI_mulI, nI_add, nI_add, nI_clamp (by omega), nI_clamp (by omega), nI_add]
  refine ⟨vp_in_nI (by omega) (by omega), fun w2 e2 => ⟨vp_in_nI (by omega) (by omega), fun w5 e5 => ?_⟩⟩
  rw [st 2 (by omega) _ w2 w5 e2 e5]
  clear e2 e5
  apply g271_33
  refine ⟨fun q => absurd q (by decide), fun _ => ?_⟩
  rw [nI_mulI, nI_add, nI_add, nI_clamp (by omega), nI_clamp (by omega), nI_add]
  refine ⟨vp_in_nI (by omega) (by omega), fun w2 e2 => ⟨vp_in_nI (by omega) (by omega), fun w5 e5 => ?_⟩⟩
  rw [st 3 (by omega) _ w2 w5 e2 e5]
  apply g271_33
  refine ⟨fun _ => ?_, fun q => absurd (Int32.le_refl _) q⟩
  rw [nI_add]
  have := (gmask b hb (ge I t 0) (ge I t 1) (ge I t 2) (ge I t 3)).2.1
  unfold rmk at this
  rw [this]
  exact h _
theorem m271_l {E : am_Ev} {I : Nat → Nat → Int32} {J : Nat → Nat → Int64} {S : Nat → Nat → Option Nat} {Q : am_Qt} {T c : Nat} (hT4 : T ≤ 400) (eT : I 99 12 = nI T) (hD : ∀ t, 1 ≤ t → t ≤ T → I 119 t = nI (I 119 t).toNatClampNeg ∧ (I 119 t).toNatClampNeg < 64) (hc : c < 16) : ∀ m t b (d4 : Value), am_isL d4 = false → t + m = T + 1 → 1 ≤ t → b < 16 → Q (.inl (some (.int (nI (gds I c m t b))))) E I J S → am_ww 271 16 [.ref 99, .int (nI c), .int (nI b), .int (nI t), d4] [] E I J S Q := by
  intro m
  induction m with
  | zero =>
    intro t b d4 hd4 et t1 hb h
    apply g271_16 hd4
    rw [eT, nI_ltI (by omega) (by omega)]
    exact ⟨fun _ => h, fun q => absurd (by omega) q⟩
  | succ m ih =>
    intro t b d4 hd4 et t1 hb h
    apply g271_16 hd4
    obtain ⟨d1, d2⟩ := hD t t1 (by omega)
    rw [eT, nI_ltI (by omega) (by omega), nI_clamp (by omega), nI_add]
    refine ⟨fun q => absurd q (by omega), fun _ => ⟨vp_in_nI (by omega) (by omega), by rw [d1]; exact vp_in_nI (by omega) (by omega), ?_⟩⟩
    have yes : ct I (I 119 t).toNatClampNeg = nI c → am_ww 271 33 [.ref 99, .int (nI c), .int (nI b), .int (nI t), .int (nI 0)] [] E I J S Q := by
      intro y
      rw [gds_y y] at h
      exact m271_33 (by omega) hb (fun v => ih (t + 1) _ _ rfl (by omega) (by omega) (gmask b hb _ _ _ _).2.2 h)
    have no : ¬ ct I (I 119 t).toNatClampNeg = nI c → am_ww 271 16 [.ref 99, .int (nI c), .int (nI b), .int (nI (t + 1)), d4] [] E I J S Q := by
      intro y
      rw [gds_n y] at h
      exact ih (t + 1) b d4 hd4 (by omega) (by omega) hb h
    unfold ct at yes no
    refine ⟨fun c1 => ?_, fun c1 => ?_⟩
    · rw [if_pos c1] at yes no
      have n2 : ¬ I 106 (I 119 t).toNatClampNeg = nI 2 := by rw [c1, nI_eq (by omega) (by omega)]; omega
      exact ⟨fun y => yes y, fun y => ⟨fun z => absurd z n2, fun _ => no y⟩⟩
    · rw [if_neg c1] at yes no
      refine ⟨fun c2 => ?_, fun c2 => ?_⟩
      · rw [if_pos c2] at yes no
        exact ⟨fun y => yes y, fun y => no y⟩
      · rw [if_neg c2] at no
        exact no (fun z => nI_nm (by omega) z.symm)
theorem k_guards {E : am_Ev} {I : Nat → Nat → Int32} {J : Nat → Nat → Int64} {S : Nat → Nat → Option Nat} {Q : am_Qt} {T cu ac n d i : Nat} {x4 : Int32} {d5 d6 : Value} (hd5 : am_isL d5 = false) (hd6 : am_isL d6 = false) (hcr : CR I T cu ac n) (hvw : vw I T d) (hx : x4 = nI i) (hi : i + 6 ≤ E.2.2.1) (hL : E.2.2.1 ≤ 3072) (h : Hn I J S E x4 Q) : am_ww 291 847 [.ref 1000000, .ref 0, .ref 99, .ref 145, .int x4, d5, d6] [] E I J S Q := by
  apply g291_847 hd5 hd6
  refine L1 hx hi hL ?_
  generalize E.2.2.2 (i + 1) = x
  obtain ⟨h1, h2, h3, h4, h5, h6, h7, h8, h9, h10, h11, h12, h13, h14⟩ := id hcr
  have hT4 := h4.1.1
  have hD := dn_D h1 h11
  show am_ww 160 0 [.ref 0, .int x, .ref 145, am_U] [] E I J S _
  apply g160_0
  show am_ww 161 0 [.ref 0, .int x, am_U, am_U, am_U] [] E I J S _
  apply g161_0
  rcases rng x 16 (by omega) with ⟨c, hc, ec⟩ | hb
  · subst ec
    refine c124g hc ⟨rfl, ?_⟩
    refine c13_88 (q_mkV ?_)
    have z88 : ∀ l, l < 4 → u_I I 88 (fil (I 88) 4 (-1)) 88 l = rt I (1 - 1) (40 + l) := fun l hl => by
      rw [u_I_eq, ← h4.2.2.1 _ (by omega)]
      unfold fil m_first
      rw [if_pos hl, if_neg (by omega), if_pos (by omega)]
    have zo : fr I (u_I I 88 (fil (I 88) 4 (-1))) [88] := fr_u
    generalize u_I I 88 (fil (I 88) 4 (-1)) = I0 at z88 zo ⊢
    refine c161_l (I := I) h1 h2 h4 h8.2 h11 hc T 1 15 I0 am_U rfl (by omega) (by omega) (by omega) zo z88 (fun I1 f1 _ => W_ok (y := 160) (q_mkI ⟨rfl, ?_⟩))
    show am_ww 271 0 [.ref 99, .int (nI c), am_U, am_U, am_U] [] E I1 _ S _
    apply g271_0
    refine ⟨fun q => absurd ((nI_ltI (by omega) (by omega)).mp q) (by omega), fun _ => ⟨fun q => absurd ((nI_ltI (by omega) (by omega)).mp q) (by omega), fun _ => ?_⟩⟩
    have y99 : u_I I1 99 (upd (I1 99) 3 (nI 0)) 99 = upd (I 99) 3 (nI 0) := by rw [u_I_eq, f1 99 (by decide)]
    have yo : ∀ k, k ≠ 99 → k ≠ 88 → u_I I1 99 (upd (I1 99) 3 (nI 0)) k = I k := fun k a b => by rw [u_I_ne a]; exact f1 k (by simp [b])
    generalize u_I I1 99 (upd (I1 99) 3 (nI 0)) = I2 at y99 yo ⊢
    have eg : ∀ m t b, gds I2 c m t b = gds I c m t b := by
      have e1 : ∀ t, ct I2 (I2 119 t).toNatClampNeg = ct I (I 119 t).toNatClampNeg := fun t => by
        unfold ct
        rw [yo 106 (by omega) (by omega), yo 107 (by omega) (by omega), yo 108 (by omega) (by omega), yo 119 (by omega) (by omega)]
      have e2 : ∀ t l, ge I2 t l = ge I t l := fun t l => by
        unfold ge
        rw [rt_e (yo 117 (by omega) (by omega)), yo 118 (by omega) (by omega)]
      intro m
      induction m with
      | zero => intro t b; rfl
      | succ m ih =>
        intro t b
        by_cases y : ct I (I 119 t).toNatClampNeg = nI c
        · rw [gds_y y, gds_y ((e1 t).trans y), ih, e2, e2, e2, e2]
        · rw [gds_n y, gds_n (fun z => y ((e1 t).symm.trans z)), ih]
    refine m271_l hT4 (by rw [y99, upd_ne (by omega)]; exact h8.1) (fun t a b => by rw [yo 119 (by omega) (by omega)]; exact ⟨(hD t a b).2, (hD t a b).1.2⟩) hc T 1 15 am_U rfl (by omega) (by omega) (by omega) (q_mkI (tl_ok (by rw [y99, upd_eq]) ?_ (Hn_q h (Or.inl rfl) hcr hvw (fun k hk => yo k (by omega) (by omega)) (fun f hf => by rw [y99, upd_ne (by omega)]) (fun k hk => u_J_ne hk))))
    rw [u_J_eq, eg]
    exact if_pos rfl
  · refine c124b hb ⟨1, rfl, q_mkI ⟨rfl, ?_⟩⟩
    show am_ww 271 0 [.ref 99, .int x, am_U, am_U, am_U] [] _ I J S _
    apply g271_0
    have tb : q_I (fun v2 E2 I2 J2 S2 => tl (nI 1) v2 x4 E2 I2 J2 S2 Q) (.inl (some (.int (nI 0)))) (Ex E) (u_I I 99 (upd (upd (I 99) 3 (nI 0)) 3 (nI 1))) J S := q_mkI (tl_bad (by omega) (by omega) (by rw [u_I_eq, upd_eq]) (Hn_q h (Or.inr rfl) hcr hvw (fun k hk => u_I_ne (by omega)) (fun f hf => by rw [u_I_eq, upd_ne (by omega), upd_ne (by omega)]) Jq_id))
    refine ⟨fun _ => tb, fun q0 => ⟨fun _ => tb, fun q1 => ?_⟩⟩
    rw [nI_0] at q0
    exact (ctr_le hb q0 (Int32.not_lt.mp q1) rfl (by omega)).elim
