/-! a thread: both sides -/
/-- what a text that is read may change in the reference -/
def RFR (I I' : Nat → Nat → Int32) : Prop := (∀ k, k < 99 ∨ 100 ≤ k ∧ k < 103 ∨ 110 ≤ k ∧ k < 112 ∨ 116 ≤ k → I' k = I k) ∧ (∀ k, k < 5 → I' 103 k = I 103 k) ∧ (∀ k, k < 16 → I' 104 k = I 104 k) ∧ (∀ k, k < 4 → I' 105 k = I 105 k) ∧ (∀ j, 106 ≤ j → j < 110 → ∀ k, k < 64 → I' j k = I j k) ∧ (∀ k, k ≠ 16 → k ≠ 18 → k ≠ 19 → k ≠ 20 → k ≠ 21 → k ≠ 22 → k ≠ 23 → k ≠ 29 → I' 99 k = I 99 k)
theorem RFR_id {I : Nat → Nat → Int32} : RFR I I := ⟨fun _ _ => rfl, fun _ _ => rfl, fun _ _ => rfl, fun _ _ => rfl, fun _ _ _ _ _ => rfl, fun _ _ _ _ _ _ _ _ _ => rfl⟩
theorem RFR_tr {I I' I'' : Nat → Nat → Int32} (h : RFR I I') (h' : RFR I' I'') : RFR I I'' := by
  obtain ⟨a1, a2, a3, a4, a5, a6⟩ := h
  obtain ⟨b1, b2, b3, b4, b5, b6⟩ := h'
  exact ⟨fun k x => (b1 k x).trans (a1 k x), fun k x => (b2 k x).trans (a2 k x), fun k x => (b3 k x).trans (a3 k x), fun k x => (b4 k x).trans (a4 k x), fun j x y k z => (b5 j x y k z).trans (a5 j x y k z), fun k x1 x2 x3 x4 x5 x6 x7 x8 => (b6 k x1 x2 x3 x4 x5 x6 x7 x8).trans (a6 k x1 x2 x3 x4 x5 x6 x7 x8)⟩
theorem RFR_x {I I' : Nat → Nat → Int32} (h : RFX I I') : RFR I I' := by
  refine ⟨fun k hk => RFX_o h (by omega), fun k _ => by rw [RFX_o h (by decide)], fun k _ => by rw [RFX_o h (by decide)], fun k _ => by rw [RFX_o h (by decide)], fun j _ _ k _ => by rw [RFX_o h (by omega)], fun k x1 x2 x3 x4 x5 x6 x7 _ => h.2 k x1 x2 x3 x4 x5 x6 x7⟩
theorem RFR_l {r l : Nat} {I I' : Nat → Nat → Int32} (h : LGI r l I I') : RFR I I' := by
  obtain ⟨a1, a2, a3, a4⟩ := h
  refine ⟨fun k hk => a1 k (by omega) (by omega) (by omega) (by omega) (by omega), fun k _ => by rw [a1 103 (by decide) (by decide) (by decide) (by decide) (by decide)], fun k _ => by rw [a1 104 (by decide) (by decide) (by decide) (by decide) (by decide)], fun k _ => by rw [a1 105 (by decide) (by decide) (by decide) (by decide) (by decide)], fun j h1 h2 k hk => ?_, fun k x1 x2 x3 x4 x5 x6 x7 _ => a4 k x1 x2 x3 x4 x5 x6 x7⟩
  have hc : j = 106 ∨ j = 107 ∨ j = 108 ∨ j = 109 := by omega
  obtain ⟨e1, e2, e3⟩ := a2 k (by omega)
  rcases hc with e | e | e | e <;> subst e
  · exact e1
  · exact e2
  · exact e3
  · rw [a1 109 (by decide) (by decide) (by decide) (by decide) (by decide)]
/-- a write into an upper half -/
theorem RFR_u {I : Nat → Nat → Int32} {j k : Nat} {x : Int32} (h : j = 103 ∧ 5 ≤ k ∨ j = 104 ∧ 16 ≤ k ∨ j = 105 ∧ 4 ≤ k ∨ (106 ≤ j ∧ j < 110 ∧ 64 ≤ k) ∨ (112 ≤ j ∧ j < 116)) : RFR I (u_I I j (upd (I j) k x)) := by
  have hh : ∀ i m, (i = j → m ≠ k) → u_I I j (upd (I j) k x) i m = I i m := by
    intro i m hm
    by_cases e : i = j
    · subst e
      rw [u_I_eq, upd_ne (hm rfl)]
    · rw [u_I_ne e]
  exact ⟨fun i hi => u_I_ne (by omega), fun m hm => hh _ _ (by omega), fun m hm => hh _ _ (by omega), fun m hm => hh _ _ (by omega), fun i _ _ m hm => hh _ _ (by omega), fun m _ _ _ _ _ _ _ _ => by rw [u_I_ne (by omega)]⟩
theorem ms_z {A : Nat → Nat → Int32} {B : Nat → Nat → Int64} {m : Nat} (h : B 10 m = lN 0) : ms A B (m + 1) = ms A B m := by
  show (if ms A B m = -1 then (if ¬ B 10 m = lN 0 ∧ cfs (B 9) (m / 16) (B 10 m) (A 6 (m / 16)).toNatClampNeg 0 = -1 then A 11 m else -1) else ms A B m) = ms A B m
  by_cases e : ms A B m = -1
  · rw [if_pos e, if_neg (fun q => q.1 h), e]
  · rw [if_neg e]
theorem ms_zs {A : Nat → Nat → Int32} {B : Nat → Nat → Int64} {m : Nat} : ∀ d, (∀ i, m ≤ i → i < m + d → B 10 i = lN 0) → ms A B (m + d) = ms A B m := by
  intro d
  induction d with
  | zero => intro _; rfl
  | succ d ih =>
    intro h
    rw [← Nat.add_assoc, ms_z (h _ (by omega) (by omega)), ih (fun i h1 h2 => h i h1 (by omega))]
section
variable {Z : am_Qt → Prop} {A0 : Nat → Nat → Int32} {B0 : Nat → Nat → Int64} {C0 : Nat → Nat → Option Nat} {c : Nat → Nat} {n : Nat} {E : am_Ev} {p : Nat} {A : Nat → Nat → Int32} {B : Nat → Nat → Int64} {C : Nat → Nat → Option Nat} {I : Nat → Nat → Int32} {J : Nat → Nat → Int64} {S : Nat → Nat → Option Nat} {Q : am_Qt}
theorem RG_e {I' : Nat → Nat → Int32} (h : RG c n p I) (h1 : I' 111 = I 111) (h2 : ∀ f, f ≠ 29 → I' 99 f = I 99 f) : RG c n p I' := by
  unfold RG txr TK at *
  rw [h1, h2 17 (by decide), h2 20 (by decide), h2 16 (by decide), h2 21 (by decide), h2 18 (by decide), h2 19 (by decide), h2 22 (by decide)]
  exact h
/-- the targets of k lines are told -/
def TGT (B : Nat → Nat → Int64) (A : Nat → Nat → Int32) (T L k : Nat) (I I' : Nat → Nat → Int32) : Prop := (∀ j, j ≠ 99 → j ≠ 109 → I' j = I j) ∧ (∀ f, f ≠ 29 → I' 99 f = I 99 f) ∧ (∀ j, j < 64 + 16 * T ∨ 64 + (16 * T + k) ≤ j → I' 109 j = I 109 j) ∧ (∀ i, i < k → ¬ B 10 (16 * T + i) = lN 0 → I' 109 (64 + (16 * T + i)) = cfs (B 9) T (B 10 (16 * T + i)) L 0) ∧ I' 99 29 = ms A B (16 * T + k)
theorem m200_41 {T L : Nat} (hr : RG c n p I) (hdp : DP c n T L I A B)
    (hy : ∀ I', TGT B A T L L I I' → am_ww 200 104 [.ref 99, .int (nI T), .int (nI L), .int (nI 0), .int (nI L)] [] E I' J S Q) :
    ∀ m k I', m + k = L → TGT B A T L k I I' → am_ww 200 41 [.ref 99, .int (nI T), .int (nI L), .int (nI 0), .int (nI k)] [] E I' J S Q := by
  obtain ⟨⟨hT, hL16⟩, hdx, _, _, h6T, hln, _, hz⟩ := hdp
  intro m
  induction m with
  | zero =>
    intro k I' hk ht
    have ek : k = L := by omega
    subst ek
    apply g200_41 rfl
    exact ⟨fun _ => hy I' ht, fun z => absurd (by rw [nI_leI (by omega) (by omega)]; omega) z⟩
  | succ m ih =>
    intro k I' hk ht
    have hr' : RG c n p I' := RG_e hr (ht.1 111 (by decide) (by decide)) ht.2.1
    obtain ⟨t1, t2, t3, t4, t5⟩ := ht
    obtain ⟨o, o1, o2, o3, ⟨o4, o5, o6⟩, o7⟩ := hln k (by omega)
    have hdiv : (16 * T + k) / 16 = T := by omega
    have msn : ms A B (16 * T + (k + 1)) = (if I' 99 29 = -1 then (if ¬ B 10 (16 * T + k) = lN 0 ∧ cfs (B 9) T (B 10 (16 * T + k)) L 0 = -1 then A 11 (16 * T + k) else -1) else I' 99 29) := by
      rw [t5]
      show (if ms A B (16 * T + k) = -1 then (if ¬ B 10 (16 * T + k) = lN 0 ∧ cfs (B 9) ((16 * T + k) / 16) (B 10 (16 * T + k)) (A 6 ((16 * T + k) / 16)).toNatClampNeg 0 = -1 then A 11 (16 * T + k) else -1) else ms A B (16 * T + k)) = _
      rw [hdiv, h6T, nI_clamp (by omega)]
    have e115 : I' 115 = I 115 := t1 115 (by decide) (by decide)
    have e114 : I' 114 = I 114 := t1 114 (by decide) (by decide)
    have idx : nI 16 * (nI 4 + nI T) + nI k = nI (64 + (16 * T + k)) := by
      rw [nI_add, nI_mulI, nI_add]
      congr 1
      omega
    have nxt : ∀ (y : Int32) (I2 : Nat → Nat → Int32), (¬ B 10 (16 * T + k) = lN 0 → y = cfs (B 9) T (B 10 (16 * T + k)) L 0) → (∀ j, j ≠ 99 → j ≠ 109 → I2 j = I' j) → (∀ f, f ≠ 29 → I2 99 f = I' 99 f) → I2 109 = upd (I' 109) (64 + (16 * T + k)) y → I2 99 29 = ms A B (16 * T + (k + 1)) → am_ww 200 41 [.ref 99, .int (nI T), .int (nI L), .int (nI 0), .int (nI k + nI 1)] [] E I2 J S Q := by
      intro y I2 hyy k1 k2 k3 k4
      rw [nI_add]
      refine ih (k + 1) I2 (by omega) ⟨fun j a b => (k1 j a b).trans (t1 j a b), fun f hf => (k2 f hf).trans (t2 f hf), fun j hj => ?_, fun i hi hb => ?_, k4⟩
      · rw [k3, upd_ne (by omega)]; exact t3 j (by omega)
      · rw [k3]
        by_cases e : i = k
        · rw [e, upd_eq]; rw [e] at hb; exact hyy hb
        · rw [upd_ne (by omega)]; exact t4 i (by omega) hb
    apply g200_41 rfl
    rw [nI_leI (by omega) (by omega), nI_clamp (by omega), e115, e114]
    refine ⟨fun z => by omega, fun _ => ⟨fun _ => ⟨vp_in_nI (by omega) (by omega), ?_⟩, fun z => absurd hr'.2.2 z⟩⟩
    rw [idx]
    by_cases ho : o = 9 ∨ o = 10 ∨ o = 11
    · obtain ⟨b, w, w1, w2, w3, w4, w5, w6, w7, w8⟩ := o5 ho
      rw [w4, w5]
      have hb10 : ¬ B 10 (16 * T + k) = lN 0 := by
        rw [w7]
        intro e
        have := (nmv_0 (c := c) (b := b) w2 w8).mp e
        omega
      have hn := hr.1.1
      refine ⟨fun z => by rw [nI_e0 (by omega)] at z; omega, fun _ => ?_⟩
      refine m205 (F := B 9) (T := T) hr'.1 w1 w2 w3 w8 hL16 (fun i hi => ?_) (q_mkI ?_)
      · obtain ⟨_, _, _, _, _, q7⟩ := hln i hi
        unfold LB at *
        rw [t1 112 (by decide) (by decide), t1 113 (by decide) (by decide)]
        exact q7
      · rw [← w7]
        apply g200_74 rfl
        rw [nI_clamp (by omega), nI_clamp (by omega), e115, e114, w4, w5, idx, nI_clamp (by omega), upd_eq]
        refine ⟨vp_in_nI (by omega) (by omega), vp_in_nI (by omega) (by omega), fun z => ?_, fun _ => ⟨vp_in_nI (by omega) (by omega), fun ec => ⟨fun e29 => ?_, fun e29 => ?_⟩, fun ec => ?_⟩⟩
        · rw [← nI_0, nI_leI (by omega) (by omega)] at z; omega
        · refine nxt _ _ (fun _ => rfl) (fun j a b => by rw [u_I_ne a, u_I_ne b]) (fun f hf => by rw [u_I_eq, upd_ne hf]) (by rw [u_I_ne (by decide), u_I_eq]) ?_
          rw [u_I_eq, upd_eq, msn, if_pos e29, if_pos ⟨hb10, ec⟩, w6]
        · refine nxt _ _ (fun _ => rfl) (fun j a b => u_I_ne b) (fun f hf => by rw [u_I_ne (by decide)]) u_I_eq ?_
          rw [u_I_ne (by decide), msn, if_neg e29]
        · refine nxt _ _ (fun _ => rfl) (fun j a b => u_I_ne b) (fun f hf => by rw [u_I_ne (by decide)]) u_I_eq ?_
          rw [u_I_ne (by decide), msn]
          by_cases e29 : I' 99 29 = -1
          · rw [if_pos e29, if_neg (fun q => ec q.2)]; exact e29
          · rw [if_neg e29]
    · obtain ⟨w1, w2⟩ := o6 (by omega) (by omega) (by omega)
      rw [w1]
      refine ⟨fun _ => ?_, fun z => absurd rfl z⟩
      apply g200_74 rfl
      rw [nI_clamp (by omega), nI_clamp (by omega), e115, w1]
      refine ⟨vp_in_nI (by omega) (by omega), vp_in_nI (by omega) (by omega), fun _ => ?_, fun z => absurd (by decide) z⟩
      refine nxt _ _ (fun z => absurd w2 z) (fun j a b => u_I_ne b) (fun f hf => by rw [u_I_ne (by decide)]) u_I_eq ?_
      rw [u_I_ne (by decide), msn]
      by_cases e29 : I' 99 29 = -1
      · rw [if_pos e29, if_neg (fun q => q.1 w2)]; exact e29
      · rw [if_neg e29]
/-- a thread is read -/
theorem DT_thr {T L : Nat} {I' : Nat → Nat → Int32} (hn : n ≤ 700) (hdp : DP c n T L I A B) (ht : TGT B A T L L I I') : DT (T + 1) (u_I (u_I I' 105 (upd (I' 105) (4 + T) (nI L))) 103 (upd (I' 103) 9 (nI (T + 1)))) A B := by
  obtain ⟨⟨hT, hL16⟩, ⟨d1, d2, d3, d4⟩, hds, h35, h6T, hln, hgt, hz⟩ := hdp
  obtain ⟨t1, t2, t3, t4, t5⟩ := ht
  have e103 : I' 103 = I 103 := t1 103 (by decide) (by decide)
  have e105 : I' 105 = I 105 := t1 105 (by decide) (by decide)
  refine ⟨⟨by omega, ?_, fun t ht => ?_, ?_⟩, ?_, h35, fun t h1 h2 => hgt t (by omega) h2, fun r h1 h2 => hz r (by omega) h2⟩
  · rw [u_I_eq, upd_eq]
  · by_cases e : t = T
    · subst e
      refine ⟨L, hL16, h6T, ?_, fun l hl => ?_, fun l h1 h2 => (hz _ (by omega) (by omega)).2⟩
      · rw [u_I_ne (by decide), u_I_eq, upd_eq]
      · obtain ⟨o, o1, o2, o3, ⟨o4, o5, o6⟩, o7⟩ := hln l hl
        refine ⟨⟨o, o1, o2, ?_, ?_, fun ho => ?_, fun h9 h10 h11 => (o6 h9 h10 h11).2⟩, fun hb => ?_⟩
        · rw [u_I_ne (by decide), u_I_ne (by decide), t1 106 (by decide) (by decide)]; exact o3
        · unfold OPN at *
          rw [u_I_ne (by decide), u_I_ne (by decide), u_I_ne (by decide), u_I_ne (by decide), t1 107 (by decide) (by decide), t1 108 (by decide) (by decide)]
          exact o4
        · obtain ⟨b, w, w1, w2, w3, w4, w5, w6, w7, w8⟩ := o5 ho
          rw [w7, w6]
          refine ⟨fun e => ?_, nI_nm (by omega)⟩
          have := (nmv_0 (c := c) (b := b) w2 w8).mp e
          omega
        · rw [u_I_ne (by decide), u_I_ne (by decide)]; exact t4 l hl hb
    · refine TD_e (d3 t (by omega)) rfl ?_ (fun r h1 h2 => ⟨rfl, rfl, rfl, rfl, ?_, ?_, ?_, ?_, rfl, rfl⟩)
      · rw [u_I_ne (by decide), u_I_eq, upd_ne (by omega), e105]
      · rw [u_I_ne (by decide), u_I_ne (by decide), t1 106 (by decide) (by decide)]
      · rw [u_I_ne (by decide), u_I_ne (by decide), t1 107 (by decide) (by decide)]
      · rw [u_I_ne (by decide), u_I_ne (by decide), t1 108 (by decide) (by decide)]
      · rw [u_I_ne (by decide), u_I_ne (by decide)]; exact t3 _ (by omega)
  · rw [u_I_ne (by decide), u_I_ne (by decide), t5, show 16 * (T + 1) = 16 * T + L + (16 - L) from by omega]
    exact (ms_zs (16 - L) (fun i h1 h2 => (hz i (by omega) (by omega)).2)).symm
  · unfold DS at *
    rw [u_I_eq, u_I_ne (show 104 ≠ 103 by decide), u_I_ne (show 104 ≠ 105 by decide), e103, t1 104 (by decide) (by decide), upd_ne (show 5 ≠ 9 by decide), upd_ne (show 7 ≠ 9 by decide), upd_ne (show 8 ≠ 9 by decide)]
    refine ⟨fun k hk => ?_, hds.2⟩
    rw [upd_ne (by omega)]
    exact hds.1 k hk
theorem RFR_tg {T L k : Nat} {I' : Nat → Nat → Int32} (h : TGT B A T L k I I') : RFR I I' := by
  obtain ⟨t1, t2, t3, t4, t5⟩ := h
  refine ⟨fun k hk => t1 k (by omega) (by omega), fun k _ => by rw [t1 103 (by decide) (by decide)], fun k _ => by rw [t1 104 (by decide) (by decide)], fun k _ => by rw [t1 105 (by decide) (by decide)], fun j h1 h2 k hk => ?_, fun k x1 x2 x3 x4 x5 x6 x7 x8 => t2 k x8⟩
  by_cases e : j = 109
  · subst e; exact t3 k (by omega)
  · rw [t1 j (by omega) e]
/-- a thread that went wrong -/
theorem m200_f {T L : Nat} {d4 : Value} (hd4 : am_isL d4 = false) (hT : T < 4) (h1 : 1 ≤ L) (hL : L ≤ 17) (hf : FL Z A0 B0 C0 E I) (hb : ∀ I', FL Z A0 B0 C0 E I' → RFR I I' → Q (.inl none) E I' J S) : am_ww 200 24 [.ref 99, .int (nI T), .int (nI L), .int (nI 0), d4] [] E I J S Q := by
  apply g200_24 hd4
  refine ⟨fun _ => ?_, fun z => absurd rfl z⟩
  apply g200_41 rfl
  rw [nI_leI (by omega) (by omega)]
  refine ⟨fun z => by omega, fun _ => ⟨fun z => absurd z (FL_ne hf), fun _ => ?_⟩⟩
  apply g200_104 rfl rfl
  rw [nI_add, nI_clamp (by omega)]
  refine ⟨vp_in_nI (by omega) (by omega), hb _ (FL_u (FL_u hf (by decide)) (by decide)) ?_⟩
  exact RFR_tr (RFR_u (j := 105) (k := 4 + T) (x := nI L) (by omega)) (RFR_u (I := u_I I 105 (upd (I 105) (4 + T) (nI L))) (j := 103) (k := 9) (by omega))
theorem m200_24 {T : Nat} (hS : SW S) (hd4 : am_isL am_U = false)
    (hy : ∀ p' I' A' B' C', GO Z A0 B0 C0 c n E p' A' B' C' → RG c n p' I' → A' 1 10 = nI 5 → ¬ (tkd c n p' = 3 ∧ c (tb c n p') = 44) → DT (T + 1) I' A' B' → A' 1 16 = A 1 16 → RFR I I' → Q (.inl none) E I' J S)
    (hb : ∀ I', FL Z A0 B0 C0 E I' → RFR I I' → Q (.inl none) E I' J S) :
    ∀ m l p A1 B1 C1 I1, m + l = 16 → GO Z A0 B0 C0 c n E p A1 B1 C1 → RG c n p I1 → A1 1 10 = nI 2 → DP c n T l I1 A1 B1 → A1 1 16 = A 1 16 → RFR I I1 → am_ww 200 24 [.ref 99, .int (nI T), .int (nI l), .int (nI 1), am_U] [] E I1 J S Q := by
  intro m
  induction m with
  | zero =>
    intro l p A1 B1 C1 I1 hl hg hr h10 hdp e16 f0
    have hT := hdp.1.1
    apply g200_24 hd4
    refine ⟨fun z => absurd z (by decide), fun _ => ⟨fun _ => ?_, fun z => absurd hr.2.2 z⟩⟩
    refine m201 hg hr hS h10 hdp (fun p' I' A' B' C' hl6 _ _ _ _ _ _ => by omega) (fun I' f1 x1 => q_mkV ?_)
    refine m211_f (FL_ne f1) (q_mkI ?_)
    rw [nI_add]
    exact m200_f hd4 hT (by omega) (by omega) f1 (fun I2 f2 x2 => hb I2 f2 (RFR_tr f0 (RFR_tr (RFR_l x1) x2)))
  | succ m ih =>
    intro l p A1 B1 C1 I1 hl hg hr h10 hdp e16 f0
    have hT := hdp.1.1
    apply g200_24 hd4
    refine ⟨fun z => absurd z (by decide), fun _ => ⟨fun _ => ?_, fun z => absurd hr.2.2 z⟩⟩
    refine m201 hg hr hS h10 hdp (fun p2 I2 A2 B2 C2 hl6 g2 r2 y10 dp2 y16 x2 => q_mkV ?_) (fun I' f1 x1 => q_mkV ?_)
    · have hp2 := g2.2.2.2.2
      refine m211 (ch := 44) r2 hp2 (by decide) (fun t3 ec I3 r3 f3 => q_mkI ?_) (fun hno => q_mkI ?_)
      · obtain ⟨A3, B3, C3, g3, e3, k10, k16, ko, kB⟩ := GO_acc (X := fun A3 B3 C3 => C3 = C2 ∧ A3 1 10 = nI 2 ∧ A3 1 16 = A2 1 16 ∧ (∀ k, k ≠ 1 → A3 k = A2 k) ∧ (∀ k, k ≠ 1 → B3 k = B2 k)) g2 (by omega) (fun A4 B4 tg => by
          obtain ⟨_, _, ks⟩ := TG_6 tg (by omega)
          refine ⟨u_I A4 1 (upd (A4 1) 10 (nI (if 44 = 44 then 2 else 0))), B4, C2, t5_ok ((TG_f tg 10 (by decide)).trans y10) ((ks 44 (by omega)).mpr ⟨t3, ec⟩) (Or.inl rfl), by rw [u_I_eq, upd_ne (by decide)], ⟨fun k hk => u_I_ne (by omega), fun _ _ => rfl, fun _ _ => rfl⟩, rfl, by rw [u_I_eq, upd_eq, if_pos rfl], ?_, fun k hk => ?_, tg.2.2.1⟩
          · rw [u_I_eq, upd_ne (by decide)]; exact TG_f tg 16 (by decide)
          · rw [u_I_ne hk]; exact TG_o tg k hk)
        rw [nI_add]
        refine ih (l + 1) _ A3 B3 C3 I3 (by omega) g3 r3 k10 ?_ (k16.trans (y16.trans e16)) (RFR_tr f0 (RFR_tr (RFR_l x2) (RFR_x (RFX_t f3))))
        obtain ⟨q1, q2, q3, q4, q5, q6, q7, q8⟩ := dp2
        have re : ∀ r, RE r I2 I3 A2 A3 B2 B3 := fun r => by
          unfold RE
          rw [ko 4 (by decide), ko 5 (by decide), ko 11 (by decide), kB 9 (by decide), kB 10 (by decide), RFT_o f3 (show 106 ≠ 99 by decide), RFT_o f3 (show 107 ≠ 99 by decide), RFT_o f3 (show 108 ≠ 99 by decide), RFT_o f3 (show 109 ≠ 99 by decide)]
          exact ⟨rfl, rfl, rfl, rfl, rfl, rfl, rfl, rfl, rfl, rfl⟩
        refine ⟨q1, DX_e q2 (by rw [RFT_o f3 (by decide)]) (f3.2 29 (by decide) (by decide) (by decide) (by decide) (by decide)) (fun t _ => by rw [RFT_o f3 (by decide)]) (fun t _ => by rw [ko 6 (by decide)]) (fun r _ => re r), DS_e q3 (RFT_o f3 (by decide)) (RFT_o f3 (by decide)) (ko 7 (by decide)) (ko 8 (by decide)), ?_, ?_, fun i hi => ?_, fun t h1 h2 => ?_, fun r h1 h2 => ?_⟩
        · rw [ko 3 (by decide)]; exact q4
        · rw [ko 6 (by decide)]; exact q5
        · have := q6 i hi
          unfold LNp OPQ OPN WN LB at *
          rw [ko 4 (by decide), ko 5 (by decide), ko 11 (by decide), kB 9 (by decide), kB 10 (by decide), RFT_o f3 (show 106 ≠ 99 by decide), RFT_o f3 (show 107 ≠ 99 by decide), RFT_o f3 (show 108 ≠ 99 by decide), RFT_o f3 (show 112 ≠ 99 by decide), RFT_o f3 (show 113 ≠ 99 by decide), RFT_o f3 (show 114 ≠ 99 by decide), RFT_o f3 (show 115 ≠ 99 by decide)]
          exact this
        · rw [ko 6 (by decide)]; exact q7 t h1 h2
        · rw [kB 9 (by decide), kB 10 (by decide)]; exact q8 r h1 h2
      · rw [nI_add]
        apply g200_24 hd4
        refine ⟨fun _ => ?_, fun z => absurd rfl z⟩
        refine m200_41 r2 dp2 (fun I3 tg3 => ?_) (l + 1) 0 I2 (by omega) ⟨fun _ _ _ => rfl, fun _ _ => rfl, fun _ _ => rfl, fun i hi => by omega, dp2.2.1.2.2.2⟩
        apply g200_104 rfl rfl
        have e9 : I3 103 9 = nI T := by rw [tg3.1 103 (by decide) (by decide)]; exact dp2.2.1.2.1
        rw [nI_add, nI_clamp (by omega), e9, nI_add]
        refine ⟨vp_in_nI (by omega) (by omega), ?_⟩
        refine hy p2 _ A2 B2 C2 g2 (RG_u (RG_u (RG_e r2 (tg3.1 111 (by decide) (by decide)) tg3.2.1) (by decide) (by decide)) (by decide) (by decide)) y10 hno (DT_thr r2.1.1 dp2 tg3) (y16.trans e16) ?_
        refine RFR_tr f0 (RFR_tr (RFR_l x2) (RFR_tr (RFR_tg tg3) ?_))
        exact RFR_tr (RFR_u (j := 105) (k := 4 + T) (x := nI (l + 1)) (by omega)) (RFR_u (I := u_I I3 105 (upd (I3 105) (4 + T) (nI (l + 1)))) (j := 103) (k := 9) (by omega))
    · refine m211_f (FL_ne f1) (q_mkI ?_)
      rw [nI_add]
      exact m200_f hd4 hT (by omega) (by omega) f1 (fun I2 f2 x2 => hb I2 f2 (RFR_tr f0 (RFR_tr (RFR_l x1) x2)))
theorem m200 {T : Nat} (hg : GO Z A0 B0 C0 c n E p A B C) (hr : RG c n p I) (hS : SW S) (h10 : A 1 10 = nI 0) (t1 : tkd c n p = 1) (hw : isw c (tb c n p) (te c n p) 5) (hdt : DT T I A B)
    (hy : ∀ p' I' A' B' C', T < 4 → GO Z A0 B0 C0 c n E p' A' B' C' → RG c n p' I' → A' 1 10 = nI 5 → ¬ (tkd c n p' = 3 ∧ c (tb c n p') = 44) → DT (T + 1) I' A' B' → A' 1 16 = A 1 16 → RFR I I' → Q (.inl none) E I' J S)
    (hb : ∀ I', FL Z A0 B0 C0 E I' → RFR I I' → Q (.inl none) E I' J S) : am_cl 200 [.ref 99] E I J S Q := by
  have hp := hg.2.2.2.2
  show am_ww 200 0 [.ref 99, am_U, am_U, am_U, am_U] [] E I J S Q
  obtain ⟨⟨d1, d2, d3, d4⟩, hds, h35, hgt, hz⟩ := hdt
  apply g200_0
  rw [d2, nI_eq (by omega) (by omega)]
  refine ⟨fun e4 => ⟨fun _ => ?_, fun z => absurd hr.2.2 z⟩, fun n4 => ?_⟩
  · subst e4
    apply g200_9 rfl rfl rfl rfl
    refine ⟨fun z => absurd z (wr_22 (k := 2) (by decide) (by decide)), fun _ => hb _ ?_ (RFR_x RFX_w)⟩
    refine FL_w hr hp (by decide) (by decide) (GO_rej hg (fun z => by omega) (by decide) (by decide) (fun A1 B1 tg t0 => ⟨A1, B1, C, t0_many ((TG_f tg 10 (by decide)).trans h10) (tg.2.2.2.2.2.1 t1).1 (TG_w tg t1 (by decide) hw) ?_, rfl, CF_id⟩))
    rw [TG_o tg 3 (by decide)]; exact h35
  · apply g200_9 rfl rfl rfl rfl
    refine ⟨fun _ => m190s hr hp (fun I1 r1 f1 => q_mkV ?_), fun z => absurd hr.2.2 z⟩
    obtain ⟨A2, B2, C2, g2, e2, k10, k16, k35, ko, kB⟩ := GO_acc (X := fun A2 B2 C2 => C2 = C ∧ A2 1 10 = nI 2 ∧ A2 1 16 = A 1 16 ∧ A2 3 5 = nI (T + 1) ∧ (∀ k, k ≠ 1 → k ≠ 3 → A2 k = A k) ∧ (∀ k, k ≠ 1 → B2 k = B k)) hg (by omega) (fun A1 B1 tg => by
      refine ⟨u_I (u_I A1 3 (upd (A1 3) 5 (nI (T + 1)))) 1 (upd (A1 1) 10 (nI 2)), B1, C, t0_thr ((TG_f tg 10 (by decide)).trans h10) (tg.2.2.2.2.2.1 t1).1 (TG_w tg t1 (by decide) hw) (by rw [TG_o tg 3 (by decide)]; exact h35) (by omega), by rw [u_I_eq, upd_ne (by decide)], ⟨fun k hk => by rw [u_I_ne (by omega), u_I_ne (by omega)], fun _ _ => rfl, fun _ _ => rfl⟩, rfl, by rw [u_I_eq, upd_eq], ?_, by rw [u_I_ne (by decide), u_I_eq, upd_eq], fun k h1 h3 => ?_, tg.2.2.1⟩
      · rw [u_I_eq, upd_ne (by decide)]; exact TG_f tg 16 (by decide)
      · rw [u_I_ne h1, u_I_ne h3]; exact TG_o tg k h1)
    have e9 : I1 103 9 = nI T := by rw [RFT_o f1 (by decide)]; exact d2
    rw [e9]
    have re : ∀ r, RE r I I1 A A2 B B2 := fun r => by
      unfold RE
      rw [ko 4 (by decide) (by decide), ko 5 (by decide) (by decide), ko 11 (by decide) (by decide), kB 9 (by decide), kB 10 (by decide), RFT_o f1 (show 106 ≠ 99 by decide), RFT_o f1 (show 107 ≠ 99 by decide), RFT_o f1 (show 108 ≠ 99 by decide), RFT_o f1 (show 109 ≠ 99 by decide)]
      exact ⟨rfl, rfl, rfl, rfl, rfl, rfl, rfl, rfl, rfl, rfl⟩
    refine m200_24 (A := A) (I := I) hS rfl (fun p' I' A' B' C' => hy p' I' A' B' C' (by omega)) hb 16 0 _ A2 B2 C2 I1 rfl g2 r1 k10 ⟨⟨by omega, by omega⟩, DX_e ⟨d1, d2, d3, d4⟩ (by rw [RFT_o f1 (by decide)]) (f1.2 29 (by decide) (by decide) (by decide) (by decide) (by decide)) (fun t _ => by rw [RFT_o f1 (by decide)]) (fun t _ => by rw [ko 6 (by decide) (by decide)]) (fun r _ => re r), DS_e hds (RFT_o f1 (by decide)) (RFT_o f1 (by decide)) (ko 7 (by decide) (by decide)) (ko 8 (by decide) (by decide)), k35, ?_, fun i hi => by omega, fun t h1 h2 => ?_, fun r h1 h2 => ?_⟩ k16 (RFR_x (RFX_t f1))
    · rw [ko 6 (by decide) (by decide)]; exact hgt T (by omega) (by omega)
    · rw [ko 6 (by decide) (by decide)]; exact hgt t (by omega) h2
    · rw [kB 9 (by decide), kB 10 (by decide)]; exact hz r (by omega) h2
end
