/-! a line: both sides -/
section
variable {Z : am_Qt → Prop} {A0 : Nat → Nat → Int32} {B0 : Nat → Nat → Int64} {C0 : Nat → Nat → Option Nat} {c : Nat → Nat} {n : Nat} {E : am_Ev} {p : Nat} {A : Nat → Nat → Int32} {B : Nat → Nat → Int64} {C : Nat → Nat → Option Nat} {I : Nat → Nat → Int32} {J : Nat → Nat → Int64} {S : Nat → Nat → Option Nat} {Q : am_Qt}
theorem TG_w {A1 : Nat → Nat → Int32} {B1 : Nat → Nat → Int64} {k : Nat} (h : TG c n p A A1 B B1) (t1 : tkd c n p = 1) (hk : k < 19) (hw : isw c (tb c n p) (te c n p) k) : A1 1 8 = nI k := by
  obtain ⟨_, w, _⟩ := h.2.2.2.2.2.1 t1
  rcases w with ⟨j, k1, k2, e⟩ | ⟨w, e⟩
  · rw [e, isw_u k1 hk k2 hw]
  · exact absurd hw (w k hk)
theorem isw_8 {b e k : Nat} (hk : k < 19) (hw : isw c b e k) : e - b ≤ 8 := by
  have := wl_b k hk
  rw [hw.1]
  omega
/-- a quoted word that is no instruction -/
theorem no_ins (h1 : ¬ nwd c n p) (h2 : ¬ ∃ k, k < 13 ∧ isw c (tb c n p) (te c n p) (6 + k)) : ∃ w, w < 6 ∧ isw c (tb c n p) (te c n p) w := by
  refine Classical.byContradiction (fun q => h1 (fun k hk hw => ?_))
  by_cases k6 : k < 6
  · exact q ⟨k, k6, hw⟩
  · refine h2 ⟨k - 6, by omega, ?_⟩
    rw [show 6 + (k - 6) = k from by omega]
    exact hw
theorem m203 {T l : Nat} {I0 : Nat → Nat → Int32} (hg : GO Z A0 B0 C0 c n E p A B C) (hr : RG c n p I) (hS : SW S) (h10 : A 1 10 = nI 2) (t1 : tkd c n p = 1) (hni : ¬ ∃ k, k < 13 ∧ isw c (tb c n p) (te c n p) (6 + k)) (h0 : DP c n T l I0 A B) (hl : l < 16) (hI : LGI (16 * T + l) l I0 I)
    (hy : ∀ p' I' A' B', GO Z A0 B0 C0 c n E p' A' B' C → RG c n p' I' → LGI (16 * T + l) l I I' → I' 115 = I 115 → LB c n I' l (B' 9 (16 * T + l)) → A' 1 10 = nI 4 → A' 1 14 = nI (16 * T + l) → A' 1 16 = A 1 16 → (∀ k, k ≠ 1 → k ≠ 6 → A' k = A k) → A' 6 = upd (A 6) T (nI (l + 1)) → (∀ j, j ≠ 16 * T + l → B' 9 j = B 9 j) → B' 10 = B 10 → Q (.inl none) E I' J S)
    (hb : ∀ I', FL Z A0 B0 C0 E I' → LGI (16 * T + l) l I I' → Q (.inl none) E I' J S) : am_cl 203 [.ref 99, .int (nI l)] E I J S Q := by
  have hp := hg.2.2.2.2
  have hn := hr.1.1
  have b1 := tb_ge (c := c) hp
  have b2 := te_n (c := c) hp
  obtain ⟨u1, u2⟩ := tk_1 hp t1
  obtain ⟨⟨hT, _⟩, _, _, h35, h6T, hln, _, hz⟩ := h0
  show am_ww 203 0 [.ref 99, .int (nI l)] [] E I J S Q
  apply g203_0
  refine m204 hr hp hS (fun _ hw h8 => q_mkI ⟨fun z => absurd z (by decide), fun _ => ?_⟩) (fun hw => q_mkI ⟨fun _ => hb _ ?_ (LGI_x RFX_w), fun z => absurd rfl z⟩) (fun _ hw h8 => q_mkI ⟨fun _ => hb _ ?_ (LGI_x RFX_w), fun z => absurd rfl z⟩)
  · rw [hr.2.1.1, hr.2.1.2.2.1, nI_subI b2.2]
    have lt8 : ∀ j, j < te c n p - tb c n p → isL c (tb c n p + j) = true := fun j hj => u2 _ (by omega) (by omega)
    refine m205 (F := B 9) (T := T) hr.1 (by omega) h8 (by omega) lt8 (by omega) (fun i hi => ?_) (q_mkI ?_)
    · obtain ⟨o, _, _, _, _, o7⟩ := hln i hi
      unfold LB at *
      obtain ⟨f1, f2, _, _⟩ := hI.2.2.1 i (by omega)
      rw [f1, f2]
      exact o7
    have hx9 : B 9 (16 * T + l) = lN 0 := (hz (16 * T + l) (by omega) (by omega)).1
    have hx : ¬ B 9 (16 * T + l) = nmv c (tb c n p) (te c n p - tb c n p) := by
      rw [hx9]
      intro e
      have := (nmv_0 (c := c) (b := tb c n p) h8 lt8).mp e.symm
      omega
    have ecf : cfs (B 9) T (nmv c (tb c n p) (te c n p - tb c n p)) (l + 1) 0 = -1 ↔ cfs (B 9) T (nmv c (tb c n p) (te c n p - tb c n p)) l 0 = -1 := by
      rw [cfs_n (by omega), cfs_n (by omega)]
      refine ⟨fun h j h1 h2 => h j h1 (by omega), fun h j h1 h2 => ?_⟩
      by_cases e : j = l
      · rw [e]; exact hx
      · exact h j h1 (by omega)
    refine ⟨fun ev => ?_, fun ev => ?_⟩
    · apply g203_19
      rw [nI_clamp (by omega)]
      refine ⟨vp_in_nI hl (by omega), fun _ => ?_, fun z => absurd hr.2.2 z⟩
      rw [hr.2.1.1, hr.2.1.2.2.1, nI_subI b2.2]
      obtain ⟨A2, B2, C2, g2, e2, f10, f14, f16, fo, f6, f9, f910, fB⟩ := GO_acc (X := fun A2 B2 C2 => C2 = C ∧ A2 1 10 = nI 3 ∧ A2 1 14 = nI (16 * T + l) ∧ A2 1 16 = A 1 16 ∧ (∀ k, k ≠ 1 → k ≠ 6 → A2 k = A k) ∧ A2 6 = upd (A 6) T (nI (l + 1)) ∧ (∀ j, j ≠ 16 * T + l → B2 9 j = B 9 j) ∧ B2 9 (16 * T + l) = nmv c (tb c n p) (te c n p - tb c n p) ∧ B2 10 = B 10) hg (by omega) (fun A1 B1 tg => by
        have tf := TG_f tg
        have e19 := (tg.2.2.2.2.2.1 t1).2.2
        have eb9 := tg.2.2.1 9 (by decide)
        have o6 := TG_o tg 6 (by decide)
        refine ⟨u_I (lnI A1 T l) 1 (upd (lnI A1 T l 1) 10 (nI 3)), u_J B1 9 (vp_updL (B1 9) (16 * T + l) (B1 1 9)), C, ?_, ?_, ?_, rfl, ?_, ?_, ?_, ?_, ?_, ?_, ?_, ?_⟩
        · intro Q' hv hQ
          refine c77_2 ((tf 10 (by decide)).trans h10) (c89_l (tg.2.2.2.2.2.1 t1).1 (TG_nm tg t1 hw) tg.2.2.2.1 tg.2.2.2.2.1 b2.2 (by omega) (by rw [TG_o tg 3 (by decide)]; exact h35) hT (by rw [o6]; exact h6T) hl h8 (fun _ => hQ) (fun z => absurd ?_ z)) hv
          rw [e19, eb9]
          exact ecf.mpr ev
        · unfold lnI
          rw [u_I_eq, upd_ne (by decide), u_I_ne (by decide), u_I_eq, upd_ne (by decide)]
        · refine ⟨fun k hk => ?_, fun k hk => u_J_ne (by omega), fun _ _ => rfl⟩
          unfold lnI
          rw [u_I_ne (by omega), u_I_ne (by omega), u_I_ne (by omega)]
        · rw [u_I_eq, upd_eq]
        · unfold lnI
          rw [u_I_eq, upd_ne (by decide), u_I_ne (by decide), u_I_eq, upd_eq]
        · unfold lnI
          rw [u_I_eq, upd_ne (by decide), u_I_ne (by decide), u_I_eq, upd_ne (by decide)]
          exact tf 16 (by decide)
        · intro k h1 h6
          unfold lnI
          rw [u_I_ne h1, u_I_ne h6, u_I_ne h1]
          exact TG_o tg k h1
        · unfold lnI
          rw [u_I_ne (by decide), u_I_eq, o6]
        · intro j hj
          rw [u_J_eq, uL_ne hj, eb9]
        · rw [u_J_eq, uL_eq]; exact e19
        · rw [u_J_ne (by decide)]; exact tg.2.2.1 10 (by decide))
      subst e2
      refine m190s (RG_u (RG_u hr (by decide) (by decide)) (by decide) (by decide)) hp (fun I3 r3 f3 => q_mkV ?_)
      have hp3 := g2.2.2.2.2
      have x3 : LGI (16 * T + l) l I I3 := LGI_tr (LGI_n (k := 112) (by decide)) (LGI_tr (LGI_n (I := u_I I 112 (upd (I 112) l (nI (tb c n p)))) (k := 113) (by decide)) (LGI_x (RFX_t f3)))
      have lb3 : LB c n I3 l (nmv c (tb c n p) (te c n p - tb c n p)) := by
        refine Or.inr ⟨tb c n p, te c n p - tb c n p, by omega, h8, by omega, ?_, ?_, rfl, lt8⟩
        · rw [RFT_o f3 (by decide), u_I_ne (by decide), u_I_eq, upd_eq]
        · rw [RFT_o f3 (by decide), u_I_eq, upd_eq]
      have e115 : I3 115 = I 115 := by rw [RFT_o f3 (by decide), u_I_ne (by decide), u_I_ne (by decide)]
      refine m206 (ch := 58) r3 hp3 (by decide) (fun t3 ec I4 r4 f4 => q_mkV ?_) (fun hno => q_mkV (hb _ ?_ (LGI_tr x3 (LGI_x RFX_w))))
      · obtain ⟨A3, B3, C3, g3, e3, k10, kf, ko, kB⟩ := GO_acc (X := fun A3 B3 C3 => C3 = C2 ∧ A3 1 10 = nI 4 ∧ (∀ k, 11 ≤ k → A3 1 k = A2 1 k) ∧ (∀ k, k ≠ 1 → A3 k = A2 k) ∧ (∀ k, k ≠ 1 → B3 k = B2 k)) g2 (by omega) (fun A1 B1 tg => by
          obtain ⟨_, _, ks⟩ := TG_6 tg (by omega)
          refine ⟨u_I A1 1 (upd (A1 1) 10 (nI 4)), B1, C2, t3_ok ((TG_f tg 10 (by decide)).trans f10) ((ks 58 (by omega)).mpr ⟨t3, ec⟩), by rw [u_I_eq, upd_ne (by decide)], ⟨fun k hk => u_I_ne (by omega), fun _ _ => rfl, fun _ _ => rfl⟩, rfl, by rw [u_I_eq, upd_eq], fun k hk => ?_, fun k hk => ?_, tg.2.2.1⟩
          · rw [u_I_eq, upd_ne (by omega)]; exact TG_f tg k (by omega)
          · rw [u_I_ne hk]; exact TG_o tg k hk)
        subst e3
        refine hy _ I4 A3 B3 g3 r4 (LGI_tr x3 (LGI_x (RFX_t f4))) ?_ ?_ k10 ((kf 14 (by decide)).trans f14) ((kf 16 (by decide)).trans f16) (fun k h1 h6 => (ko k h1).trans (fo k h1 h6)) ((ko 6 (by decide)).trans f6) (fun j hj => by rw [kB 9 (by decide)]; exact f9 j hj) ((kB 10 (by decide)).trans fB)
        · rw [RFT_o f4 (by decide)]; exact e115
        · unfold LB at *
          rw [kB 9 (by decide), f910, RFT_o f4 (by decide), RFT_o f4 (by decide)]
          exact lb3
      · refine FL_w r3 hp3 (by decide) (by decide) (GO_rej g2 (fun z => ⟨rfl, by rw [f10]; decide⟩) (by decide) (by decide) (fun A1 B1 tg t0 => ⟨A1, B1, C2, ?_, rfl, CF_id⟩))
        obtain ⟨_, _, ks⟩ := TG_6 tg t0
        exact t3_no ((TG_f tg 10 (by decide)).trans f10) (fun z => hno ((ks 58 (by omega)).mp z))
    · refine ⟨fun _ => ?_, fun z => absurd hr.2.2 z⟩
      have fl : FL Z A0 B0 C0 E (wr I 4) := by
        refine FL_w hr hp (by decide) (by decide) (GO_rej hg (fun z => by omega) (by decide) (by decide) (fun A1 B1 tg t0 => ⟨lnI A1 T l, B1, C, ?_, ?_, ?_⟩))
        · have tf := TG_f tg
          intro Q' hv hQ
          refine c77_2 ((tf 10 (by decide)).trans h10) (c89_l (tg.2.2.2.2.2.1 t1).1 (TG_nm tg t1 hw) tg.2.2.2.1 tg.2.2.2.2.1 b2.2 (by omega) (by rw [TG_o tg 3 (by decide)]; exact h35) hT (by rw [TG_o tg 6 (by decide)]; exact h6T) hl h8 (fun z => absurd ?_ ev) (fun _ => hQ)) hv
          rw [(tg.2.2.2.2.2.1 t1).2.2, tg.2.2.1 9 (by decide)] at z
          exact ecf.mp z
        · unfold lnI
          rw [u_I_ne (by decide), u_I_eq, upd_ne (by decide)]
        · refine ⟨fun k hk => ?_, fun _ _ => rfl, fun _ _ => rfl⟩
          unfold lnI
          rw [u_I_ne (by omega), u_I_ne (by omega)]
      show am_ww 203 19 [.ref 99, .int (nI l)] [] E (wr I 4) J S Q
      apply g203_19
      rw [nI_clamp (by omega)]
      refine ⟨vp_in_nI hl (by omega), fun z => absurd z (FL_ne fl), fun _ => ?_⟩
      refine m206_f (FL_ne (FL_u (FL_u fl (by decide)) (by decide))) (q_mkV ?_)
      exact hb _ (FL_u (FL_u fl (by decide)) (by decide)) (LGI_tr (LGI_x RFX_w) (LGI_tr (LGI_n (k := 112) (by decide)) (LGI_n (I := u_I (wr I 4) 112 (upd (wr I 4 112) l (wr I 4 99 20))) (k := 113) (by decide))))
  · refine FL_w hr hp (by decide) (by decide) (GO_rej hg (fun z => by omega) (by decide) (by decide) (fun A1 B1 tg t0 => ⟨A1, B1, C, ?_, rfl, CF_id⟩))
    obtain ⟨w, w6, hw6⟩ := no_ins (fun q => hw ⟨t1, q⟩) hni
    exact t2_bad ((TG_f tg 10 (by decide)).trans h10) (Or.inr ⟨w, w6, TG_w tg t1 (by omega) hw6⟩)
  · refine FL_w hr hp (by decide) (by decide) (GO_rej hg (fun z => by omega) (by decide) (by decide) (fun A1 B1 tg t0 => ⟨A1, B1, C, ?_, rfl, CF_id⟩))
    exact t2_full ((TG_f tg 10 (by decide)).trans h10) (tg.2.2.2.2.2.1 t1).1 (Or.inl (TG_nm tg t1 hw)) tg.2.2.2.1 tg.2.2.2.2.1 b2.2 (by omega) (by rw [TG_o tg 3 (by decide)]; exact h35) hT (by rw [TG_o tg 6 (by decide)]; exact h6T) (by omega) (Or.inl h8)
theorem m201_35f {x1 x2 : Int32} {d3 d4 : Value} (hd3 : am_isL d3 = false) (hd4 : am_isL d4 = false) (hb : ¬ I 99 22 = 0) (h : Q (.inl none) E I J S) : am_ww 201 35 [.ref 99, .int x1, .int x2, d3, d4] [] E I J S Q := by
  apply g201_35 hd3 hd4
  exact ⟨fun z => absurd z hb, fun _ => h⟩
theorem m201_72f {x1 x2 x3 : Int32} {d4 : Value} (hd4 : am_isL d4 = false) (hb : ¬ I 99 22 = 0) (h : Q (.inl none) E I J S) : am_ww 201 72 [.ref 99, .int x1, .int x2, .int x3, d4] [] E I J S Q := by
  apply g201_72 hd4
  exact ⟨fun z => absurd z hb, fun _ => h⟩
theorem m201 {T l : Nat} (hg : GO Z A0 B0 C0 c n E p A B C) (hr : RG c n p I) (hS : SW S) (h10 : A 1 10 = nI 2) (h0 : DP c n T l I A B)
    (hy : ∀ p' I' A' B' C', l < 16 → GO Z A0 B0 C0 c n E p' A' B' C' → RG c n p' I' → A' 1 10 = nI 5 → DP c n T (l + 1) I' A' B' → A' 1 16 = A 1 16 → LGI (16 * T + l) l I I' → Q (.inl none) E I' J S)
    (hb : ∀ I', FL Z A0 B0 C0 E I' → LGI (16 * T + l) l I I' → Q (.inl none) E I' J S) : am_cl 201 [.ref 99, .int (nI T), .int (nI l)] E I J S Q := by
  have hp := hg.2.2.2.2
  have hn := hr.1.1
  have b2 := te_n (c := c) hp
  have b3 := tk_5 (c := c) (n := n) (p := p)
  have e22 := hr.2.2
  have e18 : I 99 18 = nI 1 ↔ tkd c n p = 1 := by rw [hr.2.1.2.2.2.1, nI_eq (by omega) (by omega)]
  obtain ⟨⟨hT, hl16⟩, _, _, h35, h6T, hln, _, hz⟩ := h0
  have rej1 : (tkd c n p = 1 → ∃ w, w < 6 ∧ isw c (tb c n p) (te c n p) w) → am_ww 201 35 [.ref 99, .int (nI T), .int (nI l), am_U, am_U] [] E (wr I 1) J S Q := by
    intro hh
    refine m201_35f rfl rfl (wr_22 (by decide) (by decide)) (hb _ ?_ (LGI_x RFX_w))
    refine FL_w hr hp (by decide) (by decide) (GO_rej hg (fun z => ⟨rfl, by rw [h10]; decide⟩) (by decide) (by decide) (fun A1 B1 tg t0 => ⟨A1, B1, C, t2_bad ((TG_f tg 10 (by decide)).trans h10) ?_, rfl, CF_id⟩))
    by_cases t1 : tkd c n p = 1
    · obtain ⟨w, w6, hw⟩ := hh t1
      exact Or.inr ⟨w, w6, TG_w tg t1 (by omega) hw⟩
    · exact Or.inl (fun z => t1 ((TG_6 tg t0).1.mp z))
  have rej2 : tkd c n p = 1 → l = 16 → (nwd c n p ∨ ∃ k, k < 13 ∧ isw c (tb c n p) (te c n p) (6 + k)) → am_ww 201 19 [.ref 99, .int (nI T), .int (nI l), am_U, am_U] [] E I J S Q := by
    intro t1 el hh
    apply g201_19 rfl rfl
    refine ⟨fun _ => m201_35f rfl rfl (wr_22 (k := 2) (by decide) (by decide)) (hb _ ?_ (LGI_x RFX_w)), fun z => absurd e22 z⟩
    refine FL_w hr hp (by decide) (by decide) (GO_rej hg (fun z => by omega) (by decide) (by decide) (fun A1 B1 tg t0 => ⟨A1, B1, C, t2_full ((TG_f tg 10 (by decide)).trans h10) (tg.2.2.2.2.2.1 t1).1 ?_ tg.2.2.2.1 tg.2.2.2.2.1 b2.2 (by omega) (by rw [TG_o tg 3 (by decide)]; exact h35) hT (by rw [TG_o tg 6 (by decide)]; exact h6T) hl16 (Or.inr el), rfl, CF_id⟩))
    rcases hh with hw | ⟨k, k1, k2⟩
    · exact Or.inl (TG_nm tg t1 hw)
    · exact Or.inr ⟨6 + k, by omega, by omega, TG_w tg t1 (by omega) k2⟩
  show am_ww 201 0 [.ref 99, .int (nI T), .int (nI l), am_U, am_U] [] E I J S Q
  apply g201_0
  rw [nI_eq (a := l) (b := 16) (by omega) (by omega)]
  refine ⟨fun _ => ⟨fun t1 => ⟨fun el => ?_, fun nl => ⟨fun _ => ⟨fun _ => ⟨fun el => absurd el nl, fun _ => ?_⟩, fun z => absurd t1 z⟩, fun z => absurd e22 z⟩⟩, fun t1 => ⟨fun _ => ⟨fun z => absurd z t1, fun _ => ⟨fun _ => rej1 (fun z => absurd (e18.mpr z) t1), fun z => absurd e22 z⟩⟩, fun z => absurd e22 z⟩⟩, fun z => absurd e22 z⟩
  · refine m202 hS hr.1 hr.2.1.1 hr.2.1.2.2.1 b2.2 b2.1 (fun hk => q_mkI ⟨fun z => absurd z (by decide), fun _ => ?_⟩) (fun hk => q_mkI ⟨fun _ => rej2 (e18.mp t1) el (Or.inl (fun k k1 k2 => hk k k1 ⟨e22, t1, k2⟩)), fun z => absurd rfl z⟩)
    refine m195n hr hp hS (fun k k1 _ k2 => q_mkI ⟨fun z => absurd z (nI_nm (by omega)), fun _ => rej2 (e18.mp t1) el (Or.inr ⟨k, k1, k2⟩)⟩) (fun hno => q_mkI ⟨fun _ => ⟨fun _ => ⟨fun _ => ⟨fun _ => ⟨fun _ => rej1 (fun t => ?_), fun z => absurd e22 z⟩, fun z => absurd el z⟩, fun z => absurd t1 z⟩, fun z => absurd e22 z⟩, fun z => absurd rfl z⟩)
    obtain ⟨k, k1, k2⟩ := hk
    exact no_ins (fun q => q k k1 k2.2.2) (fun q => hno ⟨t, q⟩)
  · have hl : l < 16 := by omega
    have t1 := e18.mp t1
    apply g201_35 rfl rfl
    rw [nI_clamp (by omega)]
    refine ⟨fun _ => ⟨vp_in_nI hl (by omega), ?_⟩, fun z => absurd e22 z⟩
    have hr1 : RG c n p (u_I (u_I I 113 (upd (I 113) l (nI 0))) 115 (upd (I 115) l (nI 0))) := RG_u (RG_u hr (by decide) (by decide)) (by decide) (by decide)
    have x1 : LGI (16 * T + l) l I (u_I (u_I I 113 (upd (I 113) l (nI 0))) 115 (upd (I 115) l (nI 0))) := LGI_tr (LGI_n (k := 113) (by decide)) (LGI_n (I := u_I I 113 (upd (I 113) l (nI 0))) (k := 115) (by decide))
    have e115 : u_I (u_I I 113 (upd (I 113) l (nI 0))) 115 (upd (I 115) l (nI 0)) 115 l = nI 0 := by rw [u_I_eq, upd_eq]
    have e113 : u_I (u_I I 113 (upd (I 113) l (nI 0))) 115 (upd (I 115) l (nI 0)) 113 l = nI 0 := by rw [u_I_ne (by decide), u_I_eq, upd_eq]
    have e115' : u_I I 113 (upd (I 113) l (nI 0)) 115 = I 115 := u_I_ne (by decide)
    generalize hgen : u_I (u_I I 113 (upd (I 113) l (nI 0))) 115 (upd (I 115) l (nI 0)) = I1 at *
    have e22' := hr1.2.2
    refine m195n hr1 hp hS (fun k k1 _ k2 => q_mkI ⟨fun z => absurd z (nI_nm (by omega)), fun _ => ?_⟩) (fun hno => q_mkI ⟨fun _ => ?_, fun z => absurd rfl z⟩)
    · refine m195n hr1 hp hS (fun k k1 _ k2 => q_mkI ⟨fun _ => ⟨fun z => absurd z (nI_nm (by omega)), fun _ => ?_⟩, fun z => absurd e22' z⟩) (fun hno => absurd ⟨t1, k, k1, k2⟩ hno)
      obtain ⟨A2, B2, C2, g2, f10, f12, f13, f14, f16, fo, f4, f6, fB, fC⟩ := GO_acc (X := fun A2 B2 C2 => A2 1 10 = (if k = 12 then nI 5 else nI 1) ∧ A2 1 12 = nI 0 ∧ A2 1 13 = 0 ∧ A2 1 14 = nI (16 * T + l) ∧ A2 1 16 = A 1 16 ∧ (∀ j, j ≠ 1 → j ≠ 4 → j ≠ 6 → A2 j = A j) ∧ A2 4 = upd (A 4) (16 * T + l) (nI (k + 6)) ∧ A2 6 = upd (A 6) T (nI (l + 1)) ∧ (∀ j, j ≠ 1 → B2 j = B j) ∧ C2 1 11 = some (shp (k + 6))) hg (by omega) (fun A1 B1 tg => by
        have tf := TG_f tg
        have e18 : A1 1 8 = nI (k + 6) := by rw [TG_w tg t1 (by omega) k2, Nat.add_comm]
        refine ⟨xpI (u_I (lnI A1 T l) 4 (upd (A1 4) (16 * T + l) (nI (k + 6)))) (shp (k + 6)), B1, xpS C (shp (k + 6)), ?_, ?_, ?_, ?_, xpI_1.1, xpI_1.2.1, ?_, ?_, fun j j1 j4 j6 => ?_, ?_, ?_, tg.2.2.1, xpS_1⟩
        · exact t2_ins ((tf 10 (by decide)).trans h10) (tg.2.2.2.2.2.1 t1).1 e18 (by omega) (by omega) tg.2.2.2.1 tg.2.2.2.2.1 b2.2 (by omega) (by rw [TG_o tg 3 (by decide)]; exact h35) hT (by rw [TG_o tg 6 (by decide)]; exact h6T) hl (isw_8 (by omega) k2)
        · rw [xpI_1.2.2.2 5 (by decide) (by decide) (by decide)]
          unfold lnI
          rw [u_I_ne (by decide), u_I_ne (by decide), u_I_eq, upd_ne (by decide)]
        · refine ⟨fun j hj => ?_, fun _ _ => rfl, fun j hj => xpS_o hj⟩
          rw [xpI_o (by omega)]
          unfold lnI
          rw [u_I_ne (by omega), u_I_ne (by omega), u_I_ne (by omega)]
        · rw [xpI_1.2.2.1]
          have := shp_0 k k1
          by_cases e : k = 12
          · rw [if_pos e, if_pos (this.mpr e)]
          · rw [if_neg e, if_neg (fun z => e (this.mp z))]
        · rw [xpI_1.2.2.2 14 (by decide) (by decide) (by decide)]
          unfold lnI
          rw [u_I_ne (by decide), u_I_ne (by decide), u_I_eq, upd_eq]
        · rw [xpI_1.2.2.2 16 (by decide) (by decide) (by decide)]
          unfold lnI
          rw [u_I_ne (by decide), u_I_ne (by decide), u_I_eq, upd_ne (by decide)]
          exact tf 16 (by decide)
        · rw [xpI_o j1]
          unfold lnI
          rw [u_I_ne j4, u_I_ne j6, u_I_ne j1]
          exact TG_o tg j j1
        · rw [xpI_o (by decide), u_I_eq, TG_o tg 4 (by decide)]
        · rw [xpI_o (by decide)]
          unfold lnI
          rw [u_I_ne (by decide), u_I_eq, TG_o tg 6 (by decide)])
      refine m201_72 (AA := A) (BB := B) (I0 := I) rfl k1 hp g2 hr1 hS ⟨⟨hT, hl16⟩, ‹_›, ‹_›, h35, h6T, hln, ‹_›, hz⟩ hl x1 ⟨fun j j1 j4 j5 j6 j11 => fo j j1 j4 j6, fun j hj => ⟨by rw [f4, upd_ne hj], by rw [fo 11 (by decide) (by decide) (by decide)]⟩, fun j _ => by rw [fo 5 (by decide) (by decide) (by decide)], fun j hj => by rw [f6, upd_ne hj], f16, fun j _ => ⟨by rw [fB 9 (by decide)], by rw [fB 10 (by decide)]⟩⟩ (by rw [f6, upd_eq]) (by rw [f4, upd_eq]) f10 fC f12 f13 f14 e115 ?_ ?_ (fun p' I' A' B' g r a b d e => hy p' I' A' B' C2 hl g r a b d e) hb
      · rw [fB 10 (by decide)]; exact (hz _ (by omega) (by omega)).2
      · rw [fB 9 (by decide)]; exact Or.inl ⟨e113, (hz _ (by omega) (by omega)).1⟩
    · refine m203 (I0 := I) hg hr1 hS h10 t1 (fun q => hno ⟨t1, q⟩) ⟨⟨hT, hl16⟩, ‹_›, ‹_›, h35, h6T, hln, ‹_›, hz⟩ hl x1 (fun p3 I3 A3 B3 g3 r3 x3 e3 lb3 f10 f14 f16 fo f6 f9 fB => q_mkV ?_) (fun I3 f3 x3 => q_mkV ?_)
      · have hp3 := g3.2.2.2.2
        refine m195n r3 hp3 hS (fun k k1 t1' k2 => q_mkI ⟨fun _ => ⟨fun z => absurd z (nI_nm (by omega)), fun _ => ?_⟩, fun z => absurd r3.2.2 z⟩) (fun hno' => q_mkI ⟨fun _ => ⟨fun _ => ⟨fun _ => ?_, fun z => absurd r3.2.2 z⟩, fun z => absurd rfl z⟩, fun z => absurd r3.2.2 z⟩)
        · obtain ⟨A2, B2, C2, g2, y10, y12, y13, y14, y16, yo, y4, yB, yC⟩ := GO_acc (X := fun A2 B2 C2 => A2 1 10 = (if k = 12 then nI 5 else nI 1) ∧ A2 1 12 = nI 0 ∧ A2 1 13 = 0 ∧ A2 1 14 = nI (16 * T + l) ∧ A2 1 16 = A3 1 16 ∧ (∀ j, j ≠ 1 → j ≠ 4 → A2 j = A3 j) ∧ A2 4 = upd (A3 4) (16 * T + l) (nI (k + 6)) ∧ (∀ j, j ≠ 1 → B2 j = B3 j) ∧ C2 1 11 = some (shp (k + 6))) g3 (by omega) (fun A1 B1 tg => by
            have tf := TG_f tg
            have e18 : A1 1 8 = nI (k + 6) := by rw [TG_w tg t1' (by omega) k2, Nat.add_comm]
            refine ⟨xpI (u_I A1 4 (upd (A1 4) (16 * T + l) (nI (k + 6)))) (shp (k + 6)), B1, xpS C (shp (k + 6)), ?_, ?_, ?_, ?_, xpI_1.1, xpI_1.2.1, ?_, ?_, fun j j1 j4 => ?_, ?_, tg.2.2.1, xpS_1⟩
            · exact t4_ok ((tf 10 (by decide)).trans f10) (tg.2.2.2.2.2.1 t1').1 e18 (by omega) (by omega) ((tf 14 (by decide)).trans f14) (by omega)
            · rw [xpI_1.2.2.2 5 (by decide) (by decide) (by decide), u_I_ne (by decide)]
            · exact ⟨fun j hj => by rw [xpI_o (by omega), u_I_ne (by omega)], fun _ _ => rfl, fun j hj => xpS_o hj⟩
            · rw [xpI_1.2.2.1]
              have := shp_0 k k1
              by_cases e : k = 12
              · rw [if_pos e, if_pos (this.mpr e)]
              · rw [if_neg e, if_neg (fun z => e (this.mp z))]
            · rw [xpI_1.2.2.2 14 (by decide) (by decide) (by decide), u_I_ne (by decide)]
              exact (tf 14 (by decide)).trans f14
            · rw [xpI_1.2.2.2 16 (by decide) (by decide) (by decide), u_I_ne (by decide)]
              exact tf 16 (by decide)
            · rw [xpI_o j1, u_I_ne j4]; exact TG_o tg j j1
            · rw [xpI_o (by decide), u_I_eq, TG_o tg 4 (by decide)])
          refine m201_72 (AA := A) (BB := B) (I0 := I) rfl k1 hp3 g2 r3 hS ⟨⟨hT, hl16⟩, ‹_›, ‹_›, h35, h6T, hln, ‹_›, hz⟩ hl (LGI_tr x1 x3) ⟨fun j j1 j4 j5 j6 j11 => (yo j j1 j4).trans (fo j j1 j6), fun j hj => ⟨by rw [y4, upd_ne hj, fo 4 (by decide) (by decide)], by rw [yo 11 (by decide) (by decide), fo 11 (by decide) (by decide)]⟩, fun j _ => by rw [yo 5 (by decide) (by decide), fo 5 (by decide) (by decide)], fun j hj => by rw [yo 6 (by decide) (by decide), f6, upd_ne hj], y16.trans f16, fun j hj => ⟨by rw [yB 9 (by decide)]; exact f9 j hj, by rw [yB 10 (by decide), fB]⟩⟩ (by rw [yo 6 (by decide) (by decide), f6, upd_eq]) (by rw [y4, upd_eq]) y10 yC y12 y13 y14 (by rw [e3]; exact e115) ?_ ?_ (fun p' I' A' B' g r a b d e => hy p' I' A' B' C2 hl g r a b d e) hb
          · rw [yB 10 (by decide), fB]; exact (hz _ (by omega) (by omega)).2
          · rw [yB 9 (by decide)]; exact lb3
        · refine m201_72f rfl (wr_22 (k := 1) (by decide) (by decide)) (hb _ ?_ (LGI_tr x1 (LGI_tr x3 (LGI_x RFX_w))))
          refine FL_w r3 hp3 (by decide) (by decide) (GO_rej g3 (fun z => ⟨rfl, by rw [f10]; decide⟩) (by decide) (by decide) (fun A1 B1 tg t0 => ⟨A1, B1, C, t4_no ((TG_f tg 10 (by decide)).trans f10) (fun z => ?_), rfl, CF_id⟩))
          have t1' := (TG_6 tg t0).1.mp z.1
          have z2 := z.2
          obtain ⟨_, w, _⟩ := tg.2.2.2.2.2.1 t1'
          rcases w with ⟨k, k1, k2, e⟩ | ⟨w, e⟩
          · rw [e, nI_leI (by omega) (by omega)] at z2
            refine hno' ⟨t1', k - 6, by omega, ?_⟩
            rw [show 6 + (k - 6) = k from by omega]
            exact k2
          · rw [e] at z2
            exact absurd z2 (by decide)
      · refine m195_f hS (FL_ne f3) (q_mkI ⟨fun z => absurd z (FL_ne f3), fun _ => m201_72f rfl (FL_ne f3) (hb I3 f3 (LGI_tr x1 x3))⟩)
end
