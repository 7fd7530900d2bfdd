/-! an instruction's operands: both sides -/
def LFI (r l : Nat) (I I' : Nat → Nat → Int32) : Prop := (∀ k, k ≠ 99 → k ≠ 107 → k ≠ 108 → k ≠ 114 → k ≠ 115 → I' k = I k) ∧ (∀ j, j ≠ 64 + r → I' 107 j = I 107 j ∧ I' 108 j = I 108 j) ∧ (∀ j, j ≠ l → I' 114 j = I 114 j ∧ I' 115 j = I 115 j) ∧ (∀ k, k ≠ 16 → k ≠ 18 → k ≠ 19 → k ≠ 20 → k ≠ 21 → k ≠ 22 → k ≠ 23 → I' 99 k = I 99 k)
theorem LFI_tr {r l : Nat} {I I' I'' : Nat → Nat → Int32} (h : LFI r l I I') (h' : LFI r l I' I'') : LFI r l I I'' := by
  obtain ⟨a1, a2, a3, a4⟩ := h
  obtain ⟨b1, b2, b3, b4⟩ := h'
  exact ⟨fun k x1 x2 x3 x4 x5 => (b1 k x1 x2 x3 x4 x5).trans (a1 k x1 x2 x3 x4 x5), fun j hj => ⟨(b2 j hj).1.trans (a2 j hj).1, (b2 j hj).2.trans (a2 j hj).2⟩, fun j hj => ⟨(b3 j hj).1.trans (a3 j hj).1, (b3 j hj).2.trans (a3 j hj).2⟩, fun k x1 x2 x3 x4 x5 x6 x7 => (b4 k x1 x2 x3 x4 x5 x6 x7).trans (a4 k x1 x2 x3 x4 x5 x6 x7)⟩
theorem LFI_id {r l : Nat} {I : Nat → Nat → Int32} : LFI r l I I := ⟨fun _ _ _ _ _ _ => rfl, fun _ _ => ⟨rfl, rfl⟩, fun _ _ => ⟨rfl, rfl⟩, fun _ _ _ _ _ _ _ _ => rfl⟩
theorem LFI_x {r l : Nat} {I I' : Nat → Nat → Int32} (h : RFX I I') : LFI r l I I' := ⟨fun k hk _ _ _ _ => RFX_o h hk, fun j _ => by rw [RFX_o h (by decide), RFX_o h (by decide)]; exact ⟨rfl, rfl⟩, fun j _ => by rw [RFX_o h (by decide), RFX_o h (by decide)]; exact ⟨rfl, rfl⟩, h.2⟩
theorem LFI_7 {r l : Nat} {I : Nat → Nat → Int32} {x : Int32} : LFI r l I (u_I I 107 (upd (I 107) (64 + r) x)) := ⟨fun k _ h _ _ _ => u_I_ne h, fun j hj => ⟨by rw [u_I_eq, upd_ne hj], by rw [u_I_ne (by decide)]⟩, fun j _ => ⟨by rw [u_I_ne (by decide)], by rw [u_I_ne (by decide)]⟩, fun k _ _ _ _ _ _ _ => by rw [u_I_ne (by decide)]⟩
theorem LFI_8 {r l : Nat} {I : Nat → Nat → Int32} {x : Int32} : LFI r l I (u_I I 108 (upd (I 108) (64 + r) x)) := ⟨fun k _ _ h _ _ => u_I_ne h, fun j hj => ⟨by rw [u_I_ne (by decide)], by rw [u_I_eq, upd_ne hj]⟩, fun j _ => ⟨by rw [u_I_ne (by decide)], by rw [u_I_ne (by decide)]⟩, fun k _ _ _ _ _ _ _ => by rw [u_I_ne (by decide)]⟩
theorem LFI_w {r l : Nat} {I : Nat → Nat → Int32} {x y : Int32} : LFI r l I (u_I (u_I I 114 (upd (I 114) l x)) 115 (upd (I 115) l y)) := ⟨fun k _ _ _ h1 h2 => by rw [u_I_ne h2, u_I_ne h1], fun j hj => ⟨by rw [u_I_ne (by decide), u_I_ne (by decide)], by rw [u_I_ne (by decide), u_I_ne (by decide)]⟩, fun j hj => ⟨by rw [u_I_ne (by decide), u_I_eq, upd_ne hj], by rw [u_I_eq, upd_ne hj]⟩, fun k _ _ _ _ _ _ _ => by rw [u_I_ne (by decide), u_I_ne (by decide)]⟩
def LFA (r : Nat) (A A' : Nat → Nat → Int32) (B B' : Nat → Nat → Int64) : Prop := (∀ k, k ≠ 1 → k ≠ 5 → k ≠ 11 → A' k = A k) ∧ (∀ j, j < r * 3 ∨ r * 3 + 3 ≤ j → A' 5 j = A 5 j) ∧ (∀ j, j ≠ r → A' 11 j = A 11 j) ∧ (∀ k, k = 14 ∨ k = 15 ∨ k = 16 → A' 1 k = A 1 k) ∧ (∀ k, k ≠ 1 → k ≠ 10 → B' k = B k) ∧ (∀ j, j ≠ r → B' 10 j = B 10 j)
theorem LFA_tr {r : Nat} {A A' A'' : Nat → Nat → Int32} {B B' B'' : Nat → Nat → Int64} (h : LFA r A A' B B') (h' : LFA r A' A'' B' B'') : LFA r A A'' B B'' := by
  obtain ⟨a1, a2, a3, a4, a5, a6⟩ := h
  obtain ⟨b1, b2, b3, b4, b5, b6⟩ := h'
  exact ⟨fun k x y z => (b1 k x y z).trans (a1 k x y z), fun j x => (b2 j x).trans (a2 j x), fun j x => (b3 j x).trans (a3 j x), fun k x => (b4 k x).trans (a4 k x), fun k x y => (b5 k x y).trans (a5 k x y), fun j x => (b6 j x).trans (a6 j x)⟩
theorem LFA_o {q s d sj r : Nat} {x : Int32} {A A' : Nat → Nat → Int32} {B B' : Nat → Nat → Int64} (h : OPX A A' B B' q s d sj r x) (hd : d ≠ 119 ∧ d ≠ 110) (hs : s < 3) : LFA r A A' B B' ∧ A' 5 (r * 3 + s) = x ∧ (∀ j, j ≠ r * 3 + s → A' 5 j = A 5 j) ∧ B' 10 = B 10 := by
  obtain ⟨o1, o2, o3, o4, o5⟩ := h
  unfold opw at o1
  rw [if_neg hd.1, if_neg hd.2] at o1
  have e5 := o1 5 (by decide)
  rw [u_I_eq] at e5
  refine ⟨⟨fun k h1 h5 _ => by rw [o1 k h1, u_I_ne h5], fun j hj => by rw [e5, upd_ne (by omega)], fun j _ => by rw [o1 11 (by decide), u_I_ne (by decide)], o4, fun k h1 _ => o5 k h1, fun j _ => by rw [o5 10 (by decide)]⟩, by rw [e5, upd_eq], fun j hj => by rw [e5, upd_ne hj], o5 10 (by decide)⟩
theorem LFA_n {q s r : Nat} {c : Nat → Nat} {n p : Nat} {A A' : Nat → Nat → Int32} {B B' : Nat → Nat → Int64} (h : NMX c n p A A' B B' q s r) : LFA r A A' B B' ∧ A' 11 r = nI (tb c n p) ∧ B' 10 r = nmv c (tb c n p) (te c n p - tb c n p) ∧ A' 5 = A 5 := by
  obtain ⟨o1, o2, o3, o4, o5⟩ := h
  refine ⟨⟨fun k h1 _ h11 => by rw [o1 k h1, u_I_ne h11], fun j _ => by rw [o1 5 (by decide), u_I_ne (by decide)], fun j hj => by rw [o1 11 (by decide), u_I_eq, upd_ne hj], o3, o4, fun j hj => by rw [o5, uL_ne hj]⟩, by rw [o1 11 (by decide), u_I_eq, upd_eq], by rw [o5, uL_eq], by rw [o1 5 (by decide), u_I_ne (by decide)]⟩
/-- a name that is wanted -/
def WN (c : Nat → Nat) (n r l : Nat) (I A : Nat → Nat → Int32) (B : Nat → Nat → Int64) : Prop := ∃ b k, 1 ≤ k ∧ k ≤ 8 ∧ b + k ≤ n ∧ I 114 l = nI b ∧ I 115 l = nI k ∧ A 11 r = nI b ∧ B 10 r = nmv c b k ∧ ∀ j, j < k → isL c (b + j) = true
/-- the operands, on both sides -/
def OPN (o r : Nat) (I A : Nat → Nat → Int32) : Prop := (o = 2 → vp_in (I 107 (64 + r)) 16) ∧ (o ≠ 2 → o ≠ 9 → o < 12 → vp_in (I 107 (64 + r)) 4) ∧ (o = 1 → vp_in (I 108 (64 + r)) 16) ∧ (o = 2 ∨ o = 3 ∨ o = 4 ∨ o = 5 ∨ o = 11 → vp_in (I 108 (64 + r)) 4) ∧ (o = 6 → vp_in (I 108 (64 + r)) 3) ∧ (o ≠ 9 → o < 12 → A 5 (r * 3 + 0) = I 107 (64 + r)) ∧ (o < 7 ∨ o = 11 → A 5 (r * 3 + 1) = I 108 (64 + r))
def OPQ (c : Nat → Nat) (n o r l : Nat) (I A : Nat → Nat → Int32) (B : Nat → Nat → Int64) : Prop := OPN o r I A ∧ (o = 9 ∨ o = 10 ∨ o = 11 → WN c n r l I A B) ∧ (o ≠ 9 → o ≠ 10 → o ≠ 11 → I 115 l = nI 0 ∧ B 10 r = lN 0)
theorem fit_r (d : Nat) (hi : Nat) (h : d = 114 ∧ hi = 3 ∨ d = 99 ∧ hi = 15 ∨ d = 115 ∧ hi = 2 ∨ d = 108 ∧ hi = 3) : ∀ v, v ≤ 9999 → (fit d 0 v ↔ 0 ≤ v ∧ v ≤ hi) := by
  intro v hv
  unfold fit
  omega
section
variable {Z : am_Qt → Prop} {A0 : Nat → Nat → Int32} {B0 : Nat → Nat → Int64} {C0 : Nat → Nat → Option Nat} {c : Nat → Nat} {n : Nat} {E : am_Ev} {p : Nat} {A : Nat → Nat → Int32} {B : Nat → Nat → Int64} {C : Nat → Nat → Option Nat} {I : Nat → Nat → Int32} {J : Nat → Nat → Int64} {S : Nat → Nat → Option Nat} {Q : am_Qt}
/-- one number among an instruction's operands -/
theorem op_n {q s d r l hi : Nat} (hg : GO Z A0 B0 C0 c n E p A B C) (hr : RG c n p I) (h10 : A 1 10 = nI 1) (hC : C 1 11 = some q) (hq : q < 55) (h12 : A 1 12 = nI s) (hs : s < 3) (ed : due q s = d) (hd : d = 114 ∧ hi = 3 ∨ d = 99 ∧ hi = 15 ∨ d = 115 ∧ hi = 2 ∨ d = 108 ∧ hi = 3) (h13 : A 1 13 = 0) (h14 : A 1 14 = nI r) (hr6 : r < 64)
    (hy : ∀ v I' A' B', v ≤ hi → GO Z A0 B0 C0 c n E (te c n p) A' B' C → RG c n (te c n p) I' → RFX I I' → A' 1 13 = 0 → A' 1 12 = nI (s + 1) → A' 1 10 = (if s + 1 < am_slen.getD q 0 then nI 1 else nI 5) → LFA r A A' B B' → A' 5 (r * 3 + s) = nI v → (∀ j, j ≠ r * 3 + s → A' 5 j = A 5 j) → B' 10 = B 10 → Q (.inl (some (.int (nI v)))) E I' J S)
    (hb : ∀ I', FL Z A0 B0 C0 E I' → RFX I I' → Q (.inl (some (.int (nI 0)))) E I' J S) : am_cl 198 [.ref 99, .int (nI 0), .int (nI hi)] E I J S Q := by
  refine m198s (sj := 0) (r := r) hg hr h10 hC hq h12 (by omega) ed (by omega) (by decide) (by omega) (fit_r d hi hd) (fun z => by omega) (fun z => by omega) (fun _ _ => ⟨h14, hr6, hs⟩) (fun v I' A' B' _ v2 _ g1 r1 x1 e13 ox => ?_) hb
  rw [h13, if_pos rfl] at ox
  obtain ⟨l1, l2, l3, l4⟩ := LFA_o ox (by omega) hs
  exact hy v I' A' B' v2 g1 r1 x1 (e13.trans h13) ox.2.1 ox.2.2.1 l1 l2 l3 l4
theorem sh_q : ∀ o, o < 13 → shp (o + 6) < 55 := by decide +kernel
theorem du_all : due 5 0 = 114 ∧ due 5 1 = 118 ∧ due 6 0 = 114 ∧ due 6 1 = 99 ∧ due 7 0 = 99 ∧ due 7 1 = 114 ∧ due 8 0 = 114 ∧ due 8 1 = 114 ∧ due 9 0 = 114 ∧ due 9 1 = 115 ∧ due 10 0 = 108 ∧ due 11 0 = 78 ∧ due 12 0 = 114 ∧ due 12 1 = 78 ∧ due 13 0 = 114 ∧ due 13 1 = 114 ∧ due 13 2 = 78 := by decide +kernel
theorem sl_all : am_slen.getD 5 0 = 2 ∧ am_slen.getD 6 0 = 2 ∧ am_slen.getD 7 0 = 2 ∧ am_slen.getD 8 0 = 2 ∧ am_slen.getD 9 0 = 2 ∧ am_slen.getD 10 0 = 1 ∧ am_slen.getD 11 0 = 1 ∧ am_slen.getD 12 0 = 2 ∧ am_slen.getD 13 0 = 3 := by decide +kernel
/-- two numbers -/
theorem op_nn {q d1 d2 r l hi1 hi2 : Nat} (hg : GO Z A0 B0 C0 c n E p A B C) (hr : RG c n p I) (h10 : A 1 10 = nI 1) (hC : C 1 11 = some q) (hq : q < 55) (sl : am_slen.getD q 0 = 2) (h12 : A 1 12 = nI 0) (ed1 : due q 0 = d1) (ed2 : due q 1 = d2) (hd1 : d1 = 114 ∧ hi1 = 3 ∨ d1 = 99 ∧ hi1 = 15 ∨ d1 = 115 ∧ hi1 = 2 ∨ d1 = 108 ∧ hi1 = 3) (hd2 : d2 = 114 ∧ hi2 = 3 ∨ d2 = 99 ∧ hi2 = 15 ∨ d2 = 115 ∧ hi2 = 2 ∨ d2 = 108 ∧ hi2 = 3) (h13 : A 1 13 = 0) (h14 : A 1 14 = nI r) (hr6 : r < 64)
    (hy : ∀ v1 v2 p' I' A' B', v1 ≤ hi1 → v2 ≤ hi2 → GO Z A0 B0 C0 c n E p' A' B' C → RG c n p' I' → LFI r l I I' → I' 115 = I 115 → I' 107 (64 + r) = nI v1 → I' 108 (64 + r) = nI v2 → A' 1 10 = nI 5 → LFA r A A' B B' → A' 5 (r * 3 + 0) = nI v1 → A' 5 (r * 3 + 1) = nI v2 → B' 10 = B 10 → Q (.inl none) E I' J S)
    (hb : ∀ I', FL Z A0 B0 C0 E I' → LFI r l I I' → Q (.inl none) E I' J S) :
    am_cl 198 [.ref 99, .int (nI 0), .int (nI hi1)] E I J S (q_I fun v16 E16 I16 J16 S16 => vp_in (nI (64 + r)) 128 ∧ (am_cl 198 [.ref 99, .int (nI 0), .int (nI hi2)] E16 (u_I I16 107 (upd (I16 107) (64 + r) v16)) J16 S16 (q_I fun v18 E18 I18 J18 S18 => Q (.inl none) E18 (u_I I18 108 (upd (I18 108) (64 + r) v18)) J18 S18))) := by
  refine op_n (l := l) hg hr h10 hC hq h12 (by decide) ed1 hd1 h13 h14 hr6 (fun v I1 A1 B1 v3 g1 r1 x1 y13 y12 y10 l1 l2 l3 l4 => q_mkI ⟨vp_in_nI (by omega) (by omega), ?_⟩) (fun I1 f1 x1 => q_mkI ⟨vp_in_nI (by omega) (by omega), ?_⟩)
  · rw [sl, if_pos (by decide)] at y10
    refine op_n (l := l) g1 (RG_u r1 (by decide) (by decide)) y10 hC hq y12 (by decide) ed2 hd2 y13 ((l1.2.2.2.1 14 (by omega)).trans h14) hr6 (fun w I2 A2 B2 w3 g2 r2 x2 z13 z12 z10 k1 k2 k3 k4 => q_mkI ?_) (fun I2 f2 x2 => q_mkI ?_)
    · rw [sl, if_neg (by decide)] at z10
      refine hy v w _ _ A2 B2 v3 w3 g2 (RG_u r2 (by decide) (by decide)) (LFI_tr (LFI_x x1) (LFI_tr LFI_7 (LFI_tr (LFI_x x2) LFI_8))) ?_ ?_ ?_ z10 (LFA_tr l1 k1) ?_ k2 (k4.trans l4)
      · rw [u_I_ne (by decide), RFX_o x2 (by decide), u_I_ne (by decide), RFX_o x1 (by decide)]
      · rw [u_I_ne (by decide), RFX_o x2 (by decide), u_I_eq, upd_eq]
      · rw [u_I_eq, upd_eq]
      · rw [k3 _ (by omega)]; exact l2
    · exact hb _ (FL_u f2 (by decide)) (LFI_tr (LFI_x x1) (LFI_tr LFI_7 (LFI_tr (LFI_x x2) LFI_8)))
  · refine m198_f (FL_ne (FL_u f1 (by decide))) (q_mkI ?_)
    exact hb _ (FL_u (FL_u f1 (by decide)) (by decide)) (LFI_tr (LFI_x x1) (LFI_tr LFI_7 LFI_8))
/-- a target, as the line's last -/
theorem op_t {q s r l : Nat} (hg : GO Z A0 B0 C0 c n E p A B C) (hr : RG c n p I) (hS : SW S) (h10 : A 1 10 = nI 1) (hC : C 1 11 = some q) (hq : q < 55) (h12 : A 1 12 = nI s) (hs : s < 3) (ed : due q s = 78) (sl : am_slen.getD q 0 = s + 1) (h14 : A 1 14 = nI r) (hr6 : r < 64) (hl : l < 16)
    (hy : ∀ p' I' A' B', GO Z A0 B0 C0 c n E p' A' B' C → RG c n p' I' → LFI r l I I' → (∀ k, k ≠ 99 → k ≠ 114 → k ≠ 115 → I' k = I k) → A' 1 10 = nI 5 → LFA r A A' B B' → A' 5 = A 5 → WN c n r l I' A' B' → Q (.inl none) E I' J S)
    (hb : ∀ I', FL Z A0 B0 C0 E I' → LFI r l I I' → Q (.inl none) E I' J S) : am_cl 212 [.ref 99, .int (nI l)] E I J S Q := by
  have hp := hg.2.2.2.2
  refine m212s (r := r) hg hr hS h10 hC hq h12 (by omega) ed h14 hr6 hl (fun I1 A1 B1 t1 k8 g1 r1 x1 nx => ?_) (fun I1 f1 x1 => hb I1 f1 (LFI_x x1))
  obtain ⟨l1, l2, l3, l4⟩ := LFA_n nx
  obtain ⟨u1, u2⟩ := tk_1 hp t1
  have b2 := te_n (c := c) hp
  have z10 := nx.2.1
  rw [sl, if_neg (by omega)] at z10
  refine hy _ I1 A1 B1 g1 r1 (LFI_tr LFI_w (LFI_x x1)) (fun k a b d => by rw [RFX_o x1 a, u_I_ne d, u_I_ne b]) z10 l1 l4 ⟨tb c n p, te c n p - tb c n p, by omega, k8, by omega, ?_, ?_, l2, l3, fun j hj => u2 _ (by omega) (by omega)⟩
  · rw [RFX_o x1 (by decide), u_I_ne (by decide), u_I_eq, upd_eq]
  · rw [RFX_o x1 (by decide), u_I_eq, upd_eq]
theorem m208 {o r l : Nat} (ho : o < 13) (hg : GO Z A0 B0 C0 c n E p A B C) (hr : RG c n p I) (hS : SW S) (h10 : A 1 10 = (if o = 12 then nI 5 else nI 1)) (hC : C 1 11 = some (shp (o + 6))) (h12 : A 1 12 = nI 0) (h13 : A 1 13 = 0) (h14 : A 1 14 = nI r) (hr6 : r < 64) (hl : l < 16) (hw1 : I 115 l = nI 0) (hw2 : B 10 r = lN 0)
    (hy : ∀ p' I' A' B', GO Z A0 B0 C0 c n E p' A' B' C → RG c n p' I' → LFI r l I I' → A' 1 10 = nI 5 → LFA r A A' B B' → OPQ c n o r l I' A' B' → Q (.inl none) E I' J S)
    (hb : ∀ I', FL Z A0 B0 C0 E I' → LFI r l I I' → Q (.inl none) E I' J S) : am_cl 208 [.ref 99, .int (nI o), .int (nI (64 + r)), .int (nI l)] E I J S Q := by
  show am_ww 208 0 [.ref 99, .int (nI o), .int (nI (64 + r)), .int (nI l)] [] E I J S Q
  obtain ⟨u1, u2, u3, u4, u5, u6, u7, u8, u9, u10, u11, u12, u13, u14, u15, u16, u17⟩ := du_all
  obtain ⟨s5, s6, s7, s8, s9, s10, s11, s12, s13⟩ := sl_all
  have go109 : ∀ (I1 : Nat → Nat → Int32), am_ww 208 109 [.ref 99, .int (nI o), .int (nI (64 + r)), .int (nI l)] [] E I1 J S Q → am_ww 208 109 [.ref 99, .int (nI o), .int (nI (64 + r)), .int (nI l)] [] E I1 J S Q := fun _ h => h
  apply g208_0
  rw [nI_clamp (show 64 + r < 2 ^ 31 by omega)]
  have hcs : o = 0 ∨ o = 1 ∨ o = 2 ∨ (o = 3 ∨ o = 4 ∨ o = 5) ∨ o = 6 ∨ (o = 7 ∨ o = 8) ∨ o = 9 ∨ o = 10 ∨ o = 11 ∨ o = 12 := by omega
  rcases hcs with e | e | e | e | e | e | e | e | e | e
  · subst e
    rw [if_neg (by decide)] at h10
    have eq : shp (0 + 6) = 5 := by decide +kernel
    rw [eq] at hC
    refine ⟨fun _ => ?_, fun z => absurd rfl z⟩
    refine op_n (l := l) hg hr h10 hC (by decide) h12 (by decide) u1 (by omega) h13 h14 hr6 (fun v I1 A1 B1 v3 g1 r1 x1 y13 y12 y10 l1 l2 l3 l4 => q_mkI ⟨vp_in_nI (by omega) (by omega), ?_⟩) (fun I1 f1 x1 => q_mkI ⟨vp_in_nI (by omega) (by omega), ?_⟩)
    · rw [s5, if_pos (by decide)] at y10
      refine m210s (sj := 0) (r := r) g1 (RG_u r1 (by decide) (by decide)) y10 hC (by decide) y12 (by decide) u2 (by omega) y13 (fun z => by omega) (fun _ => ⟨(l1.2.2.2.1 14 (by omega)).trans h14, hr6, by decide⟩) (fun x I2 p2 A2 B2 g2 r2 x2 ox => q_mkI ?_) (fun x I2 f2 x2 => q_mkI ?_)
      · obtain ⟨k1, k2, k3, k4⟩ := LFA_o ox (by decide) (by decide)
        have z10 := ox.2.2.1
        rw [s5, if_neg (by decide)] at z10
        refine hy p2 _ A2 B2 g2 (RG_u r2 (by decide) (by decide)) (LFI_tr (LFI_x x1) (LFI_tr LFI_7 (LFI_tr (LFI_x x2) LFI_8))) z10 (LFA_tr l1 k1) ⟨⟨fun z => by omega, fun _ _ _ => ?_, fun z => by omega, fun z => by omega, fun z => by omega, fun _ _ => ?_, fun _ => ?_⟩, fun z => by omega, fun _ _ _ => ⟨?_, ?_⟩⟩
        · rw [u_I_ne (by decide), RFX_o x2 (by decide), u_I_eq, upd_eq]; exact vp_in_nI (by omega) (by omega)
        · rw [u_I_ne (by decide), RFX_o x2 (by decide), u_I_eq, upd_eq, k3 _ (by omega)]; exact l2
        · rw [u_I_eq, upd_eq]; exact k2
        · rw [u_I_ne (by decide), RFX_o x2 (by decide), u_I_ne (by decide), RFX_o x1 (by decide)]; exact hw1
        · rw [k4, l4]; exact hw2
      · exact hb _ (FL_u f2 (by decide)) (LFI_tr (LFI_x x1) (LFI_tr LFI_7 (LFI_tr (LFI_x x2) LFI_8)))
    · refine m210_f (FL_ne (FL_u f1 (by decide))) (q_mkI ?_)
      exact hb _ (FL_u (FL_u f1 (by decide)) (by decide)) (LFI_tr (LFI_x x1) (LFI_tr LFI_7 LFI_8))
  · subst e
    rw [if_neg (by decide)] at h10
    have eq : shp (1 + 6) = 6 := by decide +kernel
    rw [eq] at hC
    refine ⟨fun z => absurd z (by decide), fun _ => ⟨fun _ => ?_, fun z => absurd rfl z⟩⟩
    refine op_nn (l := l) hg hr h10 hC (by decide) s6 h12 u3 u4 (by omega) (by omega) h13 h14 hr6 (fun v1 v2 p2 I2 A2 B2 h1 h2 g2 r2 x2 e115 e7 e8 z10 k1 k2 k3 k4 => ?_) hb
    refine hy p2 _ A2 B2 g2 r2 x2 z10 k1 ⟨⟨fun z => by omega, fun _ _ _ => by rw [e7]; exact vp_in_nI (by omega) (by omega), fun _ => by rw [e8]; exact vp_in_nI (by omega) (by omega), fun z => by omega, fun z => by omega, fun _ _ => by rw [e7]; exact k2, fun _ => by rw [e8]; exact k3⟩, fun z => by omega, fun _ _ _ => ⟨by rw [e115]; exact hw1, by rw [k4]; exact hw2⟩⟩
  · subst e
    rw [if_neg (by decide)] at h10
    have eq : shp (2 + 6) = 7 := by decide +kernel
    rw [eq] at hC
    refine ⟨fun z => absurd z (by decide), fun _ => ⟨fun z => absurd z (by decide), fun _ => ⟨fun _ => ?_, fun z => absurd rfl z⟩⟩⟩
    refine op_nn (l := l) hg hr h10 hC (by decide) s7 h12 u5 u6 (by omega) (by omega) h13 h14 hr6 (fun v1 v2 p2 I2 A2 B2 h1 h2 g2 r2 x2 e115 e7 e8 z10 k1 k2 k3 k4 => ?_) hb
    refine hy p2 _ A2 B2 g2 r2 x2 z10 k1 ⟨⟨fun _ => by rw [e7]; exact vp_in_nI (by omega) (by omega), fun z => by omega, fun z => by omega, fun _ => by rw [e8]; exact vp_in_nI (by omega) (by omega), fun z => by omega, fun _ _ => by rw [e7]; exact k2, fun _ => by rw [e8]; exact k3⟩, fun z => by omega, fun _ _ _ => ⟨by rw [e115]; exact hw1, by rw [k4]; exact hw2⟩⟩
  · rw [if_neg (by omega)] at h10
    have eq : shp (o + 6) = 8 := by
      rcases e with e | e | e <;> subst e <;> decide +kernel
    rw [eq] at hC
    refine ⟨fun z => by rw [nI_e0 (by omega)] at z; omega, fun _ => ⟨fun z => by rw [nI_eq (by omega) (by omega)] at z; omega, fun _ => ⟨fun z => by rw [nI_eq (by omega) (by omega)] at z; omega, fun _ => ⟨fun z => by rw [nI_ltI (by omega) (by omega)] at z; omega, fun _ => ?_⟩⟩⟩⟩
    refine op_nn (l := l) hg hr h10 hC (by decide) s8 h12 u7 u8 (by omega) (by omega) h13 h14 hr6 (fun v1 v2 p2 I2 A2 B2 h1 h2 g2 r2 x2 e115 e7 e8 z10 k1 k2 k3 k4 => ?_) hb
    refine hy p2 _ A2 B2 g2 r2 x2 z10 k1 ⟨⟨fun z => by omega, fun _ _ _ => by rw [e7]; exact vp_in_nI (by omega) (by omega), fun z => by omega, fun _ => by rw [e8]; exact vp_in_nI (by omega) (by omega), fun z => by omega, fun _ _ => by rw [e7]; exact k2, fun _ => by rw [e8]; exact k3⟩, fun z => by omega, fun _ _ _ => ⟨by rw [e115]; exact hw1, by rw [k4]; exact hw2⟩⟩
  · subst e
    rw [if_neg (by decide)] at h10
    have eq : shp (6 + 6) = 9 := by decide +kernel
    rw [eq] at hC
    refine ⟨fun z => absurd z (by decide), fun _ => ⟨fun z => absurd z (by decide), fun _ => ⟨fun z => absurd z (by decide), fun _ => ⟨fun _ => ⟨fun _ => ?_, fun z => absurd rfl z⟩, fun z => absurd (by decide) z⟩⟩⟩⟩
    refine op_nn (l := l) hg hr h10 hC (by decide) s9 h12 u9 u10 (by omega) (by omega) h13 h14 hr6 (fun v1 v2 p2 I2 A2 B2 h1 h2 g2 r2 x2 e115 e7 e8 z10 k1 k2 k3 k4 => ?_) hb
    refine hy p2 _ A2 B2 g2 r2 x2 z10 k1 ⟨⟨fun z => by omega, fun _ _ _ => by rw [e7]; exact vp_in_nI (by omega) (by omega), fun z => by omega, fun z => by omega, fun _ => by rw [e8]; exact vp_in_nI (by omega) (by omega), fun _ _ => by rw [e7]; exact k2, fun _ => by rw [e8]; exact k3⟩, fun z => by omega, fun _ _ _ => ⟨by rw [e115]; exact hw1, by rw [k4]; exact hw2⟩⟩
  · rw [if_neg (by omega)] at h10
    have eq : shp (o + 6) = 10 := by
      rcases e with e | e <;> subst e <;> decide +kernel
    rw [eq] at hC
    refine ⟨fun z => by rw [nI_e0 (by omega)] at z; omega, fun _ => ⟨fun z => by rw [nI_eq (by omega) (by omega)] at z; omega, fun _ => ⟨fun z => by rw [nI_eq (by omega) (by omega)] at z; omega, fun _ => ⟨fun _ => ⟨fun z => by rw [nI_eq (by omega) (by omega)] at z; omega, fun _ => ⟨fun z => by rw [nI_ltI (by omega) (by omega)] at z; omega, fun _ => ?_⟩⟩, fun z => absurd (by rw [nI_ltI (by omega) (by omega)]; omega) z⟩⟩⟩⟩
    refine op_n (l := l) hg hr h10 hC (by decide) h12 (by decide) u11 (by omega) h13 h14 hr6 (fun v I1 A1 B1 v3 g1 r1 x1 y13 y12 y10 l1 l2 l3 l4 => q_mkI ⟨vp_in_nI (by omega) (by omega), ?_⟩) (fun I1 f1 x1 => q_mkI ⟨vp_in_nI (by omega) (by omega), hb _ (FL_u f1 (by decide)) (LFI_tr (LFI_x x1) LFI_7)⟩)
    rw [s10, if_neg (by decide)] at y10
    refine hy _ _ A1 B1 g1 (RG_u r1 (by decide) (by decide)) (LFI_tr (LFI_x x1) LFI_7) y10 l1 ⟨⟨fun z => by omega, fun _ _ _ => by rw [u_I_eq, upd_eq]; exact vp_in_nI (by omega) (by omega), fun z => by omega, fun z => by omega, fun z => by omega, fun _ _ => by rw [u_I_eq, upd_eq]; exact l2, fun z => by omega⟩, fun z => by omega, fun _ _ _ => ⟨by rw [u_I_ne (by decide), RFX_o x1 (by decide)]; exact hw1, by rw [l4]; exact hw2⟩⟩
  · subst e
    rw [if_neg (by decide)] at h10
    have eq : shp (9 + 6) = 11 := by decide +kernel
    rw [eq] at hC
    refine ⟨fun z => absurd z (by decide), fun _ => ⟨fun z => absurd z (by decide), fun _ => ⟨fun z => absurd z (by decide), fun _ => ⟨fun _ => ⟨fun z => absurd z (by decide), fun _ => ⟨fun _ => ⟨fun z => absurd z (by decide), fun _ => ⟨fun z => absurd z (by decide), fun _ => ?_⟩⟩, fun z => absurd (by decide) z⟩⟩, fun z => absurd (by decide) z⟩⟩⟩⟩
    apply g208_109
    refine ⟨fun z => absurd z (by decide), fun _ => ⟨fun z => absurd z (by decide), fun _ => ?_⟩⟩
    refine op_t (s := 0) (r := r) hg hr hS h10 hC (by decide) h12 (by decide) u12 s11 h14 hr6 hl (fun p2 I2 A2 B2 g2 r2 x2 xo z10 k1 k5 wn => q_mkV ?_) (fun I1 f1 x1 => q_mkV (hb I1 f1 x1))
    exact hy p2 I2 A2 B2 g2 r2 x2 z10 k1 ⟨⟨fun z => by omega, fun _ z => by omega, fun z => by omega, fun z => by omega, fun z => by omega, fun z => by omega, fun z => by omega⟩, fun _ => wn, fun z => by omega⟩
  · subst e
    rw [if_neg (by decide)] at h10
    have eq : shp (10 + 6) = 12 := by decide +kernel
    rw [eq] at hC
    refine ⟨fun z => absurd z (by decide), fun _ => ⟨fun z => absurd z (by decide), fun _ => ⟨fun z => absurd z (by decide), fun _ => ⟨fun _ => ⟨fun z => absurd z (by decide), fun _ => ⟨fun _ => ⟨fun _ => ?_, fun z => absurd rfl z⟩, fun z => absurd (by decide) z⟩⟩, fun z => absurd (by decide) z⟩⟩⟩⟩
    refine op_n (l := l) hg hr h10 hC (by decide) h12 (by decide) u13 (by omega) h13 h14 hr6 (fun v I1 A1 B1 v3 g1 r1 x1 y13 y12 y10 l1 l2 l3 l4 => q_mkI ⟨vp_in_nI (by omega) (by omega), ?_⟩) (fun I1 f1 x1 => q_mkI ⟨vp_in_nI (by omega) (by omega), ?_⟩)
    · rw [s12, if_pos (by decide)] at y10
      apply g208_109
      refine ⟨fun z => absurd z (by decide), fun _ => ⟨fun z => absurd z (by decide), fun _ => ?_⟩⟩
      refine op_t (s := 1) (r := r) g1 (RG_u r1 (by decide) (by decide)) hS y10 hC (by decide) y12 (by decide) u14 s12 ((l1.2.2.2.1 14 (by omega)).trans h14) hr6 hl (fun p2 I2 A2 B2 g2 r2 x2 xo z10 k1 k5 wn => q_mkV ?_) (fun I2 f2 x2 => q_mkV (hb I2 f2 (LFI_tr (LFI_x x1) (LFI_tr LFI_7 x2))))
      refine hy p2 I2 A2 B2 g2 r2 (LFI_tr (LFI_x x1) (LFI_tr LFI_7 x2)) z10 (LFA_tr l1 k1) ⟨⟨fun z => by omega, fun _ _ _ => ?_, fun z => by omega, fun z => by omega, fun z => by omega, fun _ _ => ?_, fun z => by omega⟩, fun _ => wn, fun _ z => by omega⟩
      · rw [xo 107 (by decide) (by decide) (by decide), u_I_eq, upd_eq]; exact vp_in_nI (by omega) (by omega)
      · rw [xo 107 (by decide) (by decide) (by decide), u_I_eq, upd_eq, k5]; exact l2
    · apply g208_109
      refine ⟨fun z => absurd z (by decide), fun _ => ⟨fun z => absurd z (by decide), fun _ => m212_f (FL_ne (FL_u f1 (by decide))) (q_mkV ?_)⟩⟩
      exact hb _ (FL_u f1 (by decide)) (LFI_tr (LFI_x x1) LFI_7)
  · subst e
    rw [if_neg (by decide)] at h10
    have eq : shp (11 + 6) = 13 := by decide +kernel
    rw [eq] at hC
    refine ⟨fun z => absurd z (by decide), fun _ => ⟨fun z => absurd z (by decide), fun _ => ⟨fun z => absurd z (by decide), fun _ => ⟨fun _ => ⟨fun z => absurd z (by decide), fun _ => ⟨fun _ => ⟨fun z => absurd z (by decide), fun _ => ⟨fun _ => ?_, fun z => absurd rfl z⟩⟩, fun z => absurd (by decide) z⟩⟩, fun z => absurd (by decide) z⟩⟩⟩⟩
    refine op_n (l := l) hg hr h10 hC (by decide) h12 (by decide) u15 (by omega) h13 h14 hr6 (fun v I1 A1 B1 v3 g1 r1 x1 y13 y12 y10 l1 l2 l3 l4 => q_mkI ⟨vp_in_nI (by omega) (by omega), ?_⟩) (fun I1 f1 x1 => q_mkI ⟨vp_in_nI (by omega) (by omega), ?_⟩)
    · rw [s13, if_pos (by decide)] at y10
      apply g208_109
      rw [nI_clamp (show 64 + r < 2 ^ 31 by omega)]
      refine ⟨fun _ => ?_, fun z => absurd rfl z⟩
      refine op_n (l := l) g1 (RG_u r1 (by decide) (by decide)) y10 hC (by decide) y12 (by decide) u16 (by omega) y13 ((l1.2.2.2.1 14 (by omega)).trans h14) hr6 (fun w I2 A2 B2 w3 g2 r2 x2 z13 z12 z10 k1 k2 k3 k4 => q_mkI ⟨vp_in_nI (by omega) (by omega), fun z => absurd z (by decide), fun _ => ?_⟩) (fun I2 f2 x2 => q_mkI ⟨vp_in_nI (by omega) (by omega), fun z => absurd z (by decide), fun _ => ?_⟩)
      · rw [s13, if_pos (by decide)] at z10
        have x3 : LFI r l I (u_I I2 108 (upd (I2 108) (64 + r) (nI w))) := LFI_tr (LFI_x x1) (LFI_tr LFI_7 (LFI_tr (LFI_x x2) LFI_8))
        refine op_t (s := 2) (r := r) g2 (RG_u r2 (by decide) (by decide)) hS z10 hC (by decide) z12 (by decide) u17 s13 ((k1.2.2.2.1 14 (by omega)).trans ((l1.2.2.2.1 14 (by omega)).trans h14)) hr6 hl (fun p4 I4 A4 B4 g4 r4 x4 xo y10' m1 m5 wn => q_mkV ?_) (fun I4 f4 x4 => q_mkV (hb I4 f4 (LFI_tr x3 x4)))
        refine hy p4 I4 A4 B4 g4 r4 (LFI_tr x3 x4) y10' (LFA_tr l1 (LFA_tr k1 m1)) ⟨⟨fun z => by omega, fun _ _ _ => ?_, fun z => by omega, fun _ => ?_, fun z => by omega, fun _ _ => ?_, fun _ => ?_⟩, fun _ => wn, fun _ _ z => by omega⟩
        · rw [xo 107 (by decide) (by decide) (by decide), u_I_ne (by decide), RFX_o x2 (by decide), u_I_eq, upd_eq]; exact vp_in_nI (by omega) (by omega)
        · rw [xo 108 (by decide) (by decide) (by decide), u_I_eq, upd_eq]; exact vp_in_nI (by omega) (by omega)
        · rw [xo 107 (by decide) (by decide) (by decide), u_I_ne (by decide), RFX_o x2 (by decide), u_I_eq, upd_eq, m5, k3 _ (by omega)]; exact l2
        · rw [xo 108 (by decide) (by decide) (by decide), u_I_eq, upd_eq, m5]; exact k2
      · refine m212_f (FL_ne (FL_u f2 (by decide))) (q_mkV ?_)
        exact hb _ (FL_u f2 (by decide)) (LFI_tr (LFI_x x1) (LFI_tr LFI_7 (LFI_tr (LFI_x x2) LFI_8)))
    · apply g208_109
      rw [nI_clamp (show 64 + r < 2 ^ 31 by omega)]
      refine ⟨fun _ => ?_, fun z => absurd rfl z⟩
      refine m198_f (FL_ne (FL_u f1 (by decide))) (q_mkI ⟨vp_in_nI (by omega) (by omega), fun z => absurd z (by decide), fun _ => ?_⟩)
      refine m212_f (FL_ne (FL_u (FL_u f1 (by decide)) (by decide))) (q_mkV ?_)
      exact hb _ (FL_u (FL_u f1 (by decide)) (by decide)) (LFI_tr (LFI_x x1) (LFI_tr LFI_7 LFI_8))
  · subst e
    rw [if_pos rfl] at h10
    refine ⟨fun z => absurd z (by decide), fun _ => ⟨fun z => absurd z (by decide), fun _ => ⟨fun z => absurd z (by decide), fun _ => ⟨fun _ => ⟨fun z => absurd z (by decide), fun _ => ⟨fun _ => ⟨fun z => absurd z (by decide), fun _ => ⟨fun z => absurd z (by decide), fun _ => ?_⟩⟩, fun z => absurd (by decide) z⟩⟩, fun z => absurd (by decide) z⟩⟩⟩⟩
    apply g208_109
    refine ⟨fun z => absurd z (by decide), fun _ => ⟨fun _ => ?_, fun z => absurd (by decide) z⟩⟩
    exact hy p I A B hg hr LFI_id h10 ⟨fun _ _ _ _ => rfl, fun _ _ => rfl, fun _ _ => rfl, fun _ _ => rfl, fun _ _ _ => rfl, fun _ _ => rfl⟩ ⟨⟨fun z => by omega, fun _ _ z => by omega, fun z => by omega, fun z => by omega, fun z => by omega, fun _ z => by omega, fun z => by omega⟩, fun z => by omega, fun _ _ _ => ⟨hw1, hw2⟩⟩
end
