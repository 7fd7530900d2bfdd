/-! operands: both sides -/
theorem TG_6 {c : Nat → Nat} {n p : Nat} {A A1 : Nat → Nat → Int32} {B B1 : Nat → Nat → Int64} (h : TG c n p A A1 B B1) (h0 : tkd c n p ≠ 0) : (A1 1 6 = nI 2 ↔ tkd c n p = 1) ∧ (A1 1 6 = nI 3 ↔ tkd c n p = 2) ∧ ∀ x, x = 59 ∨ x = 44 ∨ x = 58 ∨ x = 45 → (A1 1 6 = nI x ↔ tkd c n p = 3 ∧ c (tb c n p) = x) := by
  obtain ⟨_, _, _, _, _, t1, t2, t3, t4, t5⟩ := h
  have hc : tkd c n p = 1 ∨ tkd c n p = 2 ∨ tkd c n p = 3 ∨ tkd c n p = 4 := by omega
  rcases hc with e | e | e | e
  · rw [(t1 e).1, e]
    refine ⟨⟨fun _ => rfl, fun _ => rfl⟩, ⟨fun z => absurd z (by decide), fun z => absurd z (by decide)⟩, fun x hx => ⟨fun z => ?_, fun z => absurd z.1 (by decide)⟩⟩
    rw [nI_eq (by omega) (by omega)] at z
    omega
  · rw [(t2 e).1, e]
    refine ⟨⟨fun z => absurd z (by decide), fun z => absurd z (by decide)⟩, ⟨fun _ => rfl, fun _ => rfl⟩, fun x hx => ⟨fun z => ?_, fun z => absurd z.1 (by decide)⟩⟩
    rw [nI_eq (by omega) (by omega)] at z
    omega
  · obtain ⟨k1, k2⟩ := t3 e
    rw [k1, e, nI_eq (by omega) (by omega), nI_eq (by omega) (by omega)]
    refine ⟨by omega, by omega, fun x hx => ?_⟩
    rw [nI_eq (by omega) (by omega)]
    omega
  · rw [t4 e, e]
    refine ⟨⟨fun z => absurd z (by decide), fun z => absurd z (by decide)⟩, ⟨fun z => absurd z (by decide), fun z => absurd z (by decide)⟩, fun x hx => ⟨fun z => ?_, fun z => absurd z.1 (by decide)⟩⟩
    rw [nI_eq (by omega) (by omega)] at z
    omega
def OPX (A A' : Nat → Nat → Int32) (B B' : Nat → Nat → Int64) (q s d sj r : Nat) (x : Int32) : Prop := (∀ k, k ≠ 1 → A' k = opw A d sj r s x k) ∧ A' 1 12 = nI (s + 1) ∧ A' 1 10 = (if s + 1 < am_slen.getD q 0 then nI 1 else nI 5) ∧ (∀ k, k = 14 ∨ k = 15 ∨ k = 16 → A' 1 k = A 1 k) ∧ (∀ k, k ≠ 1 → B' k = B k)
theorem opw_1 {A : Nat → Nat → Int32} {d sj r s : Nat} {x : Int32} : opw A d sj r s x 1 = A 1 := by
  unfold opw
  split
  · exact u_I_ne (by decide)
  · split <;> exact u_I_ne (by decide)
theorem opw_e {A A1 : Nat → Nat → Int32} {d sj r s : Nat} {x : Int32} (h : ∀ k, k ≠ 1 → A1 k = A k) {k : Nat} (hk : k ≠ 1) : opw A1 d sj r s x k = opw A d sj r s x k := by
  unfold opw
  split
  · by_cases e : k = 7
    · rw [e, u_I_eq, u_I_eq, h 7 (by decide)]
    · rw [u_I_ne e, u_I_ne e, h k hk]
  · split
    · by_cases e : k = 8
      · rw [e, u_I_eq, u_I_eq, h 8 (by decide)]
      · rw [u_I_ne e, u_I_ne e, h k hk]
    · by_cases e : k = 5
      · rw [e, u_I_eq, u_I_eq, h 5 (by decide)]
      · rw [u_I_ne e, u_I_ne e, h k hk]
theorem opw_o {A : Nat → Nat → Int32} {d sj r s : Nat} {x : Int32} {k : Nat} (h5 : k ≠ 5) (h7 : k ≠ 7) (h8 : k ≠ 8) : opw A d sj r s x k = A k := by
  unfold opw
  split
  · exact u_I_ne h7
  · split
    · exact u_I_ne h8
    · exact u_I_ne h5
theorem gon_o {A : Nat → Nat → Int32} {q s k : Nat} (hk : k ≠ 1) : gon A q s k = A k := by
  unfold gon
  split
  · exact u_I_ne hk
  · rw [u_I_ne hk, u_I_ne hk]
theorem gon_1 {A : Nat → Nat → Int32} {q s : Nat} : gon A q s 1 12 = nI (s + 1) ∧ gon A q s 1 10 = (if s + 1 < am_slen.getD q 0 then A 1 10 else nI 5) ∧ ∀ k, k ≠ 10 → k ≠ 12 → gon A q s 1 k = A 1 k := by
  unfold gon
  split
  · refine ⟨by rw [u_I_eq, upd_eq], by rw [u_I_eq, upd_ne (by decide)], fun k a b => by rw [u_I_eq, upd_ne b]⟩
  · refine ⟨?_, ?_, fun k a b => ?_⟩
    · rw [u_I_eq, upd_ne (by decide), u_I_eq, upd_eq]
    · rw [u_I_eq, upd_eq]
    · rw [u_I_eq, upd_ne a, u_I_eq, upd_ne b]
theorem TG_o {c : Nat → Nat} {n p : Nat} {A A1 : Nat → Nat → Int32} {B B1 : Nat → Nat → Int64} (h : TG c n p A A1 B B1) : ∀ k, k ≠ 1 → A1 k = A k := fun k hk => h.1 k (by simp [hk])
theorem TG_f {c : Nat → Nat} {n p : Nat} {A A1 : Nat → Nat → Int32} {B B1 : Nat → Nat → Int64} (h : TG c n p A A1 B B1) : ∀ k, 9 ≤ k → A1 1 k = A 1 k := fun k hk => h.2.1 k (by omega) (by omega) (by omega) (by omega) (by omega)
section
variable {Z : am_Qt → Prop} {A0 : Nat → Nat → Int32} {B0 : Nat → Nat → Int64} {C0 : Nat → Nat → Option Nat} {c : Nat → Nat} {n : Nat} {E : am_Ev} {p : Nat} {A : Nat → Nat → Int32} {B : Nat → Nat → Int64} {C : Nat → Nat → Option Nat} {I : Nat → Nat → Int32} {J : Nat → Nat → Int64} {S : Nat → Nat → Option Nat} {Q : am_Qt}
theorem m198s {q s d sj r lo hi : Nat} (hg : GO Z A0 B0 C0 c n E p A B C) (hr : RG c n p I) (h10 : A 1 10 = nI 1) (hC : C 1 11 = some q) (hq : q < 55) (h12 : A 1 12 = nI s) (hs : s < 100) (ed : due q s = d) (hd : d ≠ 59 ∧ d ≠ 78 ∧ d ≠ 67) (hlo : lo < 2 ^ 30) (hhi : hi < 2 ^ 30) (hf : ∀ v, v ≤ 9999 → (fit d sj v ↔ lo ≤ v ∧ v ≤ hi))
    (hm : d = 118 ∨ d = 119 → A 1 13 = 0 → ¬ (tkd c n p = 3 ∧ c (tb c n p) = 45)) (h15 : d = 119 ∨ d = 110 → A 1 15 = nI sj ∧ sj < 16 ∧ (d = 110 → sj < 4)) (h14 : d ≠ 119 → d ≠ 110 → A 1 14 = nI r ∧ r < 64 ∧ s < 3)
    (hy : ∀ v I' A' B', lo ≤ v → v ≤ hi → v ≤ 9999 → GO Z A0 B0 C0 c n E (te c n p) A' B' C → RG c n (te c n p) I' → RFX I I' → A' 1 13 = A 1 13 → OPX A A' B B' q s d sj r (if A 1 13 = 0 then nI v else - nI v) → Q (.inl (some (.int (nI v)))) E I' J S)
    (hb : ∀ I', FL Z A0 B0 C0 E I' → RFX I I' → Q (.inl (some (.int (nI lo)))) E I' J S) : am_cl 198 [.ref 99, .int (nI lo), .int (nI hi)] E I J S Q := by
  have hp := hg.2.2.2.2
  show am_ww 198 0 [.ref 99, .int (nI lo), .int (nI hi), am_U] [] E I J S Q
  apply g198_0
  refine m199 hr hp hlo hhi (fun v t2 h4 ev v9 l1 l2 => q_mkI ⟨fun _ => ?_, fun z => absurd hr.2.2 z⟩) (fun t2 ho => q_mkI ⟨fun z => absurd z (wr_22 (by decide) (by decide)), fun _ => hb _ ?_ RFX_w⟩) (fun t2 => q_mkI ⟨fun z => absurd z (wr_22 (by decide) (by decide)), fun _ => hb _ ?_ RFX_w⟩)
  · obtain ⟨A2, B2, C2, g2, e2, f2, x2⟩ := GO_acc (X := fun A2 B2 C2 => C2 = C ∧ A2 1 13 = A 1 13 ∧ OPX A A2 B B2 q s d sj r (if A 1 13 = 0 then nI v else - nI v)) hg (by omega) (fun A1 B1 tg => by
      have tf := TG_f tg
      have e7 : A1 1 7 = nI v := by
        rw [(tg.2.2.2.2.2.2.1 t2).2, ev]
        unfold cv
        rw [if_pos h4]
      refine ⟨gon (opw A1 d sj r s (if A 1 13 = 0 then nI v else - nI v)) q s, B1, C, ?_, ?_, ?_, rfl, ?_, ?_⟩
      · have t := t1_st (E := E) (A := A1) (B := B1) (C := C) (q := q) (s := s) (sj := sj) (r := r) (v := v) (x := if A 1 13 = 0 then nI v else - nI v) ((tf 10 (by decide)).trans h10) hC hq ((tf 12 (by decide)).trans h12) (by omega) (by rw [ed]; exact hd) (tg.2.2.2.2.2.2.1 t2).1 e7 (by omega) (by rw [ed]; exact (hf v v9).mpr ⟨l1, l2⟩) (by rw [tf 13 (by decide)]) (by rw [ed, tf 15 (by decide)]; exact h15) (by rw [ed, tf 14 (by decide)]; exact h14)
        rw [ed] at t
        exact t
      · rw [gon_1.2.2 5 (by decide) (by decide), opw_1]
      · refine ⟨fun k hk => ?_, fun _ _ => rfl, fun _ _ => rfl⟩
        rw [gon_o (by omega), opw_o (by omega) (by omega) (by omega)]
      · rw [gon_1.2.2 13 (by decide) (by decide), opw_1, tf 13 (by decide)]
      · refine ⟨fun k hk => ?_, gon_1.1, ?_, fun k hk => ?_, tg.2.2.1⟩
        · rw [gon_o hk]
          exact opw_e (TG_o tg) hk
        · rw [gon_1.2.1, opw_1, tf 10 (by decide), h10]
        · rw [gon_1.2.2 k (by omega) (by omega), opw_1, tf k (by omega)])
    subst e2
    exact m190s hr hp (fun I' a b => q_mkV (hy v I' A2 B2 l1 l2 v9 g2 a (RFX_t b) f2 x2))
  · refine FL_w hr hp (by decide) (by decide) (GO_rej hg (fun z => by omega) (by decide) (by decide) (fun A1 B1 tg t0 => ⟨A1, B1, C, ?_, rfl, CF_id⟩))
    have tf := TG_f tg
    have e7 := (tg.2.2.2.2.2.2.1 t2).2
    refine t1_over (sj := sj) ((tf 10 (by decide)).trans h10) hC hq ((tf 12 (by decide)).trans h12) (by omega) (by rw [ed]; exact ⟨hd.1, hd.2.1⟩) (tg.2.2.2.2.2.2.1 t2).1 (by rw [ed, tf 15 (by decide)]; exact fun z => ⟨(h15 (Or.inr z)).1, (h15 (Or.inr z)).2.2 z⟩) ?_
    unfold cv at e7
    rcases ho with z | ⟨z, z9, z2⟩
    · rw [if_neg (by omega)] at e7
      exact Or.inl e7
    · rw [if_pos z] at e7
      refine Or.inr ⟨_, by omega, e7, ?_⟩
      rw [ed, hf _ z9]
      exact z2
  · refine FL_w hr hp (by decide) (by decide) (GO_rej hg (fun z => ⟨rfl, by rw [h10]; decide⟩) (by decide) (by decide) (fun A1 B1 tg t0 => ⟨A1, B1, C, ?_, rfl, CF_id⟩))
    have tf := TG_f tg
    obtain ⟨_, k3, ks⟩ := TG_6 tg t0
    refine t1_bad ((tf 10 (by decide)).trans h10) hC hq ((tf 12 (by decide)).trans h12) (by omega) (by rw [ed]; exact ⟨hd.1, hd.2.1⟩) (fun a b => ?_) (fun z => t2 (k3.mp z))
    rw [tf 13 (by decide)] at b
    have a := (ks 45 (by omega)).mp a
    rw [ed]
    exact ⟨fun z => hm (Or.inl z) b a, fun z => hm (Or.inr z) b a⟩
theorem fit_v (d sj : Nat) (hd : d = 118 ∨ d = 119) : ∀ v, v ≤ 9999 → (fit d sj v ↔ 0 ≤ v ∧ v ≤ 9999) := by
  intro v hv
  unfold fit
  omega
theorem m210s {q s d sj r : Nat} (hg : GO Z A0 B0 C0 c n E p A B C) (hr : RG c n p I) (h10 : A 1 10 = nI 1) (hC : C 1 11 = some q) (hq : q < 55) (h12 : A 1 12 = nI s) (hs : s < 100) (ed : due q s = d) (hd : d = 118 ∨ d = 119) (h13 : A 1 13 = 0) (h15 : d = 119 → A 1 15 = nI sj ∧ sj < 16) (h14 : d ≠ 119 → A 1 14 = nI r ∧ r < 64 ∧ s < 3)
    (hy : ∀ x I' p' A' B', GO Z A0 B0 C0 c n E p' A' B' C → RG c n p' I' → RFX I I' → OPX A A' B B' q s d sj r x → Q (.inl (some (.int x))) E I' J S)
    (hb : ∀ x I', FL Z A0 B0 C0 E I' → RFX I I' → Q (.inl (some (.int x))) E I' J S) : am_cl 210 [.ref 99] E I J S Q := by
  have hp := hg.2.2.2.2
  show am_ww 210 0 [.ref 99, am_U, am_U] [] E I J S Q
  apply g210_0
  refine m211 hr hp (by decide) (fun t3 ec I1 r1 f1 => q_mkI ?_) (fun hn => q_mkI ?_)
  · obtain ⟨A2, B2, C2, g2, e2, f2, x2, y2⟩ := GO_acc (X := fun A2 B2 C2 => C2 = C ∧ (∀ k, k ≠ 1 → A2 k = A k) ∧ (∀ k, 9 ≤ k → k ≠ 13 → A2 1 k = A 1 k) ∧ A2 1 13 = nI 1 ∧ ∀ k, k ≠ 1 → B2 k = B k) hg (by omega) (fun A1 B1 tg => by
      have tf := TG_f tg
      obtain ⟨_, _, ks⟩ := TG_6 tg (by omega)
      refine ⟨u_I A1 1 (upd (A1 1) 13 (nI 1)), B1, C, ?_, ?_, ?_, rfl, ?_, ?_, ?_, tg.2.2.1⟩
      · exact t1_minus ((tf 10 (by decide)).trans h10) hC hq ((tf 12 (by decide)).trans h12) (by omega) (by rw [ed]; exact hd) ((ks 45 (by omega)).mpr ⟨t3, ec⟩) ((tf 13 (by decide)).trans h13)
      · rw [u_I_eq, upd_ne (by decide)]
      · exact ⟨fun k hk => u_I_ne (by omega), fun _ _ => rfl, fun _ _ => rfl⟩
      · intro k hk
        rw [u_I_ne hk]
        exact TG_o tg k hk
      · intro k hk hk2
        rw [u_I_eq, upd_ne hk2]
        exact tf k hk
      · rw [u_I_eq, upd_eq])
    subst e2
    refine m198s (sj := sj) (r := r) g2 r1 ((x2 10 (by decide) (by decide)).trans h10) hC hq ((x2 12 (by decide) (by decide)).trans h12) hs ed (by omega) (by decide) (by decide) (fit_v d sj hd) (fun _ z => absurd z (by rw [y2.1]; decide)) (fun z => ?_) (fun z _ => ?_) (fun v I' A' B' _ _ _ g3 r3 f3 _ ox => q_mkI ?_) (fun I' fl f3 => q_mkI (hb _ I' fl (RFX_tr (RFX_t f1) f3)))
    · rw [x2 15 (by decide) (by decide)]
      obtain ⟨a, b⟩ := h15 (by omega)
      exact ⟨a, b, fun z => by omega⟩
    · rw [x2 14 (by decide) (by decide)]
      exact h14 z
    · rw [if_neg (by decide)]
      rw [y2.1, if_neg (by decide)] at ox
      refine hy _ I' _ A' B' g3 r3 (RFX_tr (RFX_t f1) f3) ?_
      obtain ⟨o1, o2, o3, o4, o5⟩ := ox
      exact ⟨fun k hk => (o1 k hk).trans (opw_e f2 hk), o2, o3, fun k hk => (o4 k hk).trans (x2 k (by omega) (by omega)), fun k hk => (o5 k hk).trans (y2.2 k hk)⟩
  · refine m198s (sj := sj) (r := r) hg hr h10 hC hq h12 hs ed (by omega) (by decide) (by decide) (fit_v d sj hd) (fun _ _ => hn) (fun z => ?_) (fun z _ => h14 z) (fun v I' A' B' _ _ _ g3 r3 f3 _ ox => q_mkI ?_) (fun I' fl f3 => q_mkI (hb _ I' fl f3))
    · obtain ⟨a, b⟩ := h15 (by omega)
      exact ⟨a, b, fun z => by omega⟩
    · rw [if_pos (show nI 0 = 0 from rfl)]
      rw [h13, if_pos rfl] at ox
      exact hy _ I' _ A' B' g3 r3 f3 ox
theorem RG_u {j : Nat} {f : Nat → Int32} (h : RG c n p I) (hj : j ≠ 99) (hk : j ≠ 111) : RG c n p (u_I I j f) := by
  unfold RG txr TK at *
  rw [u_I_ne (by omega), u_I_ne (by omega)]
  exact h
theorem FL_u {j : Nat} {f : Nat → Int32} (h : FL Z A0 B0 C0 E I) (hj : j ≠ 99) : FL Z A0 B0 C0 E (u_I I j f) := FL_e h (by rw [u_I_ne (by omega)]) (by rw [u_I_ne (by omega)])
/-- what a name's token is for the class -/
theorem TG_nm {A1 : Nat → Nat → Int32} {B1 : Nat → Nat → Int64} (h : TG c n p A A1 B B1) (t1 : tkd c n p = 1) (hw : nwd c n p) : A1 1 8 = -1 := by
  obtain ⟨_, w, _⟩ := h.2.2.2.2.2.1 t1
  rcases w with ⟨k, k1, k2, _⟩ | ⟨_, e⟩
  · exact absurd k2 (hw k k1)
  · exact e
theorem TG_nn {A1 : Nat → Nat → Int32} {B1 : Nat → Nat → Int64} (h : TG c n p A A1 B B1) (t1 : tkd c n p = 1) (hw : ¬ nwd c n p) : ¬ A1 1 8 = -1 := by
  obtain ⟨_, w, _⟩ := h.2.2.2.2.2.1 t1
  rcases w with ⟨k, k1, k2, e⟩ | ⟨w, e⟩
  · rw [e]; exact nI_nm (by omega)
  · exact absurd w hw
def NMX (c : Nat → Nat) (n p : Nat) (A A' : Nat → Nat → Int32) (B B' : Nat → Nat → Int64) (q s r : Nat) : Prop := (∀ k, k ≠ 1 → A' k = u_I A 11 (upd (A 11) r (nI (tb c n p))) k) ∧ A' 1 10 = (if s + 1 < am_slen.getD q 0 then nI 1 else nI 5) ∧ (∀ k, k = 14 ∨ k = 15 ∨ k = 16 → A' 1 k = A 1 k) ∧ (∀ k, k ≠ 1 → k ≠ 10 → B' k = B k) ∧ B' 10 = vp_updL (B 10) r (nmv c (tb c n p) (te c n p - tb c n p))
theorem m212s {q s r l : Nat} (hg : GO Z A0 B0 C0 c n E p A B C) (hr : RG c n p I) (hS : SW S) (h10 : A 1 10 = nI 1) (hC : C 1 11 = some q) (hq : q < 55) (h12 : A 1 12 = nI s) (hs : s < 100) (ed : due q s = 78) (h14 : A 1 14 = nI r) (hr2 : r < 64) (hl : l < 16)
    (hy : ∀ I' A' B', tkd c n p = 1 → te c n p - tb c n p ≤ 8 → GO Z A0 B0 C0 c n E (te c n p) A' B' C → RG c n (te c n p) I' → RFX (u_I (u_I I 114 (upd (I 114) l (nI (tb c n p)))) 115 (upd (I 115) l (nI (te c n p - tb c n p)))) I' → NMX c n p A A' B B' q s r → Q (.inl none) E I' J S)
    (hb : ∀ I', FL Z A0 B0 C0 E I' → RFX I I' → Q (.inl none) E I' J S) : am_cl 212 [.ref 99, .int (nI l)] E I J S Q := by
  have hp := hg.2.2.2.2
  have hn := hr.1.1
  have b2 := te_n (c := c) hp
  show am_ww 212 0 [.ref 99, .int (nI l)] [] E I J S Q
  apply g212_0
  refine m204 hr hp hS (fun t1 hw h8 => q_mkI ⟨fun z => absurd z (by decide), fun _ => ⟨vp_in_nI hl (by omega), ?_⟩⟩) (fun hw => q_mkI ⟨fun _ => hb _ ?_ RFX_w, fun z => absurd rfl z⟩) (fun t1 hw h8 => q_mkI ⟨fun _ => hb _ ?_ RFX_w, fun z => absurd rfl z⟩)
  · rw [hr.2.1.1, hr.2.1.2.2.1, nI_subI b2.2, nI_clamp (by omega)]
    obtain ⟨A2, B2, C2, g2, e2, x2⟩ := GO_acc (X := fun A2 B2 C2 => C2 = C ∧ NMX c n p A A2 B B2 q s r) hg (by omega) (fun A1 B1 tg => by
      have tf := TG_f tg
      refine ⟨gon (u_I A1 11 (upd (A1 11) r (nI (tb c n p)))) q s, u_J B1 10 (vp_updL (B1 10) r (B1 1 9)), C, ?_, ?_, ?_, rfl, ?_⟩
      · exact t1_name ((tf 10 (by decide)).trans h10) hC hq ((tf 12 (by decide)).trans h12) hs ed (tg.2.2.2.2.2.1 t1).1 (TG_nm tg t1 hw) tg.2.2.2.1 tg.2.2.2.2.1 b2.2 (by omega) ((tf 14 (by decide)).trans h14) hr2 h8
      · rw [gon_1.2.2 5 (by decide) (by decide), u_I_ne (by decide)]
      · exact ⟨fun k hk => by rw [gon_o (by omega), u_I_ne (by omega)], fun k hk => u_J_ne (by omega), fun _ _ => rfl⟩
      · refine ⟨fun k hk => ?_, ?_, fun k hk => ?_, fun k hk hk2 => ?_, ?_⟩
        · rw [gon_o hk]
          by_cases e : k = 11
          · rw [e, u_I_eq, u_I_eq, TG_o tg 11 (by decide)]
          · rw [u_I_ne e, u_I_ne e, TG_o tg k hk]
        · rw [gon_1.2.1, u_I_ne (by decide), tf 10 (by decide), h10]
        · rw [gon_1.2.2 k (by omega) (by omega), u_I_ne (by decide), tf k (by omega)]
        · rw [u_J_ne hk2]; exact tg.2.2.1 k hk
        · rw [u_J_eq, tg.2.2.1 10 (by decide), (tg.2.2.2.2.2.1 t1).2.2])
    subst e2
    exact m190s (RG_u (RG_u hr (by decide) (by decide)) (by decide) (by decide)) hp (fun I' a b => q_mkV (hy I' A2 B2 t1 h8 g2 a (RFX_t b) x2))
  · refine FL_w hr hp (by decide) (by decide) (GO_rej hg (fun z => ⟨rfl, by rw [h10]; decide⟩) (by decide) (by decide) (fun A1 B1 tg t0 => ⟨A1, B1, C, ?_, rfl, CF_id⟩))
    have tf := TG_f tg
    refine t1_nbad ((tf 10 (by decide)).trans h10) hC hq ((tf 12 (by decide)).trans h12) hs ed tg.2.2.2.1 tg.2.2.2.2.1 b2.2 (by omega) (Or.inl ⟨fun z => ?_, rfl⟩)
    have t1 := (TG_6 tg t0).1.mp z.1
    exact TG_nn tg t1 (fun q => hw ⟨t1, q⟩) z.2
  · refine FL_w hr hp (by decide) (by decide) (GO_rej hg (fun z => by omega) (by decide) (by decide) (fun A1 B1 tg t0 => ⟨A1, B1, C, ?_, rfl, CF_id⟩))
    have tf := TG_f tg
    exact t1_nbad ((tf 10 (by decide)).trans h10) hC hq ((tf 12 (by decide)).trans h12) hs ed tg.2.2.2.1 tg.2.2.2.2.1 b2.2 (by omega) (Or.inr ⟨⟨(tg.2.2.2.2.2.1 t1).1, TG_nm tg t1 hw, h8⟩, rfl⟩)
end
