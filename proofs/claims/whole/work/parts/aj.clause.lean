/-! a clause: both sides -/
/-- what was told: the reference's bits, the class's bits -/
def BDN (x y : Int32) : Prop := (∀ k, k < 4 → bt x k = bt y k) ∧ (∀ k, k < 16 → bt x (4 + k) = bt y (8 + k))
theorem BDN_s {x y : Int32} {k : Nat} (h : BDN x y) (hk : k < 4) : BDN (x ||| (nI 1 <<< (nI k &&& 31))) (y ||| (nI 1 <<< (nI k &&& 31))) := by
  refine ⟨fun j hj => ?_, fun j hj => ?_⟩
  · rw [bt_or (by omega) (by omega), bt_or (by omega) (by omega), h.1 j hj]
  · rw [bt_or (by omega) (by omega), bt_or (by omega) (by omega), h.2 j hj, decide_eq_false (by omega), decide_eq_false (by omega)]
theorem BDN_c {x y : Int32} {k : Nat} (h : BDN x y) (hk : k < 16) : BDN (x ||| (nI 1 <<< (nI (k + 4) &&& 31))) (y ||| (nI 1 <<< (nI (8 + k) &&& 31))) := by
  refine ⟨fun j hj => ?_, fun j hj => ?_⟩
  · rw [bt_or (by omega) (by omega), bt_or (by omega) (by omega), h.1 j hj, decide_eq_false (by omega), decide_eq_false (by omega)]
  · rw [bt_or (by omega) (by omega), bt_or (by omega) (by omega), h.2 j hj]
    congr 1
    by_cases e : j = k
    · rw [decide_eq_true (by omega), decide_eq_true (by omega)]
    · rw [decide_eq_false (by omega), decide_eq_false (by omega)]
theorem or_z (x : Int32) : x ||| nI 0 = x := by
  apply b_ext
  intro i hi
  rw [b_or, show nI 0 = 0 from rfl, b_0, Bool.or_false]
theorem and_z (x : Int32) : x &&& nI 0 = 0 := by
  apply b_ext
  intro i hi
  rw [b_and, show nI 0 = 0 from rfl, b_0, Bool.and_false]
theorem DT_e {T : Nat} {I I' A A' : Nat → Nat → Int32} {B B' : Nat → Nat → Int64} (h : DT T I A B) (hI : ∀ j, j = 105 ∨ 106 ≤ j ∧ j < 110 → I' j = I j) (h9 : I' 103 9 = I 103 9) (h29 : I' 99 29 = I 99 29) (hA : ∀ j, 3 ≤ j ∧ j < 7 ∨ j = 11 → A' j = A j) (hB : ∀ j, j = 9 ∨ j = 10 → B' j = B j) (hds : DS I' A') : DT T I' A' B' := by
  obtain ⟨a1, a2, a3, a4, a5⟩ := h
  refine ⟨DX_e a1 h9 h29 (fun t _ => by rw [hI 105 (by omega)]) (fun t _ => by rw [hA 6 (by omega)]) (fun r _ => ?_), hds, by rw [hA 3 (by omega)]; exact a3, by rw [hA 6 (by omega)]; exact a4, by rw [hB 9 (by omega), hB 10 (by omega)]; exact a5⟩
  unfold RE
  rw [hA 4 (by omega), hA 5 (by omega), hA 11 (by omega), hB 9 (by omega), hB 10 (by omega), hI 106 (by omega), hI 107 (by omega), hI 108 (by omega), hI 109 (by omega)]
  exact ⟨rfl, rfl, rfl, rfl, rfl, rfl, rfl, rfl, rfl, rfl⟩
section
variable {Z : am_Qt → Prop} {A0 : Nat → Nat → Int32} {B0 : Nat → Nat → Int64} {C0 : Nat → Nat → Option Nat} {c : Nat → Nat} {n : Nat} {E : am_Ev} {p : Nat} {A : Nat → Nat → Int32} {B : Nat → Nat → Int64} {C : Nat → Nat → Option Nat} {I : Nat → Nat → Int32} {J : Nat → Nat → Int64} {S : Nat → Nat → Option Nat} {Q : am_Qt}
/-- the end of a clause: ';' where the class waits for it -/
theorem m206_e (hg : GO Z A0 B0 C0 c n E p A B C) (hr : RG c n p I) (hst : (∃ q s, A 1 10 = nI 1 ∧ C 1 11 = some q ∧ q < 55 ∧ A 1 12 = nI s ∧ s < 200 ∧ due q s = 59) ∨ (A 1 10 = nI 5 ∧ ¬ (tkd c n p = 3 ∧ c (tb c n p) = 44)))
    (hy : ∀ p' I' A' B' C', GO Z A0 B0 C0 c n E p' A' B' C' → RG c n p' I' → A' 1 10 = nI 0 → A' 1 16 = A 1 16 → (∀ k, k ≠ 1 → A' k = A k) → (∀ k, k ≠ 1 → B' k = B k) → RFX I I' → I' 99 29 = I 99 29 → Q (.inl none) E I' J S)
    (hb : ∀ I', FL Z A0 B0 C0 E I' → RFX I I' → Q (.inl none) E I' J S) : am_cl 206 [.ref 99, .int (nI 59)] E I J S Q := by
  have hp := hg.2.2.2.2
  refine m206 (ch := 59) hr hp (by decide) (fun t3 ec I3 r3 f3 => ?_) (fun hno => hb _ ?_ RFX_w)
  · obtain ⟨A3, B3, C3, g3, e3, k10, k16, ko, kB⟩ := GO_acc (X := fun A3 B3 C3 => C3 = C ∧ A3 1 10 = nI 0 ∧ A3 1 16 = A 1 16 ∧ (∀ k, k ≠ 1 → A3 k = A k) ∧ (∀ k, k ≠ 1 → B3 k = B k)) hg (by omega) (fun A4 B4 tg => by
      obtain ⟨_, _, ks⟩ := TG_6 tg (by omega)
      have e6 := (ks 59 (by omega)).mpr ⟨t3, ec⟩
      refine ⟨u_I A4 1 (upd (A4 1) 10 (nI 0)), B4, C, ?_, by rw [u_I_eq, upd_ne (by decide)], ⟨fun k hk => u_I_ne (by omega), fun _ _ => rfl, fun _ _ => rfl⟩, rfl, by rw [u_I_eq, upd_eq], ?_, fun k hk => ?_, tg.2.2.1⟩
      · rcases hst with ⟨q, s, h10, hC, hq, h12, hs, hd⟩ | ⟨h10, h44⟩
        · exact t1_semi (x := 0) ((TG_f tg 10 (by decide)).trans h10) hC hq ((TG_f tg 12 (by decide)).trans h12) hs hd (by rw [if_pos e6])
        · exact t5_ok (x := 59) ((TG_f tg 10 (by decide)).trans h10) e6 (Or.inr rfl)
      · rw [u_I_eq, upd_ne (by decide)]; exact TG_f tg 16 (by decide)
      · rw [u_I_ne hk]; exact TG_o tg k hk)
    exact hy _ I3 A3 B3 C3 g3 r3 k10 k16 ko kB (RFX_t f3) (f3.2 29 (by decide) (by decide) (by decide) (by decide) (by decide))
  · have n0 : ¬ A 1 10 = 0 := by
      rcases hst with ⟨q, s, h10, _⟩ | ⟨h10, _⟩ <;> rw [h10] <;> decide
    refine FL_w hr hp (by decide) (by decide) (GO_rej hg (fun z => ⟨rfl, n0⟩) (by decide) (by decide) (fun A1 B1 tg t0 => ?_))
    obtain ⟨_, _, ks⟩ := TG_6 tg t0
    have e6 : ¬ A1 1 6 = nI 59 := fun z => hno ((ks 59 (by omega)).mp z)
    rcases hst with ⟨q, s, h10, hC, hq, h12, hs, hd⟩ | ⟨h10, h44⟩
    · refine ⟨u_I A1 1 (upd (A1 1) 10 (nI 0)), B1, C, t1_semi (x := 1) ((TG_f tg 10 (by decide)).trans h10) hC hq ((TG_f tg 12 (by decide)).trans h12) hs hd (by rw [if_neg e6]), by rw [u_I_eq, upd_ne (by decide)], ⟨fun k hk => u_I_ne (by omega), fun _ _ => rfl, fun _ _ => rfl⟩⟩
    · exact ⟨A1, B1, C, t5_no ((TG_f tg 10 (by decide)).trans h10) (fun z => h44 ((ks 44 (by omega)).mp z)) e6, rfl, CF_id⟩
/-- the ends of a clause -/
def KCL (Z : am_Qt → Prop) (A0 : Nat → Nat → Int32) (B0 : Nat → Nat → Int64) (C0 : Nat → Nat → Option Nat) (c : Nat → Nat) (n : Nat) (E : am_Ev) (T : Nat) (x : Int32) (I : Nat → Nat → Int32) (J : Nat → Nat → Int64) (S : Nat → Nat → Option Nat) (Q : am_Qt) : Prop :=
  (∀ v p' I' A' B' C' T', GO Z A0 B0 C0 c n E p' A' B' C' → RG c n p' I' → A' 1 10 = nI 0 → DT T' I' A' B' → BDN v (A' 1 16) → RFR I I' → (T' = T + 1 ∧ v = x ∨ T' = T ∧ ∃ k, k < 20 ∧ bt x k = false ∧ v = x ||| (nI 1 <<< (nI k &&& 31))) → Q (.inl (some (.int v))) E I' J S) ∧
  (∀ v I', FL Z A0 B0 C0 E I' → RFR I I' → Q (.inl (some (.int v))) E I' J S)
theorem du_4 : due 4 0 = 110 ∧ due 4 1 = 59 ∧ due 3 0 = 67 ∧ due 3 1 = 119 ∧ due 3 2 = 59 ∧ am_slen.getD 4 0 = 2 ∧ am_slen.getD 3 0 = 3 := by decide +kernel
def slo (k : Nat) : Nat := if k = 1 then 0 else if k = 3 then 2 else 1
def shi (k : Nat) : Nat := if k = 0 then 9 else if k = 1 then 9999 else if k = 2 then 50 else 8
theorem fit_n {k : Nat} (hk : k < 4) : ∀ v, v ≤ 9999 → (fit 110 k v ↔ slo k ≤ v ∧ v ≤ shi k) := by
  intro v hv
  have hc : k = 0 ∨ k = 1 ∨ k = 2 ∨ k = 3 := by omega
  unfold fit
  rcases hc with e | e | e | e <;> subst e <;> simp only [slo, shi] <;> simp <;> omega
theorem m194_28f {x1 x2 x3 : Int32} {d4 : Value} (hd4 : am_isL d4 = false) (hb : ¬ I 99 22 = 0) (h : Q (.inl (some (.int x1))) E I J S) : am_ww 194 28 [.ref 99, .int x1, .int x2, .int x3, d4] [] E I J S Q := by
  apply g194_28 hd4
  exact ⟨fun z => absurd z hb, fun _ => h⟩
theorem m194_107f {x1 x3 x4 : Int32} {d2 : Value} {k : Nat} (hd2 : am_isL d2 = false) (e4 : x4 = nI k) (hk : k < 16) (hf : FL Z A0 B0 C0 E I) (h : ∀ v I', FL Z A0 B0 C0 E I' → RFR I I' → Q (.inl (some (.int v))) E I' J S) : am_ww 194 107 [.ref 99, .int x1, d2, .int x3, .int x4] [] E I J S Q := by
  apply g194_107 hd2
  rw [e4, nI_add, nI_clamp (by omega)]
  refine m210_f (FL_ne hf) (q_mkI ⟨vp_in_nI (by omega) (by omega), m206_f (FL_ne (FL_u hf (by decide))) (q_mkV (h _ _ (FL_u hf (by decide)) (RFR_u (by omega))))⟩)
/-- a setting -/
theorem m194_set {T k : Nat} {x1 : Int32} (hg : GO Z A0 B0 C0 c n E p A B C) (hr : RG c n p I) (h10 : A 1 10 = nI 0) (t1 : tkd c n p = 1) (hk : k < 4) (hw : isw c (tb c n p) (te c n p) k) (hdt : DT T I A B) (hbd : BDN x1 (A 1 16)) (hfr : bt x1 k = false) (h : KCL Z A0 B0 C0 c n E T x1 I J S Q) : am_ww 194 28 [.ref 99, .int x1, .int (nI k), .int (nI 1 <<< (nI k &&& 31)), am_U] [] E I J S Q := by
  have hp := hg.2.2.2.2
  obtain ⟨u1, u2, u3, u4, u5, u6, u7⟩ := du_4
  apply g194_28 rfl
  refine ⟨fun _ => ⟨fun z => absurd z (nI_nm (by omega)), fun _ => m190s hr hp (fun I1 r1 f1 => q_mkV ?_)⟩, fun z => absurd hr.2.2 z⟩
  intro w14 e14 w18 e18
  have hlo : w14 = nI (slo k) := by
    rw [e14]
    have hc : k = 0 ∨ k = 1 ∨ k = 2 ∨ k = 3 := by omega
    rcases hc with e | e | e | e <;> subst e <;> rfl
  have hhi : w18 = nI (shi k) := by
    rw [e18]
    have hc : k = 0 ∨ k = 1 ∨ k = 2 ∨ k = 3 := by omega
    rcases hc with e | e | e | e <;> subst e <;> rfl
  rw [hlo, hhi]
  have sb : slo k < 2 ^ 30 ∧ shi k < 2 ^ 30 := by
    unfold slo shi
    constructor
    · split
      · decide
      · split <;> decide
    · split
      · decide
      · split
        · decide
        · split <;> decide
  obtain ⟨A2, B2, C2, g2, k10, k12, k13, k15, k16, kC, ko, kB⟩ := GO_acc (X := fun A2 B2 C2 => A2 1 10 = nI 1 ∧ A2 1 12 = nI 0 ∧ A2 1 13 = 0 ∧ A2 1 15 = nI k ∧ A2 1 16 = (A 1 16 ||| (nI 1 <<< (nI k &&& 31))) ∧ C2 1 11 = some 4 ∧ (∀ j, j ≠ 1 → A2 j = A j) ∧ (∀ j, j ≠ 1 → B2 j = B j)) hg (by omega) (fun A1 B1 tg => by
    have tf := TG_f tg
    refine ⟨xpI (u_I A1 1 (upd (upd (A1 1) 16 (A1 1 16 ||| (nI 1 <<< (nI k &&& 31)))) 15 (nI k))) 4, B1, xpS C 4, t0_set ((tf 10 (by decide)).trans h10) (tg.2.2.2.2.2.1 t1).1 (TG_w tg t1 (by omega) hw) hk (by rw [tf 16 (by decide), ← hbd.1 k hk]; exact hfr), ?_, ⟨fun j hj => by rw [xpI_o (by omega), u_I_ne (by omega)], fun _ _ => rfl, fun j hj => xpS_o hj⟩, ?_, xpI_1.1, xpI_1.2.1, ?_, ?_, xpS_1, fun j hj => ?_, tg.2.2.1⟩
    · rw [xpI_1.2.2.2 5 (by decide) (by decide) (by decide), u_I_eq, upd_ne (by decide), upd_ne (by decide)]
    · rw [xpI_1.2.2.1, u6, if_neg (by decide)]
    · rw [xpI_1.2.2.2 15 (by decide) (by decide) (by decide), u_I_eq, upd_eq]
    · rw [xpI_1.2.2.2 16 (by decide) (by decide) (by decide), u_I_eq, upd_ne (by decide), upd_eq, tf 16 (by decide)]
    · rw [xpI_o hj, u_I_ne hj]; exact TG_o tg j hj)
  refine m198s (q := 4) (s := 0) (d := 110) (sj := k) (r := 0) g2 r1 k10 kC (by decide) k12 (by decide) u1 (by decide) sb.1 sb.2 (fit_n hk) (fun z => by omega) (fun _ => ⟨k15, by omega, fun _ => hk⟩) (fun _ z => by omega) (fun v I3 A3 B3 l1 l2 _ g3 r3 x3 e13 ox => q_mkI ?_) (fun I3 f3 x3 => q_mkI ?_)
  · rw [k13, if_pos rfl] at ox
    obtain ⟨o1, o2, o3, o4, o5⟩ := ox
    rw [u6, if_pos (by decide)] at o3
    unfold opw at o1
    rw [if_neg (by decide), if_pos rfl] at o1
    rw [nI_add, nI_clamp (by omega)]
    refine ⟨vp_in_nI (by omega) (by omega), ?_⟩
    have r3' : RG c n (te c n (te c n p)) (u_I I3 103 (upd (I3 103) (5 + k) (nI v))) := RG_u r3 (by decide) (by decide)
    have xx : RFR I (u_I I3 103 (upd (I3 103) (5 + k) (nI v))) := RFR_tr (RFR_x (RFX_tr (RFX_t f1) x3)) (RFR_u (by omega))
    refine m206_e g3 r3' (Or.inl ⟨4, 1, o3, kC, by decide, o2, by decide, u2⟩) (fun p4 I4 A4 B4 C4 g4 r4 y10 y16 yo yB x4 y29 => q_mkV ?_) (fun I4 f4 x4 => q_mkV (h.2 _ I4 f4 (RFR_tr xx (RFR_x x4))))
    have e3 : ∀ j, j ≠ 99 → I3 j = I j := fun j hj => by rw [RFX_o x3 hj, RFT_o f1 hj]
    have a8 : A4 8 = upd (A 8) k (nI v) := by rw [yo 8 (by decide), o1 8 (by decide), u_I_eq, ko 8 (by decide)]
    have ao : ∀ j, j ≠ 1 → j ≠ 8 → A4 j = A j := fun j h1 h8 => by rw [yo j h1, o1 j h1, u_I_ne h8, ko j h1]
    have i103 : I4 103 = upd (I 103) (5 + k) (nI v) := by rw [RFX_o x4 (by decide), u_I_eq, e3 103 (by decide)]
    refine h.1 _ p4 I4 A4 B4 C4 T g4 r4 y10 (DT_e hdt (fun j hj => ?_) ?_ ?_ (fun j hj => ao j (by omega) (by omega)) (fun j hj => ?_) ?_) ?_ (RFR_tr xx (RFR_x x4)) (Or.inr ⟨rfl, k, by omega, hfr, rfl⟩)
    · rw [RFX_o x4 (by omega), u_I_ne (by omega), e3 j (by omega)]
    · rw [i103, upd_ne (by omega)]
    · rw [y29, u_I_ne (by decide), x3.2 29 (by decide) (by decide) (by decide) (by decide) (by decide) (by decide) (by decide), f1.2 29 (by decide) (by decide) (by decide) (by decide) (by decide)]
    · rw [yB j (by omega), o5 j (by omega), kB j (by omega)]
    · obtain ⟨s1, s2, s3, s4, s5⟩ := hdt.2.1
      have i104 : I4 104 = I 104 := by rw [RFX_o x4 (by decide), u_I_ne (by decide), e3 104 (by decide)]
      have hc : k = 0 ∨ k = 1 ∨ k = 2 ∨ k = 3 := by omega
      refine ⟨fun j hj => ?_, fun j hj => ?_, ?_, ?_, ?_⟩
      · rw [a8, i103]
        by_cases e : j = k
        · rw [e, upd_eq, upd_eq]
        · rw [upd_ne e, upd_ne (by omega)]; exact s1 j hj
      · rw [ao 7 (by decide) (by decide), i104]; exact s2 j hj
      · rw [i103]
        by_cases e : k = 0
        · subst e
          exact ⟨v, l1, l2, upd_eq⟩
        · rw [upd_ne (by omega)]; exact s3
      · rw [i103]
        by_cases e : k = 2
        · subst e
          exact ⟨v, l1, l2, upd_eq⟩
        · rw [upd_ne (by omega)]; exact s4
      · rw [i103]
        by_cases e : k = 3
        · subst e
          exact ⟨v, l1, l2, upd_eq⟩
        · rw [upd_ne (by omega)]; exact s5
    · rw [y16, o4 16 (by omega), k16]; exact BDN_s hbd hk
  · rw [nI_add, nI_clamp (by omega)]
    refine ⟨vp_in_nI (by omega) (by omega), m206_f (FL_ne (FL_u f3 (by decide))) (q_mkV (h.2 _ _ (FL_u f3 (by decide)) ?_))⟩
    exact RFR_tr (RFR_x (RFX_tr (RFX_t f1) x3)) (RFR_u (by omega))
/-- a cell -/
theorem m194_cell {T : Nat} {x1 x2 : Int32} (hg : GO Z A0 B0 C0 c n E p A B C) (hr : RG c n p I) (h10 : A 1 10 = nI 0) (t1 : tkd c n p = 1) (hw : isw c (tb c n p) (te c n p) 4) (hdt : DT T I A B) (hbd : BDN x1 (A 1 16)) (h : KCL Z A0 B0 C0 c n E T x1 I J S Q) :
    am_cl 190 [.ref 99] E I J S (q_V fun E5 I5 J5 S5 => am_cl 199 [.ref 99, .int (nI 0), .int (nI 15)] E5 I5 J5 S5 (q_I fun v6 E6 I6 J6 S6 => ((x1 &&& ((nI 16) <<< (v6 &&& 31))) = 0 →
              ((((I6 99) 22) = 0 →
                (am_cl 190 [.ref 99] E6 I6 J6 S6 (q_V fun E7 I7 J7 S7 => am_ww 194 107 [.ref 99, .int x1, .int x2, .int ((nI 16) <<< (v6 &&& 31)), .int v6] [] E7 I7 J7 S7 Q)))
              ∧ (¬ ((I6 99) 22) = 0 →
                (am_ww 194 107 [.ref 99, .int x1, .int x2, .int ((nI 16) <<< (v6 &&& 31)), .int v6] [] E6 I6 J6 S6 Q))))
            ∧ (¬ (x1 &&& ((nI 16) <<< (v6 &&& 31))) = 0 →
              ((((I6 99) 22) = 0 →
                (am_ww 194 107 [.ref 99, .int x1, .int x2, .int ((nI 16) <<< (v6 &&& 31)), .int v6] [] E6 (u_I I6 99 (upd (upd (I6 99) 22 (nI 5)) 23 ((I6 99) 20))) J6 S6 Q))
              ∧ (¬ ((I6 99) 22) = 0 →
                ((((I6 99) 22) = 0 →
                  (am_cl 190 [.ref 99] E6 I6 J6 S6 (q_V fun E8 I8 J8 S8 => am_ww 194 107 [.ref 99, .int x1, .int x2, .int ((nI 16) <<< (v6 &&& 31)), .int v6] [] E8 I8 J8 S8 Q)))
                ∧ (¬ ((I6 99) 22) = 0 →
                  (am_ww 194 107 [.ref 99, .int x1, .int x2, .int ((nI 16) <<< (v6 &&& 31)), .int v6] [] E6 I6 J6 S6 Q))))))) ) := by
  have hp := hg.2.2.2.2
  obtain ⟨u1, u2, u3, u4, u5, u6, u7⟩ := du_4
  refine m190s hr hp (fun I1 r1 f1 => q_mkV ?_)
  obtain ⟨A2, B2, C2, g2, k10, k12, k13, k16, kC, ko, kB⟩ := GO_acc (X := fun A2 B2 C2 => A2 1 10 = nI 1 ∧ A2 1 12 = nI 0 ∧ A2 1 13 = 0 ∧ A2 1 16 = A 1 16 ∧ C2 1 11 = some 3 ∧ (∀ j, j ≠ 1 → A2 j = A j) ∧ (∀ j, j ≠ 1 → B2 j = B j)) hg (by omega) (fun A1 B1 tg => by
    have tf := TG_f tg
    refine ⟨xpI A1 3, B1, xpS C 3, t0_cell ((tf 10 (by decide)).trans h10) (tg.2.2.2.2.2.1 t1).1 (TG_w tg t1 (by decide) hw), xpI_1.2.2.2 5 (by decide) (by decide) (by decide), ⟨fun j hj => xpI_o (by omega), fun _ _ => rfl, fun j hj => xpS_o hj⟩, ?_, xpI_1.1, xpI_1.2.1, ?_, xpS_1, fun j hj => ?_, tg.2.2.1⟩
    · rw [xpI_1.2.2.1, u7, if_neg (by decide)]
    · rw [xpI_1.2.2.2 16 (by decide) (by decide) (by decide)]; exact tf 16 (by decide)
    · rw [xpI_o hj]; exact TG_o tg j hj)
  have hp2 := g2.2.2.2.2
  have xx1 : RFR I I1 := RFR_x (RFX_t f1)
  have bad : ∀ k, FL Z A0 B0 C0 E (wr I1 k) → (¬ wr I1 k 99 22 = 0) → q_I (fun v6 E6 I6 J6 S6 => ((x1 &&& ((nI 16) <<< (v6 &&& 31))) = 0 →
              ((((I6 99) 22) = 0 →
                (am_cl 190 [.ref 99] E6 I6 J6 S6 (q_V fun E7 I7 J7 S7 => am_ww 194 107 [.ref 99, .int x1, .int x2, .int ((nI 16) <<< (v6 &&& 31)), .int v6] [] E7 I7 J7 S7 Q)))
              ∧ (¬ ((I6 99) 22) = 0 →
                (am_ww 194 107 [.ref 99, .int x1, .int x2, .int ((nI 16) <<< (v6 &&& 31)), .int v6] [] E6 I6 J6 S6 Q))))
            ∧ (¬ (x1 &&& ((nI 16) <<< (v6 &&& 31))) = 0 →
              ((((I6 99) 22) = 0 →
                (am_ww 194 107 [.ref 99, .int x1, .int x2, .int ((nI 16) <<< (v6 &&& 31)), .int v6] [] E6 (u_I I6 99 (upd (upd (I6 99) 22 (nI 5)) 23 ((I6 99) 20))) J6 S6 Q))
              ∧ (¬ ((I6 99) 22) = 0 →
                ((((I6 99) 22) = 0 →
                  (am_cl 190 [.ref 99] E6 I6 J6 S6 (q_V fun E8 I8 J8 S8 => am_ww 194 107 [.ref 99, .int x1, .int x2, .int ((nI 16) <<< (v6 &&& 31)), .int v6] [] E8 I8 J8 S8 Q)))
                ∧ (¬ ((I6 99) 22) = 0 →
                  (am_ww 194 107 [.ref 99, .int x1, .int x2, .int ((nI 16) <<< (v6 &&& 31)), .int v6] [] E6 I6 J6 S6 Q)))))))
      (.inl (some (.int (nI 0)))) E (wr I1 k) J S := by
    intro k hf hn
    have fin : am_ww 194 107 [.ref 99, .int x1, .int x2, .int ((nI 16) <<< (nI 0 &&& 31)), .int (nI 0)] [] E (wr I1 k) J S Q := m194_107f (k := 0) rfl rfl (by decide) hf (fun v I' f' x' => h.2 v I' f' (RFR_tr xx1 (RFR_tr (RFR_x RFX_w) x')))
    exact q_mkI ⟨fun _ => ⟨fun z => absurd z hn, fun _ => fin⟩, fun _ => ⟨fun z => absurd z hn, fun _ => ⟨fun z => absurd z hn, fun _ => fin⟩⟩⟩
  refine m199 (lo := 0) (hi := 15) r1 hp2 (by decide) (by decide) (fun v t2 h4 ev v9 _ l2 => q_mkI ?_) (fun t2 ho => bad 2 ?_ (wr_22 (by decide) (by decide))) (fun t2 => bad 1 ?_ (wr_22 (by decide) (by decide)))
  · have hv : v < 16 := by omega
    have ebit : x1 &&& (nI 16 <<< (nI v &&& 31)) = 0 ↔ bt x1 (v + 4) = false := by rw [bt_16 v hv, bt_and (by omega)]
    have etold : bt x1 (v + 4) = bt (A 1 16) (8 + v) := by rw [Nat.add_comm]; exact hbd.2 v hv
    have e7 : ∀ A1 B1, TG c n (te c n p) A2 A1 B2 B1 → A1 1 6 = nI 3 ∧ A1 1 7 = nI v := fun A1 B1 tg => by
      refine ⟨(tg.2.2.2.2.2.2.1 t2).1, ?_⟩
      rw [(tg.2.2.2.2.2.2.1 t2).2, ev]
      unfold cv
      rw [if_pos h4]
    rw [ebit]
    refine ⟨fun hf => ⟨fun _ => ?_, fun z => absurd r1.2.2 z⟩, fun hf => ⟨fun _ => ?_, fun z => absurd r1.2.2 z⟩⟩
    · obtain ⟨A3, B3, C3, g3, e3, y10, y12, y13, y15, y16, yo, yB⟩ := GO_acc (X := fun A3 B3 C3 => C3 = C2 ∧ A3 1 10 = nI 1 ∧ A3 1 12 = nI 1 ∧ A3 1 13 = 0 ∧ A3 1 15 = nI v ∧ A3 1 16 = (A 1 16 ||| (nI 1 <<< (nI (8 + v) &&& 31))) ∧ (∀ j, j ≠ 1 → A3 j = A2 j) ∧ (∀ j, j ≠ 1 → B3 j = B2 j)) g2 (by omega) (fun A1 B1 tg => by
        have tf := TG_f tg
        obtain ⟨q6, q7⟩ := e7 A1 B1 tg
        refine ⟨u_I A1 1 (upd (upd (upd (A1 1) 16 (A1 1 16 ||| (nI 1 <<< (nI (8 + v) &&& 31)))) 15 (nI v)) 12 (nI 1)), B1, C2, (t1_C ((tf 10 (by decide)).trans k10) kC ((tf 12 (by decide)).trans k12) q6 q7 hv).1 (by rw [tf 16 (by decide), k16, ← etold]; exact hf), ?_, ⟨fun j hj => u_I_ne (by omega), fun _ _ => rfl, fun _ _ => rfl⟩, rfl, ?_, ?_, ?_, ?_, ?_, fun j hj => ?_, tg.2.2.1⟩
        · rw [u_I_eq, upd_ne (by decide), upd_ne (by decide), upd_ne (by decide)]
        · rw [u_I_eq, upd_ne (by decide), upd_ne (by decide), upd_ne (by decide), tf 10 (by decide)]; exact k10
        · rw [u_I_eq, upd_eq]
        · rw [u_I_eq, upd_ne (by decide), upd_ne (by decide), upd_ne (by decide), tf 13 (by decide)]; exact k13
        · rw [u_I_eq, upd_ne (by decide), upd_eq]
        · rw [u_I_eq, upd_ne (by decide), upd_ne (by decide), upd_eq, tf 16 (by decide), k16]
        · rw [u_I_ne hj]; exact TG_o tg j hj)
      subst e3
      refine m190s r1 hp2 (fun I3 r3 f3 => q_mkV ?_)
      apply g194_107 rfl
      rw [nI_add, nI_clamp (by omega)]
      have e3 : ∀ j, j ≠ 99 → I3 j = I j := fun j hj => by rw [RFT_o f3 hj, RFT_o f1 hj]
      have xx3 : RFR I I3 := RFR_tr xx1 (RFR_x (RFX_t f3))
      refine m210s (q := 3) (s := 1) (d := 119) (sj := v) (r := 0) g3 r3 y10 kC (by decide) y12 (by decide) u4 (by decide) y13 (fun _ => ⟨y15, hv⟩) (fun z => absurd rfl z) (fun x I4 p4 A4 B4 g4 r4 x4 ox => q_mkI ⟨vp_in_nI (by omega) (by omega), ?_⟩) (fun x I4 f4 x4 => q_mkI ⟨vp_in_nI (by omega) (by omega), ?_⟩)
      · obtain ⟨o1, o2, o3, o4, o5⟩ := ox
        rw [u7, if_pos (by decide)] at o3
        unfold opw at o1
        rw [if_pos rfl] at o1
        have xx4 : RFR I (u_I I4 104 (upd (I4 104) (16 + v) x)) := RFR_tr xx3 (RFR_tr (RFR_x x4) (RFR_u (by omega)))
        refine m206_e g4 (RG_u r4 (by decide) (by decide)) (Or.inl ⟨3, 2, o3, kC, by decide, o2, by decide, u5⟩) (fun p6 I6 A6 B6 C6 g6 r6 z10 z16 zo zB x6 z29 => q_mkV ?_) (fun I6 f6 x6 => q_mkV (h.2 _ I6 f6 (RFR_tr xx4 (RFR_x x6))))
        have e4 : ∀ j, j ≠ 99 → I4 j = I j := fun j hj => by rw [RFX_o x4 hj, e3 j hj]
        have a7 : A6 7 = upd (A 7) v x := by rw [zo 7 (by decide), o1 7 (by decide), u_I_eq, yo 7 (by decide), ko 7 (by decide)]
        have ao : ∀ j, j ≠ 1 → j ≠ 7 → A6 j = A j := fun j h1 h7 => by rw [zo j h1, o1 j h1, u_I_ne h7, yo j h1, ko j h1]
        have i104 : I6 104 = upd (I 104) (16 + v) x := by rw [RFX_o x6 (by decide), u_I_eq, e4 104 (by decide)]
        have i103 : I6 103 = I 103 := by rw [RFX_o x6 (by decide), u_I_ne (by decide), e4 103 (by decide)]
        refine h.1 _ p6 I6 A6 B6 C6 T g6 r6 z10 (DT_e hdt (fun j hj => ?_) (by rw [i103]) ?_ (fun j hj => ao j (by omega) (by omega)) (fun j hj => ?_) ?_) ?_ (RFR_tr xx4 (RFR_x x6)) (Or.inr ⟨rfl, v + 4, by omega, hf, by rw [bt_16 v hv]⟩)
        · rw [RFX_o x6 (by omega), u_I_ne (by omega), e4 j (by omega)]
        · rw [z29, u_I_ne (by decide), x4.2 29 (by decide) (by decide) (by decide) (by decide) (by decide) (by decide) (by decide), f3.2 29 (by decide) (by decide) (by decide) (by decide) (by decide), f1.2 29 (by decide) (by decide) (by decide) (by decide) (by decide)]
        · rw [zB j (by omega), o5 j (by omega), yB j (by omega), kB j (by omega)]
        · obtain ⟨s1, s2, s3⟩ := hdt.2.1
          refine ⟨fun j hj => ?_, fun j hj => ?_, ?_⟩
          · rw [ao 8 (by decide) (by decide), i103]; exact s1 j hj
          · rw [a7, i104]
            by_cases e : j = v
            · rw [e, upd_eq, upd_eq]
            · rw [upd_ne e, upd_ne (by omega)]; exact s2 j hj
          · rw [i103]; exact s3
        · rw [z16, o4 16 (by omega), y16, bt_16 v hv]; exact BDN_c hbd hv
      · refine m206_f (FL_ne (FL_u f4 (by decide))) (q_mkV (h.2 _ _ (FL_u f4 (by decide)) ?_))
        exact RFR_tr xx3 (RFR_tr (RFR_x x4) (RFR_u (by omega)))
    · have ht : bt x1 (v + 4) = true := by
        cases hb : bt x1 (v + 4)
        · exact absurd hb hf
        · rfl
      refine m194_107f (k := v) rfl rfl hv (I := wr I1 5) ?_ (fun w I' f' x' => h.2 w I' f' (RFR_tr xx1 (RFR_tr (RFR_x RFX_w) x')))
      refine FL_w r1 hp2 (by decide) (by decide) (GO_rej g2 (fun z => by omega) (by decide) (by decide) (fun A1 B1 tg t0 => ⟨A1, B1, C2, ?_, rfl, CF_id⟩))
      have tf := TG_f tg
      obtain ⟨q6, q7⟩ := e7 A1 B1 tg
      exact (t1_C ((tf 10 (by decide)).trans k10) kC ((tf 12 (by decide)).trans k12) q6 q7 hv).2 (by rw [tf 16 (by decide), k16, ← etold]; exact ht)
  · refine FL_w r1 hp2 (by decide) (by decide) (GO_rej g2 (fun z => by omega) (by decide) (by decide) (fun A1 B1 tg t0 => ⟨A1, B1, C2, ?_, rfl, CF_id⟩))
    have tf := TG_f tg
    have e7 := (tg.2.2.2.2.2.2.1 t2).2
    refine t1_over (q := 3) (s := 0) (sj := 0) ((tf 10 (by decide)).trans k10) kC (by decide) ((tf 12 (by decide)).trans k12) (by decide) (by rw [u3]; decide) (tg.2.2.2.2.2.2.1 t2).1 (by rw [u3]; exact fun z => absurd z (by decide)) ?_
    unfold cv at e7
    rcases ho with z | ⟨z, z9, z2⟩
    · rw [if_neg (by omega)] at e7
      exact Or.inl e7
    · rw [if_pos z] at e7
      refine Or.inr ⟨_, by omega, e7, ?_⟩
      rw [u3]
      intro q
      have := q.1 rfl
      omega
  · refine FL_w r1 hp2 (by decide) (by decide) (GO_rej g2 (fun z => ⟨rfl, by rw [k10]; decide⟩) (by decide) (by decide) (fun A1 B1 tg t0 => ⟨A1, B1, C2, ?_, rfl, CF_id⟩))
    have tf := TG_f tg
    refine t1_bad (q := 3) (s := 0) ((tf 10 (by decide)).trans k10) kC (by decide) ((tf 12 (by decide)).trans k12) (by decide) (by rw [u3]; decide) (fun _ _ => by rw [u3]; decide) (fun z => t2 ((TG_6 tg t0).2.1.mp z))
theorem m194 {T : Nat} {x1 : Int32} (hg : GO Z A0 B0 C0 c n E p A B C) (hr : RG c n p I) (hS : SW S) (h10 : A 1 10 = nI 0) (t0 : tkd c n p ≠ 0) (hdt : DT T I A B) (hbd : BDN x1 (A 1 16)) (h : KCL Z A0 B0 C0 c n E T x1 I J S Q) : am_cl 194 [.ref 99, .int x1] E I J S Q := by
  have hp := hg.2.2.2.2
  have hn := hr.1.1
  have b2 := te_n (c := c) hp
  have b3 := tk_5 (c := c) (n := n) (p := p)
  have e22 := hr.2.2
  have e18 : I 99 18 = nI 1 ↔ tkd c n p = 1 := by rw [hr.2.1.2.2.2.1, nI_eq (by omega) (by omega)]
  show am_ww 194 0 [.ref 99, .int x1, am_U, am_U, am_U] [] E I J S Q
  apply g194_0
  refine m195_100 (fun j hj => by rw [Nat.zero_add]; exact hS.1 j hj) hr.1 hr.2.1.1 hr.2.1.2.2.1 b2.2 b2.1 (fun v hv => q_mkI ?_)
  intro w ew
  have rej : ¬ tkd c n p = 1 → am_ww 194 28 [.ref 99, .int x1, .int v, .int w, am_U] [] E (wr I 1) J S Q := by
    intro t1
    refine m194_28f rfl (wr_22 (by decide) (by decide)) (h.2 _ _ ?_ (RFR_x RFX_w))
    refine FL_w hr hp (by decide) (by decide) (GO_rej hg (fun z => absurd z t0) (by decide) (by decide) (fun A1 B1 tg t0 => ⟨A1, B1, C, t0_bad ((TG_f tg 10 (by decide)).trans h10) (fun z => absurd ((TG_6 tg t0).1.mp z) t1), rfl, CF_id⟩))
  refine ⟨fun t1 => ?_, fun t1 => ⟨fun _ => ⟨fun _ => rej (fun z => t1 (e18.mpr z)), fun _ => rej (fun z => t1 (e18.mpr z))⟩, fun z => absurd e22 z⟩⟩
  have t1' := e18.mp t1
  rcases hv with ⟨k, k1, k2, e⟩ | ⟨hno, e⟩
  · rw [Nat.zero_add] at k2
    rw [e, if_neg (nI_nm (by omega))] at ew
    rw [e, ew, bt_and (by omega)]
    refine ⟨fun hf => m194_set hg hr h10 t1' k1 k2.2.2 hdt hbd hf h, fun hf => ⟨fun _ => ?_, fun z => absurd e22 z⟩⟩
    have ht : bt x1 k = true := by
      cases hb : bt x1 k
      · exact absurd hb hf
      · rfl
    refine m194_28f rfl (wr_22 (k := 5) (by decide) (by decide)) (h.2 _ _ ?_ (RFR_x RFX_w))
    refine FL_w hr hp (by decide) (by decide) (GO_rej hg (fun z => absurd z t0) (by decide) (by decide) (fun A1 B1 tg t0 => ⟨A1, B1, C, t0_again ((TG_f tg 10 (by decide)).trans h10) (tg.2.2.2.2.2.1 t1').1 (TG_w tg t1' (by omega) k2.2.2) k1 (by rw [TG_f tg 16 (by decide), ← hbd.1 k k1]; exact ht), rfl, CF_id⟩))
  · rw [e, if_pos rfl] at ew
    rw [e, ew]
    refine ⟨fun _ => ?_, fun z => absurd (and_z x1) z⟩
    apply g194_28 rfl
    refine ⟨fun _ => ⟨fun _ => ?_, fun z => absurd rfl z⟩, fun z => absurd e22 z⟩
    refine m196 (k := 5) (by decide) hr.1 hr.2.1.1 hr.2.1.2.2.1 b2.2 b2.1 (fun hm => q_mkI ⟨fun z => absurd z (by decide), fun _ => ?_⟩) (fun hm5 => q_mkI ⟨fun _ => ?_, fun z => absurd rfl z⟩)
    · refine m200 hg hr hS h10 t1' hm.2.2 hdt (fun p2 I2 A2 B2 C2 hT4 g2 r2 y10 n44 dt2 y16 x2 => q_mkV ?_) (fun I2 f2 x2 => q_mkV (m206_f (FL_ne f2) (q_mkV (h.2 _ I2 f2 x2))))
      rw [or_z]
      refine m206_e g2 r2 (Or.inr ⟨y10, n44⟩) (fun p4 I4 A4 B4 C4 g4 r4 z10 z16 zo zB x4 z29 => q_mkV ?_) (fun I4 f4 x4 => q_mkV (h.2 _ I4 f4 (RFR_tr x2 (RFR_x x4))))
      refine h.1 _ p4 I4 A4 B4 C4 (T + 1) g4 r4 z10 (DT_e dt2 (fun j hj => RFX_o x4 (by omega)) (by rw [RFX_o x4 (by decide)]) z29 (fun j hj => zo j (by omega)) (fun j hj => zB j (by omega)) (DS_e dt2.2.1 (RFX_o x4 (by decide)) (RFX_o x4 (by decide)) (zo 7 (by decide)) (zo 8 (by decide)))) (by rw [z16, y16]; exact hbd) (RFR_tr x2 (RFR_x x4)) (Or.inl ⟨rfl, rfl⟩)
    · refine m196 (k := 4) (by decide) hr.1 hr.2.1.1 hr.2.1.2.2.1 b2.2 b2.1 (fun hm => q_mkI ⟨fun z => absurd z (by decide), fun _ => ?_⟩) (fun hm4 => q_mkI ⟨fun _ => ⟨fun _ => ?_, fun z => absurd e22 z⟩, fun z => absurd rfl z⟩)
      · exact m194_cell (x2 := -1) hg hr h10 t1' hm.2.2 hdt hbd h
      · have hf : FL Z A0 B0 C0 E (wr I 1) := by
          refine FL_w hr hp (by decide) (by decide) (GO_rej hg (fun z => absurd z t0) (by decide) (by decide) (fun A1 B1 tg t0 => ⟨A1, B1, C, t0_bad ((TG_f tg 10 (by decide)).trans h10) (fun _ => ?_), rfl, CF_id⟩))
          obtain ⟨_, w, _⟩ := tg.2.2.2.2.2.1 t1'
          rcases w with ⟨k, k1, k2, ek⟩ | ⟨w, ek⟩
          · refine Or.inr ⟨k, ?_, k1, ek⟩
            refine Nat.le_of_not_lt (fun k6 => ?_)
            by_cases k4 : k < 4
            · exact hno k k4 ⟨e22, t1, by rw [Nat.zero_add]; exact k2⟩
            · have hc : k = 4 ∨ k = 5 := by omega
              rcases hc with e | e <;> subst e
              · exact hm4 ⟨e22, t1, k2⟩
              · exact hm5 ⟨e22, t1, k2⟩
          · exact Or.inl ek
        exact m206_f (FL_ne hf) (q_mkV (h.2 _ _ hf (RFR_x RFX_w)))
end
