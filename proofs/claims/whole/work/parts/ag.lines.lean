/-! a program on both sides while it is read; a line -/
def LNc (I A : Nat → Nat → Int32) (B : Nat → Nat → Int64) (r : Nat) : Prop := ∃ o, o < 13 ∧ A 4 r = nI (o + 6) ∧ I 106 (64 + r) = nI o ∧ OPN o r I A ∧ (o = 9 ∨ o = 10 ∨ o = 11 → ¬ B 10 r = lN 0 ∧ ¬ A 11 r = -1) ∧ (o ≠ 9 → o ≠ 10 → o ≠ 11 → B 10 r = lN 0)
def LNp (c : Nat → Nat) (n T l : Nat) (I A : Nat → Nat → Int32) (B : Nat → Nat → Int64) : Prop := ∃ o, o < 13 ∧ A 4 (16 * T + l) = nI (o + 6) ∧ I 106 (64 + (16 * T + l)) = nI o ∧ OPQ c n o (16 * T + l) l I A B ∧ LB c n I l (B 9 (16 * T + l))
/-- a thread that is read -/
def TD (I A : Nat → Nat → Int32) (B : Nat → Nat → Int64) (t : Nat) : Prop := ∃ L, L ≤ 16 ∧ A 6 t = nI L ∧ I 105 (4 + t) = nI L ∧ (∀ l, l < L → LNc I A B (16 * t + l) ∧ (¬ B 10 (16 * t + l) = lN 0 → I 109 (64 + (16 * t + l)) = cfs (B 9) t (B 10 (16 * t + l)) L 0)) ∧ ∀ l, L ≤ l → l < 16 → B 10 (16 * t + l) = lN 0
/-- the first name that is missing, among the first m rows -/
def ms (A : Nat → Nat → Int32) (B : Nat → Nat → Int64) : Nat → Int32
  | 0 => -1
  | m + 1 => if ms A B m = -1 then (if ¬ B 10 m = lN 0 ∧ cfs (B 9) (m / 16) (B 10 m) (A 6 (m / 16)).toNatClampNeg 0 = -1 then A 11 m else -1) else ms A B m
def DS (I A : Nat → Nat → Int32) : Prop := (∀ k, k < 4 → A 8 k = I 103 (5 + k)) ∧ (∀ k, k < 16 → A 7 k = I 104 (16 + k)) ∧ (∃ q, 1 ≤ q ∧ q ≤ 9 ∧ I 103 5 = nI q) ∧ (∃ q, 1 ≤ q ∧ q ≤ 50 ∧ I 103 7 = nI q) ∧ (∃ q, 2 ≤ q ∧ q ≤ 8 ∧ I 103 8 = nI q)
def DX (T : Nat) (I A : Nat → Nat → Int32) (B : Nat → Nat → Int64) : Prop := T ≤ 4 ∧ I 103 9 = nI T ∧ (∀ t, t < T → TD I A B t) ∧ I 99 29 = ms A B (16 * T)
def DT (T : Nat) (I A : Nat → Nat → Int32) (B : Nat → Nat → Int64) : Prop := DX T I A B ∧ DS I A ∧ A 3 5 = nI T ∧ (∀ t, T ≤ t → t < 4 → A 6 t = nI 0) ∧ (∀ r, 16 * T ≤ r → r < 64 → B 9 r = lN 0 ∧ B 10 r = lN 0)
def DP (c : Nat → Nat) (n T l : Nat) (I A : Nat → Nat → Int32) (B : Nat → Nat → Int64) : Prop := (T < 4 ∧ l ≤ 16) ∧ DX T I A B ∧ DS I A ∧ A 3 5 = nI (T + 1) ∧ A 6 T = nI l ∧ (∀ i, i < l → LNp c n T i I A B) ∧ (∀ t, T < t → t < 4 → A 6 t = nI 0) ∧ (∀ r, 16 * T + l ≤ r → r < 64 → B 9 r = lN 0 ∧ B 10 r = lN 0)
/-- a row is the same -/
def RE (r : Nat) (I I' A A' : Nat → Nat → Int32) (B B' : Nat → Nat → Int64) : Prop := A' 4 r = A 4 r ∧ A' 5 (r * 3 + 0) = A 5 (r * 3 + 0) ∧ A' 5 (r * 3 + 1) = A 5 (r * 3 + 1) ∧ A' 11 r = A 11 r ∧ I' 106 (64 + r) = I 106 (64 + r) ∧ I' 107 (64 + r) = I 107 (64 + r) ∧ I' 108 (64 + r) = I 108 (64 + r) ∧ I' 109 (64 + r) = I 109 (64 + r) ∧ B' 9 r = B 9 r ∧ B' 10 r = B 10 r
section
variable {I I' A A' : Nat → Nat → Int32} {B B' : Nat → Nat → Int64}
theorem LNc_e {r : Nat} (e : RE r I I' A A' B B') (h : LNc I A B r) : LNc I' A' B' r := by
  obtain ⟨e1, e2, e3, e4, e5, e6, e7, e8, e9, e10⟩ := e
  unfold LNc OPN at *
  rw [e1, e2, e3, e4, e5, e6, e7, e10]
  exact h
theorem TD_e {t : Nat} (h : TD I A B t) (h6 : A' 6 t = A 6 t) (h5 : I' 105 (4 + t) = I 105 (4 + t)) (hrow : ∀ r, 16 * t ≤ r → r < 16 * t + 16 → RE r I I' A A' B B') : TD I' A' B' t := by
  obtain ⟨L, a1, a2, a3, a4, a5⟩ := h
  refine ⟨L, a1, h6.trans a2, h5.trans a3, fun l hl => ?_, fun l h1 h2 => ?_⟩
  · have e := hrow (16 * t + l) (by omega) (by omega)
    refine ⟨LNc_e e (a4 l hl).1, ?_⟩
    rw [e.2.2.2.2.2.2.2.2.2, e.2.2.2.2.2.2.2.1, cfs_e L 0 (fun j h1 h2 => (hrow (16 * t + j) (by omega) (by omega)).2.2.2.2.2.2.2.2.1)]
    exact (a4 l hl).2
  · rw [(hrow (16 * t + l) (by omega) (by omega)).2.2.2.2.2.2.2.2.2]
    exact a5 l h1 h2
theorem ms_e {T : Nat} (hT : ∀ t, t < T → TD I A B t) (h6 : ∀ t, t < T → A' 6 t = A 6 t) (hrow : ∀ r, r < 16 * T → RE r I I' A A' B B') : ∀ m, m ≤ 16 * T → ms A' B' m = ms A B m := by
  intro m
  induction m with
  | zero => intro _; rfl
  | succ m ih =>
    intro hm
    have e := hrow m (by omega)
    obtain ⟨L, a1, a2, _⟩ := hT (m / 16) (by omega)
    have ec : cfs (B' 9) (m / 16) (B 10 m) (A 6 (m / 16)).toNatClampNeg 0 = cfs (B 9) (m / 16) (B 10 m) (A 6 (m / 16)).toNatClampNeg 0 := by
      rw [a2, nI_clamp (by omega)]
      exact cfs_e L 0 (fun j h1 h2 => (hrow (16 * (m / 16) + j) (by omega)).2.2.2.2.2.2.2.2.1)
    unfold ms
    rw [ih (by omega), e.2.2.2.2.2.2.2.2.2, e.2.2.2.1, h6 (m / 16) (by omega), ec]
theorem DX_e {T : Nat} (h : DX T I A B) (h9 : I' 103 9 = I 103 9) (h29 : I' 99 29 = I 99 29) (h5 : ∀ t, t < T → I' 105 (4 + t) = I 105 (4 + t)) (h6 : ∀ t, t < T → A' 6 t = A 6 t) (hrow : ∀ r, r < 16 * T → RE r I I' A A' B B') : DX T I' A' B' := by
  obtain ⟨a1, a2, a3, a4⟩ := h
  refine ⟨a1, h9.trans a2, fun t ht => TD_e (a3 t ht) (h6 t ht) (h5 t ht) (fun r h1 h2 => hrow r (by omega)), ?_⟩
  rw [h29, ms_e a3 h6 hrow _ (Nat.le_refl _)]
  exact a4
theorem DS_e (h : DS I A) (h3 : I' 103 = I 103) (h4 : I' 104 = I 104) (h7 : A' 7 = A 7) (h8 : A' 8 = A 8) : DS I' A' := by
  unfold DS at *
  rw [h3, h4, h7, h8]
  exact h
def LGI (r l : Nat) (I I' : Nat → Nat → Int32) : Prop := (∀ k, k ≠ 99 → k ≠ 106 → k ≠ 107 → k ≠ 108 → (k < 112 ∨ 115 < k) → I' k = I k) ∧ (∀ j, j ≠ 64 + r → I' 106 j = I 106 j ∧ I' 107 j = I 107 j ∧ I' 108 j = I 108 j) ∧ (∀ j, j ≠ l → I' 112 j = I 112 j ∧ I' 113 j = I 113 j ∧ I' 114 j = I 114 j ∧ I' 115 j = I 115 j) ∧ (∀ k, k ≠ 16 → k ≠ 18 → k ≠ 19 → k ≠ 20 → k ≠ 21 → k ≠ 22 → k ≠ 23 → I' 99 k = I 99 k)
theorem LGI_tr {r l : Nat} {I'' : Nat → Nat → Int32} (h : LGI r l I I') (h' : LGI r l I' I'') : LGI r l I I'' := by
  obtain ⟨a1, a2, a3, a4⟩ := h
  obtain ⟨b1, b2, b3, b4⟩ := h'
  refine ⟨fun k x1 x2 x3 x4 x5 => (b1 k x1 x2 x3 x4 x5).trans (a1 k x1 x2 x3 x4 x5), fun j hj => ?_, fun j hj => ?_, fun k x1 x2 x3 x4 x5 x6 x7 => (b4 k x1 x2 x3 x4 x5 x6 x7).trans (a4 k x1 x2 x3 x4 x5 x6 x7)⟩
  · obtain ⟨p1, p2, p3⟩ := a2 j hj
    obtain ⟨q1, q2, q3⟩ := b2 j hj
    exact ⟨q1.trans p1, q2.trans p2, q3.trans p3⟩
  · obtain ⟨p1, p2, p3, p4⟩ := a3 j hj
    obtain ⟨q1, q2, q3, q4⟩ := b3 j hj
    exact ⟨q1.trans p1, q2.trans p2, q3.trans p3, q4.trans p4⟩
theorem LGI_f {r l : Nat} (h : LFI r l I I') : LGI r l I I' := by
  obtain ⟨a1, a2, a3, a4⟩ := h
  refine ⟨fun k x1 x2 x3 x4 x5 => a1 k x1 x3 x4 (by omega) (by omega), fun j hj => ⟨?_, a2 j hj⟩, fun j hj => ⟨?_, ?_, a3 j hj⟩, a4⟩
  · rw [a1 106 (by decide) (by decide) (by decide) (by decide) (by decide)]
  · rw [a1 112 (by decide) (by decide) (by decide) (by decide) (by decide)]
  · rw [a1 113 (by decide) (by decide) (by decide) (by decide) (by decide)]
theorem LGI_x {r l : Nat} (h : RFX I I') : LGI r l I I' := LGI_f (LFI_x h)
theorem LGI_6 {r l : Nat} {x : Int32} : LGI r l I (u_I I 106 (upd (I 106) (64 + r) x)) := by
  refine ⟨fun k _ h _ _ _ => u_I_ne h, fun j hj => ?_, fun j hj => ?_, fun k _ _ _ _ _ _ _ => by rw [u_I_ne (by decide)]⟩
  · rw [u_I_eq, upd_ne hj, u_I_ne (by decide), u_I_ne (by decide)]
    exact ⟨rfl, rfl, rfl⟩
  · rw [u_I_ne (by decide), u_I_ne (by decide), u_I_ne (by decide), u_I_ne (by decide)]
    exact ⟨rfl, rfl, rfl, rfl⟩
theorem LGI_n {r l k : Nat} {x : Int32} (hk : 112 ≤ k ∧ k ≤ 115) : LGI r l I (u_I I k (upd (I k) l x)) := by
  refine ⟨fun j _ _ _ _ h => u_I_ne (by omega), fun j hj => ?_, fun j hj => ?_, fun j _ _ _ _ _ _ _ => by rw [u_I_ne (by omega)]⟩
  · rw [u_I_ne (by omega), u_I_ne (by omega), u_I_ne (by omega)]
    exact ⟨rfl, rfl, rfl⟩
  · have hh : ∀ i, u_I I k (upd (I k) l x) i j = I i j := by
      intro i
      by_cases e : i = k
      · rw [e, u_I_eq, upd_ne hj]
      · rw [u_I_ne e]
    exact ⟨hh _, hh _, hh _, hh _⟩
def LGA (T r : Nat) (A A' : Nat → Nat → Int32) (B B' : Nat → Nat → Int64) : Prop := (∀ k, k ≠ 1 → k ≠ 4 → k ≠ 5 → k ≠ 6 → k ≠ 11 → A' k = A k) ∧ (∀ j, j ≠ r → A' 4 j = A 4 j ∧ A' 11 j = A 11 j) ∧ (∀ j, j < r * 3 ∨ r * 3 + 3 ≤ j → A' 5 j = A 5 j) ∧ (∀ j, j ≠ T → A' 6 j = A 6 j) ∧ A' 1 16 = A 1 16 ∧ (∀ j, j ≠ r → B' 9 j = B 9 j ∧ B' 10 j = B 10 j)
theorem LGA_f {T r : Nat} {A'' : Nat → Nat → Int32} {B'' : Nat → Nat → Int64} (h : LGA T r A A' B B') (h' : LFA r A' A'' B' B'') : LGA T r A A'' B B'' := by
  obtain ⟨a1, a2, a3, a4, a5, a6⟩ := h
  obtain ⟨b1, b2, b3, b4, b5, b6⟩ := h'
  refine ⟨fun k x1 x2 x3 x4 x5 => (b1 k x1 x3 x5).trans (a1 k x1 x2 x3 x4 x5), fun j hj => ⟨?_, (b3 j hj).trans (a2 j hj).2⟩, fun j hj => (b2 j hj).trans (a3 j hj), fun j hj => ?_, (b4 16 (by omega)).trans a5, fun j hj => ⟨?_, (b6 j hj).trans (a6 j hj).2⟩⟩
  · rw [b1 4 (by decide) (by decide) (by decide)]; exact (a2 j hj).1
  · rw [b1 6 (by decide) (by decide) (by decide)]; exact a4 j hj
  · rw [b5 9 (by decide) (by decide)]; exact (a6 j hj).1
theorem RE_g {T r l s : Nat} (hI : LGI r l I I') (hA : LGA T r A A' B B') (hs : s ≠ r) : RE s I I' A A' B B' := by
  obtain ⟨a1, a2, a3, a4⟩ := hI
  obtain ⟨b1, b2, b3, b4, b5, b6⟩ := hA
  refine ⟨(b2 s hs).1, b3 _ (by omega), b3 _ (by omega), (b2 s hs).2, (a2 _ (by omega)).1, (a2 _ (by omega)).2.1, (a2 _ (by omega)).2.2, ?_, (b6 s hs).1, (b6 s hs).2⟩
  rw [a1 109 (by decide) (by decide) (by decide) (by decide) (by decide)]
theorem DP_step {c : Nat → Nat} {n T l : Nat} (h : DP c n T l I A B) (hl : l < 16) (hI : LGI (16 * T + l) l I I') (hA : LGA T (16 * T + l) A A' B B') (h6 : A' 6 T = nI (l + 1)) (hn : LNp c n T l I' A' B') : DP c n T (l + 1) I' A' B' := by
  obtain ⟨⟨a1, a2⟩, a3, a4, a5, a6, a7, a8, a9⟩ := h
  have hI0 := hI
  have hA0 := hA
  obtain ⟨p1, p2, p3, p4⟩ := hI
  obtain ⟨b1, b2, b3, b4, b5, b6⟩ := hA
  refine ⟨⟨a1, by omega⟩, DX_e a3 (by rw [p1 103 (by decide) (by decide) (by decide) (by decide) (by decide)]) (p4 29 (by decide) (by decide) (by decide) (by decide) (by decide) (by decide) (by decide)) (fun t ht => by rw [p1 105 (by decide) (by decide) (by decide) (by decide) (by decide)]) (fun t ht => b4 t (by omega)) (fun r hr => RE_g hI0 hA0 (by omega)), DS_e a4 (p1 103 (by decide) (by decide) (by decide) (by decide) (by decide)) (p1 104 (by decide) (by decide) (by decide) (by decide) (by decide)) (b1 7 (by decide) (by decide) (by decide) (by decide) (by decide)) (b1 8 (by decide) (by decide) (by decide) (by decide) (by decide)), ?_, h6, fun i hi => ?_, fun t h1 h2 => ?_, fun r h1 h2 => ?_⟩
  · rw [b1 3 (by decide) (by decide) (by decide) (by decide) (by decide)]; exact a5
  · by_cases e : i = l
    · rw [e]; exact hn
    · obtain ⟨o, o1, o2, o3, ⟨o4, o5, o6⟩, o7⟩ := a7 i (by omega)
      obtain ⟨e1, e2, e3, e4, e5, e6, e7, e8, e9, e10⟩ := RE_g (s := 16 * T + i) hI0 hA0 (by omega)
      obtain ⟨f1, f2, f3, f4⟩ := p3 i e
      refine ⟨o, o1, e1.trans o2, e5.trans o3, ⟨?_, ?_, ?_⟩, ?_⟩
      · unfold OPN at *
        rw [e2, e3, e6, e7]
        exact o4
      · unfold WN at *
        rw [f3, f4, e4, e10]
        exact o5
      · rw [f4, e10]; exact o6
      · unfold LB at *
        rw [f1, f2, e9]
        exact o7
  · rw [b4 t (by omega)]; exact a8 t h1 h2
  · rw [(b6 r (by omega)).1, (b6 r (by omega)).2]; exact a9 r (by omega) h2
theorem xpI_o {q k : Nat} (hk : k ≠ 1) : xpI A q k = A k := u_I_ne hk
theorem xpI_1 {q : Nat} : xpI A q 1 12 = nI 0 ∧ xpI A q 1 13 = nI 0 ∧ xpI A q 1 10 = (if am_slen.getD q 0 = 0 then nI 5 else nI 1) ∧ ∀ k, k ≠ 10 → k ≠ 12 → k ≠ 13 → xpI A q 1 k = A 1 k := by
  unfold xpI
  refine ⟨?_, ?_, ?_, fun k a b d => ?_⟩
  · rw [u_I_eq, upd_ne (by decide), upd_ne (by decide), upd_eq]
  · rw [u_I_eq, upd_ne (by decide), upd_eq]
  · rw [u_I_eq, upd_eq]
  · rw [u_I_eq, upd_ne a, upd_ne d, upd_ne b]
theorem xpS_1 {C : Nat → Nat → Option Nat} {q : Nat} : xpS C q 1 11 = some q := rfl
theorem xpS_o {C : Nat → Nat → Option Nat} {q k : Nat} (hk : k ≠ 1) : xpS C q k = C k := by
  unfold xpS u_S
  exact if_neg hk
theorem shp_0 : ∀ o, o < 13 → (am_slen.getD (shp (o + 6)) 0 = 0 ↔ o = 12) := by decide +kernel
theorem cfs_n {F : Nat → Int64} {t m i : Nat} {x : Int64} (h : i + m < 2 ^ 31) : cfs F t x m i = -1 ↔ ∀ j, i ≤ j → j < i + m → ¬ F (16 * t + j) = x := by
  rcases cfs_v (F := F) (t := t) (x := x) m i with ⟨a, b⟩ | ⟨j, a, b, d, e, f⟩
  · exact ⟨fun _ => b, fun _ => a⟩
  · refine ⟨fun z => absurd (d.symm.trans z) (nI_nm (by omega)), fun z => absurd e (z j a b)⟩
end
section
variable {Z : am_Qt → Prop} {A0 : Nat → Nat → Int32} {B0 : Nat → Nat → Int64} {C0 : Nat → Nat → Option Nat} {c : Nat → Nat} {n : Nat} {E : am_Ev} {p : Nat} {A : Nat → Nat → Int32} {B : Nat → Nat → Int64} {C : Nat → Nat → Option Nat} {I : Nat → Nat → Int32} {J : Nat → Nat → Int64} {S : Nat → Nat → Option Nat} {Q : am_Qt}
theorem m196_f {k : Nat} (hk : k < 55) (hb : ¬ I 99 22 = 0) (h : Q (.inl (some (.int (nI 0)))) E I J S) : am_cl 196 [.ref 99, .ref (2000000 + k)] E I J S Q := by
  show am_ww 196 0 [.ref 99, .ref (2000000 + k), am_U, am_U] [] E I J S Q
  apply g196_0 hk
  refine ⟨fun z => absurd z hb, fun _ => ?_⟩
  apply g196_21 hk
  exact ⟨fun _ => ⟨Or.inl rfl, h⟩, fun z => absurd rfl z⟩
theorem m195_f (hS : SW S) (hb : ¬ I 99 22 = 0) (h : Q (.inl (some (.int (-1)))) E I J S) : am_cl 195 [.ref 99, .ref 102] E I J S Q := by
  show am_ww 195 0 [.ref 99, .ref 102, am_U] [] E I J S Q
  apply g195_0_102
  have key : ∀ m k, m + k = 13 → am_ww 195 2 [.ref 99, .ref 102, .int (nI k)] [] E I J S Q := by
    intro m
    induction m with
    | zero =>
      intro k ek
      apply g195_2_102
      rw [nI_leI (by omega) (by omega)]
      exact ⟨fun _ => h, fun z => absurd (by omega) z⟩
    | succ m ih =>
      intro k ek
      apply g195_2_102
      rw [nI_leI (by omega) (by omega), nI_clamp (by omega)]
      refine ⟨fun z => absurd z (by omega), fun _ => ⟨vp_in_nI (by omega) (by omega), _, hS.2.2 k (by omega), by omega, ?_⟩⟩
      refine m196_f (by omega) hb (q_mkI ⟨fun _ => ?_, fun z => absurd rfl z⟩)
      rw [nI_add]
      exact ih (k + 1) (by omega)
  exact key 13 0 rfl
/-- which instruction the token is -/
theorem m195n (hr : RG c n p I) (hp : p ≤ n) (hS : SW S) (hy : ∀ k, k < 13 → tkd c n p = 1 → isw c (tb c n p) (te c n p) (6 + k) → Q (.inl (some (.int (nI k)))) E I J S) (hn : ¬ (tkd c n p = 1 ∧ ∃ k, k < 13 ∧ isw c (tb c n p) (te c n p) (6 + k)) → Q (.inl (some (.int (-1)))) E I J S) : am_cl 195 [.ref 99, .ref 102] E I J S Q := by
  have b2 := te_n (c := c) hp
  have b3 := tk_5 (c := c) (n := n) (p := p)
  have e18 : I 99 18 = nI 1 ↔ tkd c n p = 1 := by rw [hr.2.1.2.2.2.1, nI_eq (by omega) (by omega)]
  refine m195_102 hS.2.2 hr.1 hr.2.1.1 hr.2.1.2.2.1 b2.2 b2.1 (fun v hv => ?_)
  rcases hv with ⟨k, k1, k2, e⟩ | ⟨h, e⟩
  · rw [e]; exact hy k k1 (e18.mp k2.2.1) k2.2.2
  · rw [e]; exact hn (fun z => by
      obtain ⟨t1, k, k1, k2⟩ := z
      exact h k k1 ⟨hr.2.2, e18.mpr t1, k2⟩)
/-- the instruction's word is taken on the class's side; the reference takes it, and the operands -/
theorem m201_72 {T l o : Nat} {d4 : Value} {I0 AA : Nat → Nat → Int32} {BB : Nat → Nat → Int64} (hd4 : am_isL d4 = false) (ho : o < 13) (hp : p ≤ n) (hg : GO Z A0 B0 C0 c n E (te c n p) A B C) (hr : RG c n p I) (hS : SW S) (h0 : DP c n T l I0 AA BB) (hl : l < 16) (hI : LGI (16 * T + l) l I0 I) (hA : LGA T (16 * T + l) AA A BB B) (h6 : A 6 T = nI (l + 1)) (h4 : A 4 (16 * T + l) = nI (o + 6)) (h10 : A 1 10 = (if o = 12 then nI 5 else nI 1)) (hC : C 1 11 = some (shp (o + 6))) (h12 : A 1 12 = nI 0) (h13 : A 1 13 = 0) (h14 : A 1 14 = nI (16 * T + l)) (hw1 : I 115 l = nI 0) (hw2 : B 10 (16 * T + l) = lN 0) (hlb : LB c n I l (B 9 (16 * T + l)))
    (hy : ∀ p' I' A' B', GO Z A0 B0 C0 c n E p' A' B' C → RG c n p' I' → A' 1 10 = nI 5 → DP c n T (l + 1) I' A' B' → A' 1 16 = AA 1 16 → LGI (16 * T + l) l I0 I' → Q (.inl none) E I' J S)
    (hb : ∀ I', FL Z A0 B0 C0 E I' → LGI (16 * T + l) l I0 I' → Q (.inl none) E I' J S) : am_ww 201 72 [.ref 99, .int (nI T), .int (nI l), .int (nI o), d4] [] E I J S Q := by
  have hT := h0.1.1
  apply g201_72 hd4
  refine ⟨fun _ => ?_, fun z => absurd hr.2.2 z⟩
  refine m190s hr hp (fun I1 r1 f1 => q_mkV ?_)
  intro w ew
  have ew' : w = nI (64 + (16 * T + l)) := by
    rw [ew, nI_add, nI_mulI, nI_add]
    congr 1
    omega
  subst ew'
  rw [nI_clamp (by omega)]
  have x1 : LGI (16 * T + l) l I0 (u_I I1 106 (upd (I1 106) (64 + (16 * T + l)) (nI o))) := LGI_tr hI (LGI_tr (LGI_x (RFX_t f1)) LGI_6)
  refine ⟨vp_in_nI (by omega) (by omega), ?_⟩
  refine m208 ho hg (RG_u r1 (by decide) (by decide)) hS h10 hC h12 h13 h14 (by omega) hl ?_ hw2 (fun p2 I2 A2 B2 g2 r2 x2 z10 k1 oq => q_mkV ?_) (fun I2 f2 x2 => q_mkV ?_)
  · rw [u_I_ne (by decide), RFT_o f1 (by decide)]; exact hw1
  · have x3 := LGI_tr x1 (LGI_f x2)
    have a3 := LGA_f hA k1
    refine hy p2 I2 A2 B2 g2 r2 z10 (DP_step h0 hl x3 a3 ?_ ⟨o, ho, ?_, ?_, oq, ?_⟩) a3.2.2.2.2.1 x3
    · rw [k1.1 6 (by decide) (by decide) (by decide)]; exact h6
    · rw [k1.1 4 (by decide) (by decide) (by decide)]; exact h4
    · rw [x2.1 106 (by decide) (by decide) (by decide) (by decide) (by decide), u_I_eq, upd_eq]
    · unfold LB at *
      rw [x2.1 112 (by decide) (by decide) (by decide) (by decide) (by decide), x2.1 113 (by decide) (by decide) (by decide) (by decide) (by decide), k1.2.2.2.2.1 9 (by decide) (by decide), u_I_ne (by decide), u_I_ne (by decide), RFT_o f1 (by decide), RFT_o f1 (by decide)]
      exact hlb
  · exact hb I2 f2 (LGI_tr x1 (LGI_f x2))
end
