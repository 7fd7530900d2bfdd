/-! one token for both sides; the class beside the reference -/
def tb (c : Nat → Nat) (n p : Nat) : Nat := scn (isB c) n p
def tkd (c : Nat → Nat) (n p : Nat) : Nat := if n ≤ tb c n p then 0 else if isL c (tb c n p) = true then 1 else if isD c (tb c n p) = true then 2 else if sg (c (tb c n p)) = 1 then 4 else 3
def te (c : Nat → Nat) (n p : Nat) : Nat := if n ≤ tb c n p then n else if isL c (tb c n p) = true then scn (isL c) n (tb c n p) else if isD c (tb c n p) = true then scn (isD c) n (tb c n p) else tb c n p + 1
/-- the token in the reference -/
def TK (c : Nat → Nat) (n p : Nat) (I : Nat → Nat → Int32) : Prop := I 99 20 = nI (tb c n p) ∧ I 99 16 = nI (te c n p) ∧ I 99 21 = nI (te c n p) ∧ I 99 18 = nI (tkd c n p) ∧ (tkd c n p = 2 → I 99 19 = nI (rvn c (tb c n p) (te c n p - tb c n p)))
def RFT (I I' : Nat → Nat → Int32) : Prop := fr I I' [99] ∧ ∀ k, k ≠ 16 → k ≠ 18 → k ≠ 19 → k ≠ 20 → k ≠ 21 → I' 99 k = I 99 k
theorem RFT_id {I : Nat → Nat → Int32} : RFT I I := ⟨fr_id, fun _ _ _ _ _ _ => rfl⟩
theorem RFT_tr {I I' I'' : Nat → Nat → Int32} (h : RFT I I') (h' : RFT I' I'') : RFT I I'' := ⟨fun k hk => (h'.1 k hk).trans (h.1 k hk), fun k a b d e f => (h'.2 k a b d e f).trans (h.2 k a b d e f)⟩
theorem RFT_o {I I' : Nat → Nat → Int32} (h : RFT I I') {k : Nat} (hk : k ≠ 99) : I' k = I k := h.1 k (by simp [hk])
theorem isLD {c : Nat → Nat} {k : Nat} (h : isL c k = true) : isD c k = false := by
  unfold isL at h
  unfold isD
  rw [decide_eq_true_eq] at h
  exact decide_eq_false (by omega)
theorem tb_ge {c : Nat → Nat} {n p : Nat} (hp : p ≤ n) : p ≤ tb c n p ∧ tb c n p ≤ n := by
  obtain ⟨s1, s2, s3, s4⟩ := scn_ge (P := isB c) (n := n) (n - p) p rfl
  exact ⟨s1, s2 hp⟩
theorem tk_0 {c : Nat → Nat} {n p : Nat} (hp : p ≤ n) : tkd c n p = 0 ↔ tb c n p = n := by
  have := tb_ge (c := c) hp
  unfold tkd
  by_cases h : n ≤ tb c n p
  · rw [if_pos h]; exact ⟨fun _ => by omega, fun _ => rfl⟩
  · rw [if_neg h]
    refine ⟨fun z => ?_, fun z => by omega⟩
    split at z
    · omega
    · split at z
      · omega
      · split at z <;> omega
theorem te_n {c : Nat → Nat} {n p : Nat} (hp : p ≤ n) : te c n p ≤ n ∧ tb c n p ≤ te c n p := by
  have := tb_ge (c := c) hp
  unfold te
  split
  · omega
  · split
    · obtain ⟨s1, s2, s3, s4⟩ := scn_ge (P := isL c) (n := n) (n - tb c n p) (tb c n p) rfl
      exact ⟨s2 this.2, s1⟩
    · split
      · obtain ⟨s1, s2, s3, s4⟩ := scn_ge (P := isD c) (n := n) (n - tb c n p) (tb c n p) rfl
        exact ⟨s2 this.2, s1⟩
      · omega
theorem tk_1 {c : Nat → Nat} {n p : Nat} (hp : p ≤ n) (h : tkd c n p = 1) : tb c n p < te c n p ∧ ∀ i, tb c n p ≤ i → i < te c n p → isL c i = true := by
  have := tb_ge (c := c) hp
  unfold tkd at h
  unfold te
  by_cases a : n ≤ tb c n p
  · rw [if_pos a] at h; omega
  · rw [if_neg a] at h
    rw [if_neg a]
    by_cases b : isL c (tb c n p) = true
    · rw [if_pos b]
      obtain ⟨s1, s2, s3, s4⟩ := scn_ge (P := isL c) (n := n) (n - tb c n p) (tb c n p) rfl
      refine ⟨?_, s3⟩
      rw [scn_y (by omega) b]
      have := (scn_ge (P := isL c) (n := n) (n - (tb c n p + 1)) (tb c n p + 1) rfl).1
      omega
    · rw [if_neg b] at h
      split at h
      · omega
      · split at h <;> omega
theorem tk_2 {c : Nat → Nat} {n p : Nat} (hp : p ≤ n) (h : tkd c n p = 2) : tb c n p < te c n p ∧ ∀ i, tb c n p ≤ i → i < te c n p → isD c i = true := by
  have := tb_ge (c := c) hp
  unfold tkd at h
  unfold te
  by_cases a : n ≤ tb c n p
  · rw [if_pos a] at h; omega
  · rw [if_neg a] at h
    rw [if_neg a]
    by_cases b : isL c (tb c n p) = true
    · rw [if_pos b] at h; omega
    · rw [if_neg b] at h
      rw [if_neg b]
      by_cases d : isD c (tb c n p) = true
      · rw [if_pos d]
        obtain ⟨s1, s2, s3, s4⟩ := scn_ge (P := isD c) (n := n) (n - tb c n p) (tb c n p) rfl
        refine ⟨?_, s3⟩
        rw [scn_y (by omega) d]
        have := (scn_ge (P := isD c) (n := n) (n - (tb c n p + 1)) (tb c n p + 1) rfl).1
        omega
      · rw [if_neg d] at h
        split at h <;> omega
theorem TR_tk {c : Nat → Nat} {n p : Nat} {I I' : Nat → Nat → Int32} (h : TR c n p I I') : TK c n p I' ∧ RFT I I' := by
  obtain ⟨h1, h2, h3, h4⟩ := h
  refine ⟨?_, h1, h2⟩
  unfold TK tkd te tb
  refine ⟨h3, ?_⟩
  generalize scn (isB c) n p = b at *
  rcases h4 with ⟨a, d, e, f⟩ | ⟨a, l, d, e, f⟩ | ⟨a, l, d, e, f, g⟩ | ⟨a, l, l', d, e, f⟩
  · simp only [if_pos (show n ≤ b by omega)]
    exact ⟨f, e, d, fun z => absurd z (by decide)⟩
  · simp only [if_neg (show ¬ n ≤ b by omega), if_pos l]
    exact ⟨f, e, d, fun z => absurd z (by decide)⟩
  · have nl : ¬ isL c b = true := fun z => by rw [isLD z] at l; cases l
    simp only [if_neg (show ¬ n ≤ b by omega), if_neg nl, if_pos l]
    exact ⟨f, e, d, fun _ => g⟩
  · have nl : ¬ isL c b = true := by rw [l]; decide
    have nd : ¬ isD c b = true := by rw [l']; decide
    simp only [if_neg (show ¬ n ≤ b by omega), if_neg nl, if_neg nd]
    refine ⟨f, e, d, fun z => ?_⟩
    split at z <;> omega
/-- the token in the class -/
def TG (c : Nat → Nat) (n p : Nat) (A A' : Nat → Nat → Int32) (B B' : Nat → Nat → Int64) : Prop := fr A A' [1] ∧ (∀ k, k ≠ 4 → k ≠ 5 → k ≠ 6 → k ≠ 7 → k ≠ 8 → A' 1 k = A 1 k) ∧ (∀ k, k ≠ 1 → B' k = B k) ∧ A' 1 4 = nI (tb c n p) ∧ A' 1 5 = nI (te c n p) ∧
  (tkd c n p = 1 → A' 1 6 = nI 2 ∧ Wd c (tb c n p) (te c n p) (A' 1 8) ∧ B' 1 9 = nmv c (tb c n p) (te c n p - tb c n p)) ∧
  (tkd c n p = 2 → A' 1 6 = nI 3 ∧ A' 1 7 = cv c (tb c n p) (te c n p - tb c n p)) ∧
  (tkd c n p = 3 → A' 1 6 = nI (c (tb c n p)) ∧ (c (tb c n p) = 59 ∨ c (tb c n p) = 44 ∨ c (tb c n p) = 58 ∨ c (tb c n p) = 45)) ∧
  (tkd c n p = 4 → A' 1 6 = nI 1) ∧ tkd c n p < 5
theorem TC_tg {c : Nat → Nat} {n p : Nat} {A A' : Nat → Nat → Int32} {B B' : Nat → Nat → Int64} (h : TC c n p A A' B B') : TG c n p A A' B B' := by
  obtain ⟨h1, h2, h3, h4, h5⟩ := h
  unfold TG tkd te tb
  refine ⟨h1, h2, h3, h4, ?_⟩
  generalize scn (isB c) n p = b at *
  rcases h5 with ⟨a, d, e⟩ | ⟨a, l, d, e, f, g⟩ | ⟨a, l, d, e, f⟩ | ⟨a, l, l', d, e⟩
  · simp only [if_pos (show n ≤ b by omega)]
    exact ⟨e, fun z => absurd z (by decide), fun z => absurd z (by decide), fun z => absurd z (by decide), fun z => absurd z (by decide), by decide⟩
  · simp only [if_neg (show ¬ n ≤ b by omega), if_pos l]
    exact ⟨e, fun _ => ⟨d, f, g⟩, fun z => absurd z (by decide), fun z => absurd z (by decide), fun z => absurd z (by decide), by decide⟩
  · have nl : ¬ isL c b = true := fun z => by rw [isLD z] at l; cases l
    simp only [if_neg (show ¬ n ≤ b by omega), if_neg nl, if_pos l]
    exact ⟨e, fun z => absurd z (by decide), fun _ => ⟨d, f⟩, fun z => absurd z (by decide), fun z => absurd z (by decide), by decide⟩
  · have nl : ¬ isL c b = true := by rw [l]; decide
    have nd : ¬ isD c b = true := by rw [l']; decide
    simp only [if_neg (show ¬ n ≤ b by omega), if_neg nl, if_neg nd]
    refine ⟨e, ?_⟩
    unfold sg at *
    by_cases q : c b = 59 ∨ c b = 44 ∨ c b = 58 ∨ c b = 45
    · rw [if_pos q] at d ⊢
      rw [if_neg (by omega)]
      exact ⟨fun z => absurd z (by decide), fun z => absurd z (by decide), fun _ => ⟨d, q⟩, fun z => absurd z (by decide), by decide⟩
    · rw [if_neg q] at d ⊢
      rw [if_pos rfl]
      exact ⟨fun z => absurd z (by decide), fun z => absurd z (by decide), fun z => absurd z (by decide), fun _ => d, by decide⟩
/-- what the class leaves as it was -/
def CF (A0 : Nat → Nat → Int32) (B0 : Nat → Nat → Int64) (C0 : Nat → Nat → Option Nat) (A : Nat → Nat → Int32) (B : Nat → Nat → Int64) (C : Nat → Nat → Option Nat) : Prop := (∀ k, k = 0 ∨ k = 2 ∨ 12 ≤ k → A k = A0 k) ∧ (∀ k, k = 0 ∨ 2 ≤ k ∧ k < 9 ∨ 11 ≤ k → B k = B0 k) ∧ (∀ k, k ≠ 1 → C k = C0 k)
theorem CF_tr {A0 A1 A2 : Nat → Nat → Int32} {B0 B1 B2 : Nat → Nat → Int64} {C0 C1 C2 : Nat → Nat → Option Nat} (h : CF A0 B0 C0 A1 B1 C1) (h' : CF A1 B1 C1 A2 B2 C2) : CF A0 B0 C0 A2 B2 C2 := ⟨fun k hk => (h'.1 k hk).trans (h.1 k hk), fun k hk => (h'.2.1 k hk).trans (h.2.1 k hk), fun k hk => (h'.2.2 k hk).trans (h.2.2 k hk)⟩
theorem CF_id {A0 : Nat → Nat → Int32} {B0 : Nat → Nat → Int64} {C0 : Nat → Nat → Option Nat} : CF A0 B0 C0 A0 B0 C0 := ⟨fun _ _ => rfl, fun _ _ => rfl, fun _ _ => rfl⟩
theorem CF_tg {c : Nat → Nat} {n p : Nat} {A A' : Nat → Nat → Int32} {B B' : Nat → Nat → Int64} {C : Nat → Nat → Option Nat} (h : TG c n p A A' B B') : CF A B C A' B' C := ⟨fun k hk => h.1 k (by simp; omega), fun k hk => h.2.2.1 k (by omega), fun _ _ => rfl⟩
/-- one take -/
def tkR (E : am_Ev) (A : Nat → Nat → Int32) (B : Nat → Nat → Int64) (C : Nat → Nat → Option Nat) (v : Int32) (A2 : Nat → Nat → Int32) (B2 : Nat → Nat → Int64) (C2 : Nat → Nat → Option Nat) : Prop := ∀ Q : am_Qt, (∀ r E' I' J' S', Q r E' I' J' S' → ∃ v, r = .inl (some (.int v))) → Q (.inl (some (.int v))) E A2 B2 C2 → am_cl 77 [.ref 1] E A B C Q
section
variable {Z : am_Qt → Prop} {A0 : Nat → Nat → Int32} {B0 : Nat → Nat → Int64} {C0 : Nat → Nat → Option Nat} {c : Nat → Nat} {n : Nat} {E : am_Ev} {p : Nat} {A : Nat → Nat → Int32} {B : Nat → Nat → Int64} {C : Nat → Nat → Option Nat} {I I' : Nat → Nat → Int32}
def GO (Z : am_Qt → Prop) (A0 : Nat → Nat → Int32) (B0 : Nat → Nat → Int64) (C0 : Nat → Nat → Option Nat) (c : Nat → Nat) (n : Nat) (E : am_Ev) (p : Nat) (A : Nat → Nat → Int32) (B : Nat → Nat → Int64) (C : Nat → Nat → Option Nat) : Prop := GS Z n p E A B C ∧ CF A0 B0 C0 A B C ∧ txc A c n ∧ A 1 5 = nI p ∧ p ≤ n
def RG (c : Nat → Nat) (n p : Nat) (I : Nat → Nat → Int32) : Prop := txr I c n ∧ TK c n p I ∧ I 99 22 = 0
/-- the class ends with the fault k at b -/
def FG (Z : am_Qt → Prop) (A0 : Nat → Nat → Int32) (B0 : Nat → Nat → Int64) (C0 : Nat → Nat → Option Nat) (E : am_Ev) (k b : Nat) : Prop := ∃ A B C, CF A0 B0 C0 A B C ∧ A 1 3 = nI b ∧ ∀ Q : am_Qt, Q (.inl (some (.int (nI k)))) E A B C → Z Q
def FL (Z : am_Qt → Prop) (A0 : Nat → Nat → Int32) (B0 : Nat → Nat → Int64) (C0 : Nat → Nat → Option Nat) (E : am_Ev) (I : Nat → Nat → Int32) : Prop := ∃ k b, 1 ≤ k ∧ k ≤ 5 ∧ b ≤ 700 ∧ I 99 22 = nI k ∧ I 99 23 = nI b ∧ FG Z A0 B0 C0 E k b
theorem txc_e (h : A 2 = A0 2) (ht : txc A0 c n) : txc A c n := ⟨ht.1, fun k hk => by rw [h]; exact ht.2 k hk⟩
theorem FL_ne (h : FL Z A0 B0 C0 E I) : ¬ I 99 22 = 0 := by
  obtain ⟨k, b, h1, h2, h3, h4, _⟩ := h
  rw [h4, nI_e0 (by omega)]
  omega
theorem FL_e (h : FL Z A0 B0 C0 E I) (e1 : I' 99 22 = I 99 22) (e2 : I' 99 23 = I 99 23) : FL Z A0 B0 C0 E I' := by
  obtain ⟨k, b, h1, h2, h3, h4, h5, h6⟩ := h
  exact ⟨k, b, h1, h2, h3, e1.trans h4, e2.trans h5, h6⟩
theorem FL_w {k : Nat} (hr : RG c n p I) (hp : p ≤ n) (h1 : 1 ≤ k) (h5 : k ≤ 5) (h : FG Z A0 B0 C0 E k (tb c n p)) : FL Z A0 B0 C0 E (u_I I 99 (upd (upd (I 99) 22 (nI k)) 23 (I 99 20))) := by
  have := tb_ge (c := c) hp
  have hn := hr.1.1
  refine ⟨k, tb c n p, h1, h5, by omega, ?_, ?_, h⟩
  · rw [u_I_eq, upd_ne (by decide), upd_eq]
  · rw [u_I_eq, upd_eq]; exact hr.2.1.1
theorem GO_tok (h : GO Z A0 B0 C0 c n E p A B C) : ∃ A1 B1, TG c n p A A1 B B1 ∧ txc A1 c n ∧ CF A0 B0 C0 A1 B1 C ∧
    (tkd c n p = 0 → A 1 10 = 0 → ∀ Q, am_cl 95 [.ref 1] E A1 B1 C (q_I fun v E4 I4 J4 S4 => Q (.inl (some (.int v))) E4 I4 J4 S4) → Z Q) ∧
    (tkd c n p = 0 → ¬ A 1 10 = 0 → ∀ Q : am_Qt, Q (.inl (some (.int (nI 1)))) E (u_I A1 1 (upd (A1 1) 3 (nI n))) B1 C → Z Q) ∧
    (tkd c n p ≠ 0 → ∀ Q, am_cl 77 [.ref 1] E A1 B1 C (QT n (te c n p) Q) → Z Q) := by
  obtain ⟨h1, h2, h3, h4, h5⟩ := h
  obtain ⟨A1, B1, p1, t1, t2, t3, t4, t5, t6⟩ := GS_tok h1 h3 h4 h5
  have tg := TC_tg t1
  have hn := h3.1
  have hte := te_n (c := c) h5
  have ep : p1 = te c n p := by
    have := tg.2.2.2.2.1
    rw [t2, nI_eq (by omega) (by omega)] at this
    exact this
  subst ep
  have htb := tb_ge (c := c) h5
  have e2 : A1 2 = A 2 := tg.1 2 (by decide)
  refine ⟨A1, B1, tg, txc_e e2 h3, CF_tr h2 (CF_tg tg), fun z => t4 ((tk_0 h5).mp z), fun z => t5 ((tk_0 h5).mp z), fun z => t6 ?_⟩
  have : ¬ tb c n p = n := fun q => z ((tk_0 h5).mpr q)
  show tb c n p < n
  omega
/-- the class takes it -/
theorem GO_acc {X : (Nat → Nat → Int32) → (Nat → Nat → Int64) → (Nat → Nat → Option Nat) → Prop} (h : GO Z A0 B0 C0 c n E p A B C) (h0 : tkd c n p ≠ 0) (hx : ∀ A1 B1, TG c n p A A1 B B1 → ∃ A2 B2 C2, tkR E A1 B1 C (nI 0) A2 B2 C2 ∧ A2 1 5 = A1 1 5 ∧ CF A1 B1 C A2 B2 C2 ∧ X A2 B2 C2) : ∃ A2 B2 C2, GO Z A0 B0 C0 c n E (te c n p) A2 B2 C2 ∧ X A2 B2 C2 := by
  obtain ⟨A1, B1, tg, ht, hcf, _, _, h3⟩ := GO_tok h
  obtain ⟨A2, B2, C2, k1, k2, k3, k4⟩ := hx A1 B1 tg
  refine ⟨A2, B2, C2, ⟨fun Q hq => ?_, CF_tr hcf k3, txc_e (k3.1 2 (by omega)) ht, k2.trans tg.2.2.2.2.1, (te_n h.2.2.2.2).1⟩, k4⟩
  refine h3 h0 Q (k1 _ QT_v ⟨_, rfl, fun _ => hq, fun z => absurd rfl z⟩)
/-- the class refuses it -/
theorem GO_rej {k : Nat} (h : GO Z A0 B0 C0 c n E p A B C) (h0 : tkd c n p = 0 → k = 1 ∧ ¬ A 1 10 = 0) (h1 : 1 ≤ k) (h5 : k ≤ 5) (hx : ∀ A1 B1, TG c n p A A1 B B1 → tkd c n p ≠ 0 → ∃ A2 B2 C2, tkR E A1 B1 C (nI k) A2 B2 C2 ∧ A2 1 4 = A1 1 4 ∧ CF A1 B1 C A2 B2 C2) : FG Z A0 B0 C0 E k (tb c n p) := by
  obtain ⟨A1, B1, tg, ht, hcf, _, h2, h3⟩ := GO_tok h
  by_cases z : tkd c n p = 0
  · obtain ⟨ek, hs⟩ := h0 z
    subst ek
    refine ⟨u_I A1 1 (upd (A1 1) 3 (nI n)), B1, C, CF_tr hcf ⟨fun k hk => u_I_ne (by omega), fun _ _ => rfl, fun _ _ => rfl⟩, ?_, h2 z hs⟩
    rw [u_I_eq, upd_eq, (tk_0 h.2.2.2.2).mp z]
  · obtain ⟨A2, B2, C2, k1, k2, k3⟩ := hx A1 B1 tg z
    refine ⟨u_I A2 1 (upd (A2 1) 3 (A2 1 4)), B2, C2, CF_tr hcf (CF_tr k3 ⟨fun k hk => u_I_ne (by omega), fun _ _ => rfl, fun _ _ => rfl⟩), ?_, fun Q hq => ?_⟩
    · rw [u_I_eq, upd_eq, k2]; exact tg.2.2.2.1
    · refine h3 z Q (k1 _ QT_v ⟨_, rfl, fun e => ?_, fun _ => hq⟩)
      rw [nI_e0 (by omega)] at e
      omega
/-- the reference goes to the next one -/
theorem m190s {J : Nat → Nat → Int64} {S : Nat → Nat → Option Nat} {Q : am_Qt} (hr : RG c n p I) (hp : p ≤ n) (h : ∀ I', RG c n (te c n p) I' → RFT I I' → Q (.inl none) E I' J S) : am_cl 190 [.ref 99] E I J S Q := by
  refine m190 hr.1 hr.2.1.2.1 (te_n hp).1 (fun I' ht => ?_)
  obtain ⟨t1, t2⟩ := TR_tk ht
  refine h I' ⟨⟨hr.1.1, ?_, fun k hk => ?_⟩, t1, ?_⟩ t2
  · rw [t2.2 17 (by decide) (by decide) (by decide) (by decide) (by decide)]; exact hr.1.2.1
  · rw [t2.1 111 (by decide)]; exact hr.1.2.2 k hk
  · rw [t2.2 22 (by decide) (by decide) (by decide) (by decide) (by decide)]; exact hr.2.2
end
