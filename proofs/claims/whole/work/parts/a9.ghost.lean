/-! the class's reading as a ghost -/
/-- the end of a run, named -/
theorem ww_det {y i : Nat} {ls st : List Value} {E : am_Ev} {I : Nat → Nat → Int32} {J : Nat → Nat → Int64} {S : Nat → Nat → Option Nat} {Q : am_Qt} (h : am_ww y i ls st E I J S Q) : ∃ r E' I' J' S', Q r E' I' J' S' ∧ ∀ Q' : am_Qt, Q' r E' I' J' S' → am_ww y i ls st E I J S Q' := by
  obtain ⟨n, r, σ, e1, E1, I1, J1, S1, eσ, q1⟩ := h
  exact ⟨r, E1, I1, J1, S1, q1, fun Q' q => ⟨n, r, σ, e1, E1, I1, J1, S1, eσ, q⟩⟩
/-- the class's loop behind p -/
def gLP (n p : Nat) (E : am_Ev) (A : Nat → Nat → Int32) (B : Nat → Nat → Int64) (C : Nat → Nat → Option Nat) (Q : am_Qt) : Prop := ∀ x d, x ≤ p → am_isL d = false → am_ww 60 4 [.ref 1, .int (nI n), .int (nI x), d] [] E A B C Q
/-- the class has come to it -/
def GS (Z : am_Qt → Prop) (n p : Nat) (E : am_Ev) (A : Nat → Nat → Int32) (B : Nat → Nat → Int64) (C : Nat → Nat → Option Nat) : Prop := ∀ Q, gLP n p E A B C Q → Z Q
/-- what take leaves to do -/
def QT (n p : Nat) (Q : am_Qt) : am_Qt := q_I fun v E3 I3 J3 S3 => (v = 0 → gLP n p E3 I3 J3 S3 Q) ∧ (¬ v = 0 → Q (.inl (some (.int v))) E3 (u_I I3 1 (upd (I3 1) 3 ((I3 1) 4))) J3 S3)
theorem TC_e {c : Nat → Nat} {n p : Nat} {A A' : Nat → Nat → Int32} {B B' : Nat → Nat → Int64} (hp : p ≤ n) (h : TC c n p A A' B B') : ∃ p', A' 1 5 = nI p' ∧ p' ≤ n ∧ (scn (isB c) n p < n → p + 1 ≤ p') ∧ (A' 1 6 = 0 ↔ scn (isB c) n p = n) := by
  obtain ⟨_, _, _, _, h⟩ := h
  obtain ⟨s1, s2, s3, s4⟩ := scn_ge (P := isB c) (n := n) (n - p) p rfl
  have s2 := s2 hp
  generalize scn (isB c) n p = b at *
  rcases h with ⟨a1, a2, a3⟩ | ⟨a1, a2, a3, a4, _⟩ | ⟨a1, a2, a3, a4, _⟩ | ⟨a1, a2, a3, a4, a5⟩
  · exact ⟨n, a3, Nat.le_refl _, fun z => by omega, ⟨fun _ => a1, fun _ => a2⟩⟩
  · obtain ⟨u1, u2, u3, u4⟩ := scn_ge (P := isL c) (n := n) (n - b) b rfl
    refine ⟨_, a4, u2 (by omega), fun _ => ?_, ⟨fun z => absurd z (by rw [a3]; decide), fun z => by omega⟩⟩
    have e := scn_y (P := isL c) a1 a2
    have := (scn_ge (P := isL c) (n := n) (n - (b + 1)) (b + 1) rfl).1
    omega
  · obtain ⟨u1, u2, u3, u4⟩ := scn_ge (P := isD c) (n := n) (n - b) b rfl
    refine ⟨_, a4, u2 (by omega), fun _ => ?_, ⟨fun z => absurd z (by rw [a3]; decide), fun z => by omega⟩⟩
    have e := scn_y (P := isD c) a1 a2
    have := (scn_ge (P := isD c) (n := n) (n - (b + 1)) (b + 1) rfl).1
    omega
  · refine ⟨_, a5, by omega, fun _ => by omega, ⟨fun z => absurd z ?_, fun z => by omega⟩⟩
    rw [a4]
    unfold sg
    split
    · rename_i q
      rcases q with q | q | q | q <;> rw [q] <;> decide
    · decide
/-- the class takes the next token -/
theorem GS_tok {Z : am_Qt → Prop} {c : Nat → Nat} {n p : Nat} {E : am_Ev} {A : Nat → Nat → Int32} {B : Nat → Nat → Int64} {C : Nat → Nat → Option Nat} (hg : GS Z n p E A B C) (ht : txc A c n) (hp : A 1 5 = nI p) (hpn : p ≤ n) : ∃ A' B' p', TC c n p A A' B B' ∧ A' 1 5 = nI p' ∧ p' ≤ n ∧
    (scn (isB c) n p = n → A 1 10 = 0 → ∀ Q, am_cl 95 [.ref 1] E A' B' C (q_I fun v E4 I4 J4 S4 => Q (.inl (some (.int v))) E4 I4 J4 S4) → Z Q) ∧
    (scn (isB c) n p = n → ¬ A 1 10 = 0 → ∀ Q : am_Qt, Q (.inl (some (.int (nI 1)))) E (u_I A' 1 (upd (A' 1) 3 (nI n))) B' C → Z Q) ∧
    (scn (isB c) n p < n → ∀ Q, am_cl 77 [.ref 1] E A' B' C (QT n p' Q) → Z Q) := by
  have hn := ht.1
  have d := c63 (E := E) (S := C) (J := B) (Q := fun r E' I' J' S' => r = .inl none ∧ E' = E ∧ S' = C ∧ TC c n p A I' B J') ht hp hpn (fun I' J' h => ⟨rfl, rfl, rfl, h⟩)
  obtain ⟨r, E', A', B', C', ⟨er, eE, eC, htc⟩, hQ⟩ := ww_det d
  subst er eE eC
  obtain ⟨p', e5, hp', hlt, h6⟩ := TC_e hpn htc
  have e10 : A' 1 10 = A 1 10 := htc.2.1 10 (by decide) (by decide) (by decide) (by decide) (by decide)
  refine ⟨A', B', p', htc, e5, hp', ?_, ?_, ?_⟩
  · intro hb h10 Q hq
    refine hg Q (fun x d hx hd => ?_)
    apply g60_4 hd
    rw [nI_ltI (by omega) (by omega)]
    refine ⟨fun z => absurd z (by omega), fun _ => hQ _ (q_mkV ?_)⟩
    refine ⟨fun _ => ⟨fun _ => hq, fun z => absurd (e10.trans h10) z⟩, fun z => absurd (h6.mpr hb) z⟩
  · intro hb h10 Q hq
    refine hg Q (fun x d hx hd => ?_)
    apply g60_4 hd
    rw [nI_ltI (by omega) (by omega)]
    refine ⟨fun z => absurd z (by omega), fun _ => hQ _ (q_mkV ?_)⟩
    refine ⟨fun _ => ⟨fun z => absurd (e10.symm.trans z) h10, fun _ => hq⟩, fun z => absurd (h6.mpr hb) z⟩
  · intro hb Q hq
    have hl := hlt hb
    refine hg Q (fun x d hx hd => ?_)
    apply g60_4 hd
    rw [nI_ltI (by omega) (by omega)]
    refine ⟨fun z => absurd z (by omega), fun _ => hQ _ (q_mkV ?_)⟩
    refine ⟨fun z => absurd (h6.mp z) (by omega), fun _ => ?_⟩
    refine am_ww.mono hq ?_
    rintro r E3 I3 J3 S3 ⟨v, ev, k0, k1⟩
    refine ⟨v, ev, fun z => ?_, k1⟩
    rw [nI_add]
    exact k0 z (x + 1) (.int v) (by omega) rfl
