/-! beginnings -/
def fil (f : Nat → Int32) (n : Nat) (x : Int32) (j : Nat) : Int32 := if j < n then x else f j
theorem fil_0 {f : Nat → Int32} {x : Int32} : fil f 0 x = f := by
  funext j
  unfold fil
  rw [if_neg (by omega)]
theorem fil_s {f : Nat → Int32} {n : Nat} {x : Int32} : upd (fil f n x) n x = fil f (n + 1) x := by
  funext j
  unfold upd
  by_cases h : j = n
  · rw [if_pos h]
    unfold fil
    rw [if_pos (by omega)]
  · rw [if_neg h]
    unfold fil
    by_cases h2 : j < n
    · rw [if_pos h2, if_pos (by omega)]
    · rw [if_neg h2, if_neg (by omega)]
theorem fil_in {f : Nat → Int32} {n j : Nat} {x : Int32} (h : j < n) : fil f n x j = x := if_pos h
def filL (f : Nat → Int64) (n : Nat) (x : Int64) (j : Nat) : Int64 := if j < n then x else f j
theorem filL_0 {f : Nat → Int64} {x : Int64} : filL f 0 x = f := by
  funext j
  unfold filL
  rw [if_neg (by omega)]
theorem filL_s {f : Nat → Int64} {n : Nat} {x : Int64} : vp_updL (filL f n x) n x = filL f (n + 1) x := by
  funext j
  unfold vp_updL
  by_cases h : j = n
  · rw [if_pos h]
    unfold filL
    rw [if_pos (by omega)]
  · rw [if_neg h]
    unfold filL
    by_cases h2 : j < n
    · rw [if_pos h2, if_pos (by omega)]
    · rw [if_neg h2, if_neg (by omega)]
theorem u_J_id {J : Nat → Nat → Int64} {k : Nat} : u_J J k (J k) = J := by
  funext a
  unfold u_J
  by_cases h : a = k
  · rw [if_pos h, h]
  · rw [if_neg h]
theorem u_J_eq {I : Nat → Nat → Int64} {k : Nat} {f : Nat → Int64} : u_J I k f k = f := if_pos rfl
theorem u_J_ne {I : Nat → Nat → Int64} {k j : Nat} {f : Nat → Int64} (h : j ≠ k) : u_J I k f j = I j := if_neg h
theorem c13_l4 {E : am_Ev} {I : Nat → Nat → Int32} {J : Nat → Nat → Int64} {S : Nat → Nat → Option Nat} {Q : am_Qt} {x : Int32} : ∀ m i, i + m = 64 → Q (.inl none) E (u_I I 4 (fil (I 4) 64 x)) J S → am_ww 13 5 [.ref 4, .int x, .int (nI i), .int (nI 64)] [] E (u_I I 4 (fil (I 4) i x)) J S Q := by
  intro m
  induction m with
  | zero =>
    intro i e h
    have : i = 64 := by omega
    subst this
    apply g13_5_4
    exact ⟨fun _ => h, fun q => absurd (Int32.le_refl _) q⟩
  | succ m ih =>
    intro i e h
    apply g13_5_4
    simp (disch := omega) only [Nat.reduceEqDiff, reduceIte, nI_mulI, nI_add, nI_clamp, nI_ltI, nI_leI, nI_eq, nI_e0, nI_n0, vt, forall_eq, true_and, and_true, true_implies, forall_const, not_true_eq_false, not_false_eq_true, false_implies, implies_true, uI_0, u_I_eq, fil_s]
    exact ⟨fun q => absurd q (by omega), fun _ => ih (i + 1) (by omega) h⟩
theorem c13_4 {E : am_Ev} {I : Nat → Nat → Int32} {J : Nat → Nat → Int64} {S : Nat → Nat → Option Nat} {Q : am_Qt} {x : Int32} (h : Q (.inl none) E (u_I I 4 (fil (I 4) 64 x)) J S) : am_cl 13 [.ref 4, .int x] E I J S Q := by
  show am_ww 13 0 [.ref 4, .int x, am_U, am_U] [] E I J S Q
  apply g13_0_4
  have := c13_l4 (E := E) (I := I) (J := J) (S := S) (Q := Q) (x := x) 64 0 (by omega) h
  rw [fil_0, u_I_id] at this
  exact this
theorem c13_l5 {E : am_Ev} {I : Nat → Nat → Int32} {J : Nat → Nat → Int64} {S : Nat → Nat → Option Nat} {Q : am_Qt} {x : Int32} : ∀ m i, i + m = 192 → Q (.inl none) E (u_I I 5 (fil (I 5) 192 x)) J S → am_ww 13 5 [.ref 5, .int x, .int (nI i), .int (nI 192)] [] E (u_I I 5 (fil (I 5) i x)) J S Q := by
  intro m
  induction m with
  | zero =>
    intro i e h
    have : i = 192 := by omega
    subst this
    apply g13_5_5
    exact ⟨fun _ => h, fun q => absurd (Int32.le_refl _) q⟩
  | succ m ih =>
    intro i e h
    apply g13_5_5
    simp (disch := omega) only [Nat.reduceEqDiff, reduceIte, nI_mulI, nI_add, nI_clamp, nI_ltI, nI_leI, nI_eq, nI_e0, nI_n0, vt, forall_eq, true_and, and_true, true_implies, forall_const, not_true_eq_false, not_false_eq_true, false_implies, implies_true, uI_0, u_I_eq, fil_s]
    exact ⟨fun q => absurd q (by omega), fun _ => ih (i + 1) (by omega) h⟩
theorem c13_5 {E : am_Ev} {I : Nat → Nat → Int32} {J : Nat → Nat → Int64} {S : Nat → Nat → Option Nat} {Q : am_Qt} {x : Int32} (h : Q (.inl none) E (u_I I 5 (fil (I 5) 192 x)) J S) : am_cl 13 [.ref 5, .int x] E I J S Q := by
  show am_ww 13 0 [.ref 5, .int x, am_U, am_U] [] E I J S Q
  apply g13_0_5
  have := c13_l5 (E := E) (I := I) (J := J) (S := S) (Q := Q) (x := x) 192 0 (by omega) h
  rw [fil_0, u_I_id] at this
  exact this
theorem c13_l6 {E : am_Ev} {I : Nat → Nat → Int32} {J : Nat → Nat → Int64} {S : Nat → Nat → Option Nat} {Q : am_Qt} {x : Int32} : ∀ m i, i + m = 4 → Q (.inl none) E (u_I I 6 (fil (I 6) 4 x)) J S → am_ww 13 5 [.ref 6, .int x, .int (nI i), .int (nI 4)] [] E (u_I I 6 (fil (I 6) i x)) J S Q := by
  intro m
  induction m with
  | zero =>
    intro i e h
    have : i = 4 := by omega
    subst this
    apply g13_5_6
    exact ⟨fun _ => h, fun q => absurd (Int32.le_refl _) q⟩
  | succ m ih =>
    intro i e h
    apply g13_5_6
    simp (disch := omega) only [Nat.reduceEqDiff, reduceIte, nI_mulI, nI_add, nI_clamp, nI_ltI, nI_leI, nI_eq, nI_e0, nI_n0, vt, forall_eq, true_and, and_true, true_implies, forall_const, not_true_eq_false, not_false_eq_true, false_implies, implies_true, uI_0, u_I_eq, fil_s]
    exact ⟨fun q => absurd q (by omega), fun _ => ih (i + 1) (by omega) h⟩
theorem c13_6 {E : am_Ev} {I : Nat → Nat → Int32} {J : Nat → Nat → Int64} {S : Nat → Nat → Option Nat} {Q : am_Qt} {x : Int32} (h : Q (.inl none) E (u_I I 6 (fil (I 6) 4 x)) J S) : am_cl 13 [.ref 6, .int x] E I J S Q := by
  show am_ww 13 0 [.ref 6, .int x, am_U, am_U] [] E I J S Q
  apply g13_0_6
  have := c13_l6 (E := E) (I := I) (J := J) (S := S) (Q := Q) (x := x) 4 0 (by omega) h
  rw [fil_0, u_I_id] at this
  exact this
theorem c13_l7 {E : am_Ev} {I : Nat → Nat → Int32} {J : Nat → Nat → Int64} {S : Nat → Nat → Option Nat} {Q : am_Qt} {x : Int32} : ∀ m i, i + m = 16 → Q (.inl none) E (u_I I 7 (fil (I 7) 16 x)) J S → am_ww 13 5 [.ref 7, .int x, .int (nI i), .int (nI 16)] [] E (u_I I 7 (fil (I 7) i x)) J S Q := by
  intro m
  induction m with
  | zero =>
    intro i e h
    have : i = 16 := by omega
    subst this
    apply g13_5_7
    exact ⟨fun _ => h, fun q => absurd (Int32.le_refl _) q⟩
  | succ m ih =>
    intro i e h
    apply g13_5_7
    simp (disch := omega) only [Nat.reduceEqDiff, reduceIte, nI_mulI, nI_add, nI_clamp, nI_ltI, nI_leI, nI_eq, nI_e0, nI_n0, vt, forall_eq, true_and, and_true, true_implies, forall_const, not_true_eq_false, not_false_eq_true, false_implies, implies_true, uI_0, u_I_eq, fil_s]
    exact ⟨fun q => absurd q (by omega), fun _ => ih (i + 1) (by omega) h⟩
theorem c13_7 {E : am_Ev} {I : Nat → Nat → Int32} {J : Nat → Nat → Int64} {S : Nat → Nat → Option Nat} {Q : am_Qt} {x : Int32} (h : Q (.inl none) E (u_I I 7 (fil (I 7) 16 x)) J S) : am_cl 13 [.ref 7, .int x] E I J S Q := by
  show am_ww 13 0 [.ref 7, .int x, am_U, am_U] [] E I J S Q
  apply g13_0_7
  have := c13_l7 (E := E) (I := I) (J := J) (S := S) (Q := Q) (x := x) 16 0 (by omega) h
  rw [fil_0, u_I_id] at this
  exact this
theorem c13_l13 {E : am_Ev} {I : Nat → Nat → Int32} {J : Nat → Nat → Int64} {S : Nat → Nat → Option Nat} {Q : am_Qt} {x : Int32} : ∀ m i, i + m = 64 → Q (.inl none) E (u_I I 13 (fil (I 13) 64 x)) J S → am_ww 13 5 [.ref 13, .int x, .int (nI i), .int (nI 64)] [] E (u_I I 13 (fil (I 13) i x)) J S Q := by
  intro m
  induction m with
  | zero =>
    intro i e h
    have : i = 64 := by omega
    subst this
    apply g13_5_13
    exact ⟨fun _ => h, fun q => absurd (Int32.le_refl _) q⟩
  | succ m ih =>
    intro i e h
    apply g13_5_13
    simp (disch := omega) only [Nat.reduceEqDiff, reduceIte, nI_mulI, nI_add, nI_clamp, nI_ltI, nI_leI, nI_eq, nI_e0, nI_n0, vt, forall_eq, true_and, and_true, true_implies, forall_const, not_true_eq_false, not_false_eq_true, false_implies, implies_true, uI_0, u_I_eq, fil_s]
    exact ⟨fun q => absurd q (by omega), fun _ => ih (i + 1) (by omega) h⟩
theorem c13_13 {E : am_Ev} {I : Nat → Nat → Int32} {J : Nat → Nat → Int64} {S : Nat → Nat → Option Nat} {Q : am_Qt} {x : Int32} (h : Q (.inl none) E (u_I I 13 (fil (I 13) 64 x)) J S) : am_cl 13 [.ref 13, .int x] E I J S Q := by
  show am_ww 13 0 [.ref 13, .int x, am_U, am_U] [] E I J S Q
  apply g13_0_13
  have := c13_l13 (E := E) (I := I) (J := J) (S := S) (Q := Q) (x := x) 64 0 (by omega) h
  rw [fil_0, u_I_id] at this
  exact this
theorem c13_l14 {E : am_Ev} {I : Nat → Nat → Int32} {J : Nat → Nat → Int64} {S : Nat → Nat → Option Nat} {Q : am_Qt} {x : Int32} : ∀ m i, i + m = 192 → Q (.inl none) E (u_I I 14 (fil (I 14) 192 x)) J S → am_ww 13 5 [.ref 14, .int x, .int (nI i), .int (nI 192)] [] E (u_I I 14 (fil (I 14) i x)) J S Q := by
  intro m
  induction m with
  | zero =>
    intro i e h
    have : i = 192 := by omega
    subst this
    apply g13_5_14
    exact ⟨fun _ => h, fun q => absurd (Int32.le_refl _) q⟩
  | succ m ih =>
    intro i e h
    apply g13_5_14
    simp (disch := omega) only [Nat.reduceEqDiff, reduceIte, nI_mulI, nI_add, nI_clamp, nI_ltI, nI_leI, nI_eq, nI_e0, nI_n0, vt, forall_eq, true_and, and_true, true_implies, forall_const, not_true_eq_false, not_false_eq_true, false_implies, implies_true, uI_0, u_I_eq, fil_s]
    exact ⟨fun q => absurd q (by omega), fun _ => ih (i + 1) (by omega) h⟩
theorem c13_14 {E : am_Ev} {I : Nat → Nat → Int32} {J : Nat → Nat → Int64} {S : Nat → Nat → Option Nat} {Q : am_Qt} {x : Int32} (h : Q (.inl none) E (u_I I 14 (fil (I 14) 192 x)) J S) : am_cl 13 [.ref 14, .int x] E I J S Q := by
  show am_ww 13 0 [.ref 14, .int x, am_U, am_U] [] E I J S Q
  apply g13_0_14
  have := c13_l14 (E := E) (I := I) (J := J) (S := S) (Q := Q) (x := x) 192 0 (by omega) h
  rw [fil_0, u_I_id] at this
  exact this
theorem c13_l15 {E : am_Ev} {I : Nat → Nat → Int32} {J : Nat → Nat → Int64} {S : Nat → Nat → Option Nat} {Q : am_Qt} {x : Int32} : ∀ m i, i + m = 4 → Q (.inl none) E (u_I I 15 (fil (I 15) 4 x)) J S → am_ww 13 5 [.ref 15, .int x, .int (nI i), .int (nI 4)] [] E (u_I I 15 (fil (I 15) i x)) J S Q := by
  intro m
  induction m with
  | zero =>
    intro i e h
    have : i = 4 := by omega
    subst this
    apply g13_5_15
    exact ⟨fun _ => h, fun q => absurd (Int32.le_refl _) q⟩
  | succ m ih =>
    intro i e h
    apply g13_5_15
    simp (disch := omega) only [Nat.reduceEqDiff, reduceIte, nI_mulI, nI_add, nI_clamp, nI_ltI, nI_leI, nI_eq, nI_e0, nI_n0, vt, forall_eq, true_and, and_true, true_implies, forall_const, not_true_eq_false, not_false_eq_true, false_implies, implies_true, uI_0, u_I_eq, fil_s]
    exact ⟨fun q => absurd q (by omega), fun _ => ih (i + 1) (by omega) h⟩
theorem c13_15 {E : am_Ev} {I : Nat → Nat → Int32} {J : Nat → Nat → Int64} {S : Nat → Nat → Option Nat} {Q : am_Qt} {x : Int32} (h : Q (.inl none) E (u_I I 15 (fil (I 15) 4 x)) J S) : am_cl 13 [.ref 15, .int x] E I J S Q := by
  show am_ww 13 0 [.ref 15, .int x, am_U, am_U] [] E I J S Q
  apply g13_0_15
  have := c13_l15 (E := E) (I := I) (J := J) (S := S) (Q := Q) (x := x) 4 0 (by omega) h
  rw [fil_0, u_I_id] at this
  exact this
theorem c13_l16 {E : am_Ev} {I : Nat → Nat → Int32} {J : Nat → Nat → Int64} {S : Nat → Nat → Option Nat} {Q : am_Qt} {x : Int32} : ∀ m i, i + m = 16 → Q (.inl none) E (u_I I 16 (fil (I 16) 16 x)) J S → am_ww 13 5 [.ref 16, .int x, .int (nI i), .int (nI 16)] [] E (u_I I 16 (fil (I 16) i x)) J S Q := by
  intro m
  induction m with
  | zero =>
    intro i e h
    have : i = 16 := by omega
    subst this
    apply g13_5_16
    exact ⟨fun _ => h, fun q => absurd (Int32.le_refl _) q⟩
  | succ m ih =>
    intro i e h
    apply g13_5_16
    simp (disch := omega) only [Nat.reduceEqDiff, reduceIte, nI_mulI, nI_add, nI_clamp, nI_ltI, nI_leI, nI_eq, nI_e0, nI_n0, vt, forall_eq, true_and, and_true, true_implies, forall_const, not_true_eq_false, not_false_eq_true, false_implies, implies_true, uI_0, u_I_eq, fil_s]
    exact ⟨fun q => absurd q (by omega), fun _ => ih (i + 1) (by omega) h⟩
theorem c13_16 {E : am_Ev} {I : Nat → Nat → Int32} {J : Nat → Nat → Int64} {S : Nat → Nat → Option Nat} {Q : am_Qt} {x : Int32} (h : Q (.inl none) E (u_I I 16 (fil (I 16) 16 x)) J S) : am_cl 13 [.ref 16, .int x] E I J S Q := by
  show am_ww 13 0 [.ref 16, .int x, am_U, am_U] [] E I J S Q
  apply g13_0_16
  have := c13_l16 (E := E) (I := I) (J := J) (S := S) (Q := Q) (x := x) 16 0 (by omega) h
  rw [fil_0, u_I_id] at this
  exact this
theorem c13_l22 {E : am_Ev} {I : Nat → Nat → Int32} {J : Nat → Nat → Int64} {S : Nat → Nat → Option Nat} {Q : am_Qt} {x : Int32} : ∀ m i, i + m = 16 → Q (.inl none) E (u_I I 22 (fil (I 22) 16 x)) J S → am_ww 13 5 [.ref 22, .int x, .int (nI i), .int (nI 16)] [] E (u_I I 22 (fil (I 22) i x)) J S Q := by
  intro m
  induction m with
  | zero =>
    intro i e h
    have : i = 16 := by omega
    subst this
    apply g13_5_22
    exact ⟨fun _ => h, fun q => absurd (Int32.le_refl _) q⟩
  | succ m ih =>
    intro i e h
    apply g13_5_22
    simp (disch := omega) only [Nat.reduceEqDiff, reduceIte, nI_mulI, nI_add, nI_clamp, nI_ltI, nI_leI, nI_eq, nI_e0, nI_n0, vt, forall_eq, true_and, and_true, true_implies, forall_const, not_true_eq_false, not_false_eq_true, false_implies, implies_true, uI_0, u_I_eq, fil_s]
    exact ⟨fun q => absurd q (by omega), fun _ => ih (i + 1) (by omega) h⟩
theorem c13_22 {E : am_Ev} {I : Nat → Nat → Int32} {J : Nat → Nat → Int64} {S : Nat → Nat → Option Nat} {Q : am_Qt} {x : Int32} (h : Q (.inl none) E (u_I I 22 (fil (I 22) 16 x)) J S) : am_cl 13 [.ref 22, .int x] E I J S Q := by
  show am_ww 13 0 [.ref 22, .int x, am_U, am_U] [] E I J S Q
  apply g13_0_22
  have := c13_l22 (E := E) (I := I) (J := J) (S := S) (Q := Q) (x := x) 16 0 (by omega) h
  rw [fil_0, u_I_id] at this
  exact this
theorem c13_l23 {E : am_Ev} {I : Nat → Nat → Int32} {J : Nat → Nat → Int64} {S : Nat → Nat → Option Nat} {Q : am_Qt} {x : Int32} : ∀ m i, i + m = 4 → Q (.inl none) E (u_I I 23 (fil (I 23) 4 x)) J S → am_ww 13 5 [.ref 23, .int x, .int (nI i), .int (nI 4)] [] E (u_I I 23 (fil (I 23) i x)) J S Q := by
  intro m
  induction m with
  | zero =>
    intro i e h
    have : i = 4 := by omega
    subst this
    apply g13_5_23
    exact ⟨fun _ => h, fun q => absurd (Int32.le_refl _) q⟩
  | succ m ih =>
    intro i e h
    apply g13_5_23
    simp (disch := omega) only [Nat.reduceEqDiff, reduceIte, nI_mulI, nI_add, nI_clamp, nI_ltI, nI_leI, nI_eq, nI_e0, nI_n0, vt, forall_eq, true_and, and_true, true_implies, forall_const, not_true_eq_false, not_false_eq_true, false_implies, implies_true, uI_0, u_I_eq, fil_s]
    exact ⟨fun q => absurd q (by omega), fun _ => ih (i + 1) (by omega) h⟩
theorem c13_23 {E : am_Ev} {I : Nat → Nat → Int32} {J : Nat → Nat → Int64} {S : Nat → Nat → Option Nat} {Q : am_Qt} {x : Int32} (h : Q (.inl none) E (u_I I 23 (fil (I 23) 4 x)) J S) : am_cl 13 [.ref 23, .int x] E I J S Q := by
  show am_ww 13 0 [.ref 23, .int x, am_U, am_U] [] E I J S Q
  apply g13_0_23
  have := c13_l23 (E := E) (I := I) (J := J) (S := S) (Q := Q) (x := x) 4 0 (by omega) h
  rw [fil_0, u_I_id] at this
  exact this
theorem c13_l24 {E : am_Ev} {I : Nat → Nat → Int32} {J : Nat → Nat → Int64} {S : Nat → Nat → Option Nat} {Q : am_Qt} {x : Int32} : ∀ m i, i + m = 4 → Q (.inl none) E (u_I I 24 (fil (I 24) 4 x)) J S → am_ww 13 5 [.ref 24, .int x, .int (nI i), .int (nI 4)] [] E (u_I I 24 (fil (I 24) i x)) J S Q := by
  intro m
  induction m with
  | zero =>
    intro i e h
    have : i = 4 := by omega
    subst this
    apply g13_5_24
    exact ⟨fun _ => h, fun q => absurd (Int32.le_refl _) q⟩
  | succ m ih =>
    intro i e h
    apply g13_5_24
    simp (disch := omega) only [Nat.reduceEqDiff, reduceIte, nI_mulI, nI_add, nI_clamp, nI_ltI, nI_leI, nI_eq, nI_e0, nI_n0, vt, forall_eq, true_and, and_true, true_implies, forall_const, not_true_eq_false, not_false_eq_true, false_implies, implies_true, uI_0, u_I_eq, fil_s]
    exact ⟨fun q => absurd q (by omega), fun _ => ih (i + 1) (by omega) h⟩
theorem c13_24 {E : am_Ev} {I : Nat → Nat → Int32} {J : Nat → Nat → Int64} {S : Nat → Nat → Option Nat} {Q : am_Qt} {x : Int32} (h : Q (.inl none) E (u_I I 24 (fil (I 24) 4 x)) J S) : am_cl 13 [.ref 24, .int x] E I J S Q := by
  show am_ww 13 0 [.ref 24, .int x, am_U, am_U] [] E I J S Q
  apply g13_0_24
  have := c13_l24 (E := E) (I := I) (J := J) (S := S) (Q := Q) (x := x) 4 0 (by omega) h
  rw [fil_0, u_I_id] at this
  exact this
theorem c13_l25 {E : am_Ev} {I : Nat → Nat → Int32} {J : Nat → Nat → Int64} {S : Nat → Nat → Option Nat} {Q : am_Qt} {x : Int32} : ∀ m i, i + m = 4 → Q (.inl none) E (u_I I 25 (fil (I 25) 4 x)) J S → am_ww 13 5 [.ref 25, .int x, .int (nI i), .int (nI 4)] [] E (u_I I 25 (fil (I 25) i x)) J S Q := by
  intro m
  induction m with
  | zero =>
    intro i e h
    have : i = 4 := by omega
    subst this
    apply g13_5_25
    exact ⟨fun _ => h, fun q => absurd (Int32.le_refl _) q⟩
  | succ m ih =>
    intro i e h
    apply g13_5_25
    simp (disch := omega) only [Nat.reduceEqDiff, reduceIte, nI_mulI, nI_add, nI_clamp, nI_ltI, nI_leI, nI_eq, nI_e0, nI_n0, vt, forall_eq, true_and, and_true, true_implies, forall_const, not_true_eq_false, not_false_eq_true, false_implies, implies_true, uI_0, u_I_eq, fil_s]
    exact ⟨fun q => absurd q (by omega), fun _ => ih (i + 1) (by omega) h⟩
theorem c13_25 {E : am_Ev} {I : Nat → Nat → Int32} {J : Nat → Nat → Int64} {S : Nat → Nat → Option Nat} {Q : am_Qt} {x : Int32} (h : Q (.inl none) E (u_I I 25 (fil (I 25) 4 x)) J S) : am_cl 13 [.ref 25, .int x] E I J S Q := by
  show am_ww 13 0 [.ref 25, .int x, am_U, am_U] [] E I J S Q
  apply g13_0_25
  have := c13_l25 (E := E) (I := I) (J := J) (S := S) (Q := Q) (x := x) 4 0 (by omega) h
  rw [fil_0, u_I_id] at this
  exact this
theorem c13_l26 {E : am_Ev} {I : Nat → Nat → Int32} {J : Nat → Nat → Int64} {S : Nat → Nat → Option Nat} {Q : am_Qt} {x : Int32} : ∀ m i, i + m = 3 → Q (.inl none) E (u_I I 26 (fil (I 26) 3 x)) J S → am_ww 13 5 [.ref 26, .int x, .int (nI i), .int (nI 3)] [] E (u_I I 26 (fil (I 26) i x)) J S Q := by
  intro m
  induction m with
  | zero =>
    intro i e h
    have : i = 3 := by omega
    subst this
    apply g13_5_26
    exact ⟨fun _ => h, fun q => absurd (Int32.le_refl _) q⟩
  | succ m ih =>
    intro i e h
    apply g13_5_26
    simp (disch := omega) only [Nat.reduceEqDiff, reduceIte, nI_mulI, nI_add, nI_clamp, nI_ltI, nI_leI, nI_eq, nI_e0, nI_n0, vt, forall_eq, true_and, and_true, true_implies, forall_const, not_true_eq_false, not_false_eq_true, false_implies, implies_true, uI_0, u_I_eq, fil_s]
    exact ⟨fun q => absurd q (by omega), fun _ => ih (i + 1) (by omega) h⟩
theorem c13_26 {E : am_Ev} {I : Nat → Nat → Int32} {J : Nat → Nat → Int64} {S : Nat → Nat → Option Nat} {Q : am_Qt} {x : Int32} (h : Q (.inl none) E (u_I I 26 (fil (I 26) 3 x)) J S) : am_cl 13 [.ref 26, .int x] E I J S Q := by
  show am_ww 13 0 [.ref 26, .int x, am_U, am_U] [] E I J S Q
  apply g13_0_26
  have := c13_l26 (E := E) (I := I) (J := J) (S := S) (Q := Q) (x := x) 3 0 (by omega) h
  rw [fil_0, u_I_id] at this
  exact this
theorem c13_l28 {E : am_Ev} {I : Nat → Nat → Int32} {J : Nat → Nat → Int64} {S : Nat → Nat → Option Nat} {Q : am_Qt} {x : Int32} : ∀ m i, i + m = 3 → Q (.inl none) E (u_I I 28 (fil (I 28) 3 x)) J S → am_ww 13 5 [.ref 28, .int x, .int (nI i), .int (nI 3)] [] E (u_I I 28 (fil (I 28) i x)) J S Q := by
  intro m
  induction m with
  | zero =>
    intro i e h
    have : i = 3 := by omega
    subst this
    apply g13_5_28
    exact ⟨fun _ => h, fun q => absurd (Int32.le_refl _) q⟩
  | succ m ih =>
    intro i e h
    apply g13_5_28
    simp (disch := omega) only [Nat.reduceEqDiff, reduceIte, nI_mulI, nI_add, nI_clamp, nI_ltI, nI_leI, nI_eq, nI_e0, nI_n0, vt, forall_eq, true_and, and_true, true_implies, forall_const, not_true_eq_false, not_false_eq_true, false_implies, implies_true, uI_0, u_I_eq, fil_s]
    exact ⟨fun q => absurd q (by omega), fun _ => ih (i + 1) (by omega) h⟩
theorem c13_28 {E : am_Ev} {I : Nat → Nat → Int32} {J : Nat → Nat → Int64} {S : Nat → Nat → Option Nat} {Q : am_Qt} {x : Int32} (h : Q (.inl none) E (u_I I 28 (fil (I 28) 3 x)) J S) : am_cl 13 [.ref 28, .int x] E I J S Q := by
  show am_ww 13 0 [.ref 28, .int x, am_U, am_U] [] E I J S Q
  apply g13_0_28
  have := c13_l28 (E := E) (I := I) (J := J) (S := S) (Q := Q) (x := x) 3 0 (by omega) h
  rw [fil_0, u_I_id] at this
  exact this
theorem c13_l63 {E : am_Ev} {I : Nat → Nat → Int32} {J : Nat → Nat → Int64} {S : Nat → Nat → Option Nat} {Q : am_Qt} {x : Int32} : ∀ m i, i + m = 16 → Q (.inl none) E (u_I I 63 (fil (I 63) 16 x)) J S → am_ww 13 5 [.ref 63, .int x, .int (nI i), .int (nI 16)] [] E (u_I I 63 (fil (I 63) i x)) J S Q := by
  intro m
  induction m with
  | zero =>
    intro i e h
    have : i = 16 := by omega
    subst this
    apply g13_5_63
    exact ⟨fun _ => h, fun q => absurd (Int32.le_refl _) q⟩
  | succ m ih =>
    intro i e h
    apply g13_5_63
    simp (disch := omega) only [Nat.reduceEqDiff, reduceIte, nI_mulI, nI_add, nI_clamp, nI_ltI, nI_leI, nI_eq, nI_e0, nI_n0, vt, forall_eq, true_and, and_true, true_implies, forall_const, not_true_eq_false, not_false_eq_true, false_implies, implies_true, uI_0, u_I_eq, fil_s]
    exact ⟨fun q => absurd q (by omega), fun _ => ih (i + 1) (by omega) h⟩
theorem c13_63 {E : am_Ev} {I : Nat → Nat → Int32} {J : Nat → Nat → Int64} {S : Nat → Nat → Option Nat} {Q : am_Qt} {x : Int32} (h : Q (.inl none) E (u_I I 63 (fil (I 63) 16 x)) J S) : am_cl 13 [.ref 63, .int x] E I J S Q := by
  show am_ww 13 0 [.ref 63, .int x, am_U, am_U] [] E I J S Q
  apply g13_0_63
  have := c13_l63 (E := E) (I := I) (J := J) (S := S) (Q := Q) (x := x) 16 0 (by omega) h
  rw [fil_0, u_I_id] at this
  exact this
theorem c13_l64 {E : am_Ev} {I : Nat → Nat → Int32} {J : Nat → Nat → Int64} {S : Nat → Nat → Option Nat} {Q : am_Qt} {x : Int32} : ∀ m i, i + m = 4 → Q (.inl none) E (u_I I 64 (fil (I 64) 4 x)) J S → am_ww 13 5 [.ref 64, .int x, .int (nI i), .int (nI 4)] [] E (u_I I 64 (fil (I 64) i x)) J S Q := by
  intro m
  induction m with
  | zero =>
    intro i e h
    have : i = 4 := by omega
    subst this
    apply g13_5_64
    exact ⟨fun _ => h, fun q => absurd (Int32.le_refl _) q⟩
  | succ m ih =>
    intro i e h
    apply g13_5_64
    simp (disch := omega) only [Nat.reduceEqDiff, reduceIte, nI_mulI, nI_add, nI_clamp, nI_ltI, nI_leI, nI_eq, nI_e0, nI_n0, vt, forall_eq, true_and, and_true, true_implies, forall_const, not_true_eq_false, not_false_eq_true, false_implies, implies_true, uI_0, u_I_eq, fil_s]
    exact ⟨fun q => absurd q (by omega), fun _ => ih (i + 1) (by omega) h⟩
theorem c13_64 {E : am_Ev} {I : Nat → Nat → Int32} {J : Nat → Nat → Int64} {S : Nat → Nat → Option Nat} {Q : am_Qt} {x : Int32} (h : Q (.inl none) E (u_I I 64 (fil (I 64) 4 x)) J S) : am_cl 13 [.ref 64, .int x] E I J S Q := by
  show am_ww 13 0 [.ref 64, .int x, am_U, am_U] [] E I J S Q
  apply g13_0_64
  have := c13_l64 (E := E) (I := I) (J := J) (S := S) (Q := Q) (x := x) 4 0 (by omega) h
  rw [fil_0, u_I_id] at this
  exact this
theorem c13_l65 {E : am_Ev} {I : Nat → Nat → Int32} {J : Nat → Nat → Int64} {S : Nat → Nat → Option Nat} {Q : am_Qt} {x : Int32} : ∀ m i, i + m = 4 → Q (.inl none) E (u_I I 65 (fil (I 65) 4 x)) J S → am_ww 13 5 [.ref 65, .int x, .int (nI i), .int (nI 4)] [] E (u_I I 65 (fil (I 65) i x)) J S Q := by
  intro m
  induction m with
  | zero =>
    intro i e h
    have : i = 4 := by omega
    subst this
    apply g13_5_65
    exact ⟨fun _ => h, fun q => absurd (Int32.le_refl _) q⟩
  | succ m ih =>
    intro i e h
    apply g13_5_65
    simp (disch := omega) only [Nat.reduceEqDiff, reduceIte, nI_mulI, nI_add, nI_clamp, nI_ltI, nI_leI, nI_eq, nI_e0, nI_n0, vt, forall_eq, true_and, and_true, true_implies, forall_const, not_true_eq_false, not_false_eq_true, false_implies, implies_true, uI_0, u_I_eq, fil_s]
    exact ⟨fun q => absurd q (by omega), fun _ => ih (i + 1) (by omega) h⟩
theorem c13_65 {E : am_Ev} {I : Nat → Nat → Int32} {J : Nat → Nat → Int64} {S : Nat → Nat → Option Nat} {Q : am_Qt} {x : Int32} (h : Q (.inl none) E (u_I I 65 (fil (I 65) 4 x)) J S) : am_cl 13 [.ref 65, .int x] E I J S Q := by
  show am_ww 13 0 [.ref 65, .int x, am_U, am_U] [] E I J S Q
  apply g13_0_65
  have := c13_l65 (E := E) (I := I) (J := J) (S := S) (Q := Q) (x := x) 4 0 (by omega) h
  rw [fil_0, u_I_id] at this
  exact this
theorem c13_l66 {E : am_Ev} {I : Nat → Nat → Int32} {J : Nat → Nat → Int64} {S : Nat → Nat → Option Nat} {Q : am_Qt} {x : Int32} : ∀ m i, i + m = 4 → Q (.inl none) E (u_I I 66 (fil (I 66) 4 x)) J S → am_ww 13 5 [.ref 66, .int x, .int (nI i), .int (nI 4)] [] E (u_I I 66 (fil (I 66) i x)) J S Q := by
  intro m
  induction m with
  | zero =>
    intro i e h
    have : i = 4 := by omega
    subst this
    apply g13_5_66
    exact ⟨fun _ => h, fun q => absurd (Int32.le_refl _) q⟩
  | succ m ih =>
    intro i e h
    apply g13_5_66
    simp (disch := omega) only [Nat.reduceEqDiff, reduceIte, nI_mulI, nI_add, nI_clamp, nI_ltI, nI_leI, nI_eq, nI_e0, nI_n0, vt, forall_eq, true_and, and_true, true_implies, forall_const, not_true_eq_false, not_false_eq_true, false_implies, implies_true, uI_0, u_I_eq, fil_s]
    exact ⟨fun q => absurd q (by omega), fun _ => ih (i + 1) (by omega) h⟩
theorem c13_66 {E : am_Ev} {I : Nat → Nat → Int32} {J : Nat → Nat → Int64} {S : Nat → Nat → Option Nat} {Q : am_Qt} {x : Int32} (h : Q (.inl none) E (u_I I 66 (fil (I 66) 4 x)) J S) : am_cl 13 [.ref 66, .int x] E I J S Q := by
  show am_ww 13 0 [.ref 66, .int x, am_U, am_U] [] E I J S Q
  apply g13_0_66
  have := c13_l66 (E := E) (I := I) (J := J) (S := S) (Q := Q) (x := x) 4 0 (by omega) h
  rw [fil_0, u_I_id] at this
  exact this
theorem c13_l67 {E : am_Ev} {I : Nat → Nat → Int32} {J : Nat → Nat → Int64} {S : Nat → Nat → Option Nat} {Q : am_Qt} {x : Int32} : ∀ m i, i + m = 3 → Q (.inl none) E (u_I I 67 (fil (I 67) 3 x)) J S → am_ww 13 5 [.ref 67, .int x, .int (nI i), .int (nI 3)] [] E (u_I I 67 (fil (I 67) i x)) J S Q := by
  intro m
  induction m with
  | zero =>
    intro i e h
    have : i = 3 := by omega
    subst this
    apply g13_5_67
    exact ⟨fun _ => h, fun q => absurd (Int32.le_refl _) q⟩
  | succ m ih =>
    intro i e h
    apply g13_5_67
    simp (disch := omega) only [Nat.reduceEqDiff, reduceIte, nI_mulI, nI_add, nI_clamp, nI_ltI, nI_leI, nI_eq, nI_e0, nI_n0, vt, forall_eq, true_and, and_true, true_implies, forall_const, not_true_eq_false, not_false_eq_true, false_implies, implies_true, uI_0, u_I_eq, fil_s]
    exact ⟨fun q => absurd q (by omega), fun _ => ih (i + 1) (by omega) h⟩
theorem c13_67 {E : am_Ev} {I : Nat → Nat → Int32} {J : Nat → Nat → Int64} {S : Nat → Nat → Option Nat} {Q : am_Qt} {x : Int32} (h : Q (.inl none) E (u_I I 67 (fil (I 67) 3 x)) J S) : am_cl 13 [.ref 67, .int x] E I J S Q := by
  show am_ww 13 0 [.ref 67, .int x, am_U, am_U] [] E I J S Q
  apply g13_0_67
  have := c13_l67 (E := E) (I := I) (J := J) (S := S) (Q := Q) (x := x) 3 0 (by omega) h
  rw [fil_0, u_I_id] at this
  exact this
theorem c13_l71 {E : am_Ev} {I : Nat → Nat → Int32} {J : Nat → Nat → Int64} {S : Nat → Nat → Option Nat} {Q : am_Qt} {x : Int32} : ∀ m i, i + m = 16 → Q (.inl none) E (u_I I 71 (fil (I 71) 16 x)) J S → am_ww 13 5 [.ref 71, .int x, .int (nI i), .int (nI 16)] [] E (u_I I 71 (fil (I 71) i x)) J S Q := by
  intro m
  induction m with
  | zero =>
    intro i e h
    have : i = 16 := by omega
    subst this
    apply g13_5_71
    exact ⟨fun _ => h, fun q => absurd (Int32.le_refl _) q⟩
  | succ m ih =>
    intro i e h
    apply g13_5_71
    simp (disch := omega) only [Nat.reduceEqDiff, reduceIte, nI_mulI, nI_add, nI_clamp, nI_ltI, nI_leI, nI_eq, nI_e0, nI_n0, vt, forall_eq, true_and, and_true, true_implies, forall_const, not_true_eq_false, not_false_eq_true, false_implies, implies_true, uI_0, u_I_eq, fil_s]
    exact ⟨fun q => absurd q (by omega), fun _ => ih (i + 1) (by omega) h⟩
theorem c13_71 {E : am_Ev} {I : Nat → Nat → Int32} {J : Nat → Nat → Int64} {S : Nat → Nat → Option Nat} {Q : am_Qt} {x : Int32} (h : Q (.inl none) E (u_I I 71 (fil (I 71) 16 x)) J S) : am_cl 13 [.ref 71, .int x] E I J S Q := by
  show am_ww 13 0 [.ref 71, .int x, am_U, am_U] [] E I J S Q
  apply g13_0_71
  have := c13_l71 (E := E) (I := I) (J := J) (S := S) (Q := Q) (x := x) 16 0 (by omega) h
  rw [fil_0, u_I_id] at this
  exact this
theorem c13_l72 {E : am_Ev} {I : Nat → Nat → Int32} {J : Nat → Nat → Int64} {S : Nat → Nat → Option Nat} {Q : am_Qt} {x : Int32} : ∀ m i, i + m = 4 → Q (.inl none) E (u_I I 72 (fil (I 72) 4 x)) J S → am_ww 13 5 [.ref 72, .int x, .int (nI i), .int (nI 4)] [] E (u_I I 72 (fil (I 72) i x)) J S Q := by
  intro m
  induction m with
  | zero =>
    intro i e h
    have : i = 4 := by omega
    subst this
    apply g13_5_72
    exact ⟨fun _ => h, fun q => absurd (Int32.le_refl _) q⟩
  | succ m ih =>
    intro i e h
    apply g13_5_72
    simp (disch := omega) only [Nat.reduceEqDiff, reduceIte, nI_mulI, nI_add, nI_clamp, nI_ltI, nI_leI, nI_eq, nI_e0, nI_n0, vt, forall_eq, true_and, and_true, true_implies, forall_const, not_true_eq_false, not_false_eq_true, false_implies, implies_true, uI_0, u_I_eq, fil_s]
    exact ⟨fun q => absurd q (by omega), fun _ => ih (i + 1) (by omega) h⟩
theorem c13_72 {E : am_Ev} {I : Nat → Nat → Int32} {J : Nat → Nat → Int64} {S : Nat → Nat → Option Nat} {Q : am_Qt} {x : Int32} (h : Q (.inl none) E (u_I I 72 (fil (I 72) 4 x)) J S) : am_cl 13 [.ref 72, .int x] E I J S Q := by
  show am_ww 13 0 [.ref 72, .int x, am_U, am_U] [] E I J S Q
  apply g13_0_72
  have := c13_l72 (E := E) (I := I) (J := J) (S := S) (Q := Q) (x := x) 4 0 (by omega) h
  rw [fil_0, u_I_id] at this
  exact this
theorem c13_l73 {E : am_Ev} {I : Nat → Nat → Int32} {J : Nat → Nat → Int64} {S : Nat → Nat → Option Nat} {Q : am_Qt} {x : Int32} : ∀ m i, i + m = 4 → Q (.inl none) E (u_I I 73 (fil (I 73) 4 x)) J S → am_ww 13 5 [.ref 73, .int x, .int (nI i), .int (nI 4)] [] E (u_I I 73 (fil (I 73) i x)) J S Q := by
  intro m
  induction m with
  | zero =>
    intro i e h
    have : i = 4 := by omega
    subst this
    apply g13_5_73
    exact ⟨fun _ => h, fun q => absurd (Int32.le_refl _) q⟩
  | succ m ih =>
    intro i e h
    apply g13_5_73
    simp (disch := omega) only [Nat.reduceEqDiff, reduceIte, nI_mulI, nI_add, nI_clamp, nI_ltI, nI_leI, nI_eq, nI_e0, nI_n0, vt, forall_eq, true_and, and_true, true_implies, forall_const, not_true_eq_false, not_false_eq_true, false_implies, implies_true, uI_0, u_I_eq, fil_s]
    exact ⟨fun q => absurd q (by omega), fun _ => ih (i + 1) (by omega) h⟩
theorem c13_73 {E : am_Ev} {I : Nat → Nat → Int32} {J : Nat → Nat → Int64} {S : Nat → Nat → Option Nat} {Q : am_Qt} {x : Int32} (h : Q (.inl none) E (u_I I 73 (fil (I 73) 4 x)) J S) : am_cl 13 [.ref 73, .int x] E I J S Q := by
  show am_ww 13 0 [.ref 73, .int x, am_U, am_U] [] E I J S Q
  apply g13_0_73
  have := c13_l73 (E := E) (I := I) (J := J) (S := S) (Q := Q) (x := x) 4 0 (by omega) h
  rw [fil_0, u_I_id] at this
  exact this
theorem c13_l74 {E : am_Ev} {I : Nat → Nat → Int32} {J : Nat → Nat → Int64} {S : Nat → Nat → Option Nat} {Q : am_Qt} {x : Int32} : ∀ m i, i + m = 4 → Q (.inl none) E (u_I I 74 (fil (I 74) 4 x)) J S → am_ww 13 5 [.ref 74, .int x, .int (nI i), .int (nI 4)] [] E (u_I I 74 (fil (I 74) i x)) J S Q := by
  intro m
  induction m with
  | zero =>
    intro i e h
    have : i = 4 := by omega
    subst this
    apply g13_5_74
    exact ⟨fun _ => h, fun q => absurd (Int32.le_refl _) q⟩
  | succ m ih =>
    intro i e h
    apply g13_5_74
    simp (disch := omega) only [Nat.reduceEqDiff, reduceIte, nI_mulI, nI_add, nI_clamp, nI_ltI, nI_leI, nI_eq, nI_e0, nI_n0, vt, forall_eq, true_and, and_true, true_implies, forall_const, not_true_eq_false, not_false_eq_true, false_implies, implies_true, uI_0, u_I_eq, fil_s]
    exact ⟨fun q => absurd q (by omega), fun _ => ih (i + 1) (by omega) h⟩
theorem c13_74 {E : am_Ev} {I : Nat → Nat → Int32} {J : Nat → Nat → Int64} {S : Nat → Nat → Option Nat} {Q : am_Qt} {x : Int32} (h : Q (.inl none) E (u_I I 74 (fil (I 74) 4 x)) J S) : am_cl 13 [.ref 74, .int x] E I J S Q := by
  show am_ww 13 0 [.ref 74, .int x, am_U, am_U] [] E I J S Q
  apply g13_0_74
  have := c13_l74 (E := E) (I := I) (J := J) (S := S) (Q := Q) (x := x) 4 0 (by omega) h
  rw [fil_0, u_I_id] at this
  exact this
theorem c13_l75 {E : am_Ev} {I : Nat → Nat → Int32} {J : Nat → Nat → Int64} {S : Nat → Nat → Option Nat} {Q : am_Qt} {x : Int32} : ∀ m i, i + m = 3 → Q (.inl none) E (u_I I 75 (fil (I 75) 3 x)) J S → am_ww 13 5 [.ref 75, .int x, .int (nI i), .int (nI 3)] [] E (u_I I 75 (fil (I 75) i x)) J S Q := by
  intro m
  induction m with
  | zero =>
    intro i e h
    have : i = 3 := by omega
    subst this
    apply g13_5_75
    exact ⟨fun _ => h, fun q => absurd (Int32.le_refl _) q⟩
  | succ m ih =>
    intro i e h
    apply g13_5_75
    simp (disch := omega) only [Nat.reduceEqDiff, reduceIte, nI_mulI, nI_add, nI_clamp, nI_ltI, nI_leI, nI_eq, nI_e0, nI_n0, vt, forall_eq, true_and, and_true, true_implies, forall_const, not_true_eq_false, not_false_eq_true, false_implies, implies_true, uI_0, u_I_eq, fil_s]
    exact ⟨fun q => absurd q (by omega), fun _ => ih (i + 1) (by omega) h⟩
theorem c13_75 {E : am_Ev} {I : Nat → Nat → Int32} {J : Nat → Nat → Int64} {S : Nat → Nat → Option Nat} {Q : am_Qt} {x : Int32} (h : Q (.inl none) E (u_I I 75 (fil (I 75) 3 x)) J S) : am_cl 13 [.ref 75, .int x] E I J S Q := by
  show am_ww 13 0 [.ref 75, .int x, am_U, am_U] [] E I J S Q
  apply g13_0_75
  have := c13_l75 (E := E) (I := I) (J := J) (S := S) (Q := Q) (x := x) 3 0 (by omega) h
  rw [fil_0, u_I_id] at this
  exact this
theorem c13_l79 {E : am_Ev} {I : Nat → Nat → Int32} {J : Nat → Nat → Int64} {S : Nat → Nat → Option Nat} {Q : am_Qt} {x : Int32} : ∀ m i, i + m = 16 → Q (.inl none) E (u_I I 79 (fil (I 79) 16 x)) J S → am_ww 13 5 [.ref 79, .int x, .int (nI i), .int (nI 16)] [] E (u_I I 79 (fil (I 79) i x)) J S Q := by
  intro m
  induction m with
  | zero =>
    intro i e h
    have : i = 16 := by omega
    subst this
    apply g13_5_79
    exact ⟨fun _ => h, fun q => absurd (Int32.le_refl _) q⟩
  | succ m ih =>
    intro i e h
    apply g13_5_79
    simp (disch := omega) only [Nat.reduceEqDiff, reduceIte, nI_mulI, nI_add, nI_clamp, nI_ltI, nI_leI, nI_eq, nI_e0, nI_n0, vt, forall_eq, true_and, and_true, true_implies, forall_const, not_true_eq_false, not_false_eq_true, false_implies, implies_true, uI_0, u_I_eq, fil_s]
    exact ⟨fun q => absurd q (by omega), fun _ => ih (i + 1) (by omega) h⟩
theorem c13_79 {E : am_Ev} {I : Nat → Nat → Int32} {J : Nat → Nat → Int64} {S : Nat → Nat → Option Nat} {Q : am_Qt} {x : Int32} (h : Q (.inl none) E (u_I I 79 (fil (I 79) 16 x)) J S) : am_cl 13 [.ref 79, .int x] E I J S Q := by
  show am_ww 13 0 [.ref 79, .int x, am_U, am_U] [] E I J S Q
  apply g13_0_79
  have := c13_l79 (E := E) (I := I) (J := J) (S := S) (Q := Q) (x := x) 16 0 (by omega) h
  rw [fil_0, u_I_id] at this
  exact this
theorem c13_l80 {E : am_Ev} {I : Nat → Nat → Int32} {J : Nat → Nat → Int64} {S : Nat → Nat → Option Nat} {Q : am_Qt} {x : Int32} : ∀ m i, i + m = 4 → Q (.inl none) E (u_I I 80 (fil (I 80) 4 x)) J S → am_ww 13 5 [.ref 80, .int x, .int (nI i), .int (nI 4)] [] E (u_I I 80 (fil (I 80) i x)) J S Q := by
  intro m
  induction m with
  | zero =>
    intro i e h
    have : i = 4 := by omega
    subst this
    apply g13_5_80
    exact ⟨fun _ => h, fun q => absurd (Int32.le_refl _) q⟩
  | succ m ih =>
    intro i e h
    apply g13_5_80
    simp (disch := omega) only [Nat.reduceEqDiff, reduceIte, nI_mulI, nI_add, nI_clamp, nI_ltI, nI_leI, nI_eq, nI_e0, nI_n0, vt, forall_eq, true_and, and_true, true_implies, forall_const, not_true_eq_false, not_false_eq_true, false_implies, implies_true, uI_0, u_I_eq, fil_s]
    exact ⟨fun q => absurd q (by omega), fun _ => ih (i + 1) (by omega) h⟩
theorem c13_80 {E : am_Ev} {I : Nat → Nat → Int32} {J : Nat → Nat → Int64} {S : Nat → Nat → Option Nat} {Q : am_Qt} {x : Int32} (h : Q (.inl none) E (u_I I 80 (fil (I 80) 4 x)) J S) : am_cl 13 [.ref 80, .int x] E I J S Q := by
  show am_ww 13 0 [.ref 80, .int x, am_U, am_U] [] E I J S Q
  apply g13_0_80
  have := c13_l80 (E := E) (I := I) (J := J) (S := S) (Q := Q) (x := x) 4 0 (by omega) h
  rw [fil_0, u_I_id] at this
  exact this
theorem c13_l81 {E : am_Ev} {I : Nat → Nat → Int32} {J : Nat → Nat → Int64} {S : Nat → Nat → Option Nat} {Q : am_Qt} {x : Int32} : ∀ m i, i + m = 4 → Q (.inl none) E (u_I I 81 (fil (I 81) 4 x)) J S → am_ww 13 5 [.ref 81, .int x, .int (nI i), .int (nI 4)] [] E (u_I I 81 (fil (I 81) i x)) J S Q := by
  intro m
  induction m with
  | zero =>
    intro i e h
    have : i = 4 := by omega
    subst this
    apply g13_5_81
    exact ⟨fun _ => h, fun q => absurd (Int32.le_refl _) q⟩
  | succ m ih =>
    intro i e h
    apply g13_5_81
    simp (disch := omega) only [Nat.reduceEqDiff, reduceIte, nI_mulI, nI_add, nI_clamp, nI_ltI, nI_leI, nI_eq, nI_e0, nI_n0, vt, forall_eq, true_and, and_true, true_implies, forall_const, not_true_eq_false, not_false_eq_true, false_implies, implies_true, uI_0, u_I_eq, fil_s]
    exact ⟨fun q => absurd q (by omega), fun _ => ih (i + 1) (by omega) h⟩
theorem c13_81 {E : am_Ev} {I : Nat → Nat → Int32} {J : Nat → Nat → Int64} {S : Nat → Nat → Option Nat} {Q : am_Qt} {x : Int32} (h : Q (.inl none) E (u_I I 81 (fil (I 81) 4 x)) J S) : am_cl 13 [.ref 81, .int x] E I J S Q := by
  show am_ww 13 0 [.ref 81, .int x, am_U, am_U] [] E I J S Q
  apply g13_0_81
  have := c13_l81 (E := E) (I := I) (J := J) (S := S) (Q := Q) (x := x) 4 0 (by omega) h
  rw [fil_0, u_I_id] at this
  exact this
theorem c13_l82 {E : am_Ev} {I : Nat → Nat → Int32} {J : Nat → Nat → Int64} {S : Nat → Nat → Option Nat} {Q : am_Qt} {x : Int32} : ∀ m i, i + m = 4 → Q (.inl none) E (u_I I 82 (fil (I 82) 4 x)) J S → am_ww 13 5 [.ref 82, .int x, .int (nI i), .int (nI 4)] [] E (u_I I 82 (fil (I 82) i x)) J S Q := by
  intro m
  induction m with
  | zero =>
    intro i e h
    have : i = 4 := by omega
    subst this
    apply g13_5_82
    exact ⟨fun _ => h, fun q => absurd (Int32.le_refl _) q⟩
  | succ m ih =>
    intro i e h
    apply g13_5_82
    simp (disch := omega) only [Nat.reduceEqDiff, reduceIte, nI_mulI, nI_add, nI_clamp, nI_ltI, nI_leI, nI_eq, nI_e0, nI_n0, vt, forall_eq, true_and, and_true, true_implies, forall_const, not_true_eq_false, not_false_eq_true, false_implies, implies_true, uI_0, u_I_eq, fil_s]
    exact ⟨fun q => absurd q (by omega), fun _ => ih (i + 1) (by omega) h⟩
theorem c13_82 {E : am_Ev} {I : Nat → Nat → Int32} {J : Nat → Nat → Int64} {S : Nat → Nat → Option Nat} {Q : am_Qt} {x : Int32} (h : Q (.inl none) E (u_I I 82 (fil (I 82) 4 x)) J S) : am_cl 13 [.ref 82, .int x] E I J S Q := by
  show am_ww 13 0 [.ref 82, .int x, am_U, am_U] [] E I J S Q
  apply g13_0_82
  have := c13_l82 (E := E) (I := I) (J := J) (S := S) (Q := Q) (x := x) 4 0 (by omega) h
  rw [fil_0, u_I_id] at this
  exact this
theorem c13_l83 {E : am_Ev} {I : Nat → Nat → Int32} {J : Nat → Nat → Int64} {S : Nat → Nat → Option Nat} {Q : am_Qt} {x : Int32} : ∀ m i, i + m = 3 → Q (.inl none) E (u_I I 83 (fil (I 83) 3 x)) J S → am_ww 13 5 [.ref 83, .int x, .int (nI i), .int (nI 3)] [] E (u_I I 83 (fil (I 83) i x)) J S Q := by
  intro m
  induction m with
  | zero =>
    intro i e h
    have : i = 3 := by omega
    subst this
    apply g13_5_83
    exact ⟨fun _ => h, fun q => absurd (Int32.le_refl _) q⟩
  | succ m ih =>
    intro i e h
    apply g13_5_83
    simp (disch := omega) only [Nat.reduceEqDiff, reduceIte, nI_mulI, nI_add, nI_clamp, nI_ltI, nI_leI, nI_eq, nI_e0, nI_n0, vt, forall_eq, true_and, and_true, true_implies, forall_const, not_true_eq_false, not_false_eq_true, false_implies, implies_true, uI_0, u_I_eq, fil_s]
    exact ⟨fun q => absurd q (by omega), fun _ => ih (i + 1) (by omega) h⟩
theorem c13_83 {E : am_Ev} {I : Nat → Nat → Int32} {J : Nat → Nat → Int64} {S : Nat → Nat → Option Nat} {Q : am_Qt} {x : Int32} (h : Q (.inl none) E (u_I I 83 (fil (I 83) 3 x)) J S) : am_cl 13 [.ref 83, .int x] E I J S Q := by
  show am_ww 13 0 [.ref 83, .int x, am_U, am_U] [] E I J S Q
  apply g13_0_83
  have := c13_l83 (E := E) (I := I) (J := J) (S := S) (Q := Q) (x := x) 3 0 (by omega) h
  rw [fil_0, u_I_id] at this
  exact this
theorem c13_l88 {E : am_Ev} {I : Nat → Nat → Int32} {J : Nat → Nat → Int64} {S : Nat → Nat → Option Nat} {Q : am_Qt} {x : Int32} : ∀ m i, i + m = 4 → Q (.inl none) E (u_I I 88 (fil (I 88) 4 x)) J S → am_ww 13 5 [.ref 88, .int x, .int (nI i), .int (nI 4)] [] E (u_I I 88 (fil (I 88) i x)) J S Q := by
  intro m
  induction m with
  | zero =>
    intro i e h
    have : i = 4 := by omega
    subst this
    apply g13_5_88
    exact ⟨fun _ => h, fun q => absurd (Int32.le_refl _) q⟩
  | succ m ih =>
    intro i e h
    apply g13_5_88
    simp (disch := omega) only [Nat.reduceEqDiff, reduceIte, nI_mulI, nI_add, nI_clamp, nI_ltI, nI_leI, nI_eq, nI_e0, nI_n0, vt, forall_eq, true_and, and_true, true_implies, forall_const, not_true_eq_false, not_false_eq_true, false_implies, implies_true, uI_0, u_I_eq, fil_s]
    exact ⟨fun q => absurd q (by omega), fun _ => ih (i + 1) (by omega) h⟩
theorem c13_88 {E : am_Ev} {I : Nat → Nat → Int32} {J : Nat → Nat → Int64} {S : Nat → Nat → Option Nat} {Q : am_Qt} {x : Int32} (h : Q (.inl none) E (u_I I 88 (fil (I 88) 4 x)) J S) : am_cl 13 [.ref 88, .int x] E I J S Q := by
  show am_ww 13 0 [.ref 88, .int x, am_U, am_U] [] E I J S Q
  apply g13_0_88
  have := c13_l88 (E := E) (I := I) (J := J) (S := S) (Q := Q) (x := x) 4 0 (by omega) h
  rw [fil_0, u_I_id] at this
  exact this
theorem c13_l90 {E : am_Ev} {I : Nat → Nat → Int32} {J : Nat → Nat → Int64} {S : Nat → Nat → Option Nat} {Q : am_Qt} {x : Int32} : ∀ m i, i + m = 401 → Q (.inl none) E (u_I I 90 (fil (I 90) 401 x)) J S → am_ww 13 5 [.ref 90, .int x, .int (nI i), .int (nI 401)] [] E (u_I I 90 (fil (I 90) i x)) J S Q := by
  intro m
  induction m with
  | zero =>
    intro i e h
    have : i = 401 := by omega
    subst this
    apply g13_5_90
    exact ⟨fun _ => h, fun q => absurd (Int32.le_refl _) q⟩
  | succ m ih =>
    intro i e h
    apply g13_5_90
    simp (disch := omega) only [Nat.reduceEqDiff, reduceIte, nI_mulI, nI_add, nI_clamp, nI_ltI, nI_leI, nI_eq, nI_e0, nI_n0, vt, forall_eq, true_and, and_true, true_implies, forall_const, not_true_eq_false, not_false_eq_true, false_implies, implies_true, uI_0, u_I_eq, fil_s]
    exact ⟨fun q => absurd q (by omega), fun _ => ih (i + 1) (by omega) h⟩
theorem c13_90 {E : am_Ev} {I : Nat → Nat → Int32} {J : Nat → Nat → Int64} {S : Nat → Nat → Option Nat} {Q : am_Qt} {x : Int32} (h : Q (.inl none) E (u_I I 90 (fil (I 90) 401 x)) J S) : am_cl 13 [.ref 90, .int x] E I J S Q := by
  show am_ww 13 0 [.ref 90, .int x, am_U, am_U] [] E I J S Q
  apply g13_0_90
  have := c13_l90 (E := E) (I := I) (J := J) (S := S) (Q := Q) (x := x) 401 0 (by omega) h
  rw [fil_0, u_I_id] at this
  exact this
theorem c13_l93 {E : am_Ev} {I : Nat → Nat → Int32} {J : Nat → Nat → Int64} {S : Nat → Nat → Option Nat} {Q : am_Qt} {x : Int32} : ∀ m i, i + m = 16 → Q (.inl none) E (u_I I 93 (fil (I 93) 16 x)) J S → am_ww 13 5 [.ref 93, .int x, .int (nI i), .int (nI 16)] [] E (u_I I 93 (fil (I 93) i x)) J S Q := by
  intro m
  induction m with
  | zero =>
    intro i e h
    have : i = 16 := by omega
    subst this
    apply g13_5_93
    exact ⟨fun _ => h, fun q => absurd (Int32.le_refl _) q⟩
  | succ m ih =>
    intro i e h
    apply g13_5_93
    simp (disch := omega) only [Nat.reduceEqDiff, reduceIte, nI_mulI, nI_add, nI_clamp, nI_ltI, nI_leI, nI_eq, nI_e0, nI_n0, vt, forall_eq, true_and, and_true, true_implies, forall_const, not_true_eq_false, not_false_eq_true, false_implies, implies_true, uI_0, u_I_eq, fil_s]
    exact ⟨fun q => absurd q (by omega), fun _ => ih (i + 1) (by omega) h⟩
theorem c13_93 {E : am_Ev} {I : Nat → Nat → Int32} {J : Nat → Nat → Int64} {S : Nat → Nat → Option Nat} {Q : am_Qt} {x : Int32} (h : Q (.inl none) E (u_I I 93 (fil (I 93) 16 x)) J S) : am_cl 13 [.ref 93, .int x] E I J S Q := by
  show am_ww 13 0 [.ref 93, .int x, am_U, am_U] [] E I J S Q
  apply g13_0_93
  have := c13_l93 (E := E) (I := I) (J := J) (S := S) (Q := Q) (x := x) 16 0 (by omega) h
  rw [fil_0, u_I_id] at this
  exact this
theorem c13_l94 {E : am_Ev} {I : Nat → Nat → Int32} {J : Nat → Nat → Int64} {S : Nat → Nat → Option Nat} {Q : am_Qt} {x : Int32} : ∀ m i, i + m = 16 → Q (.inl none) E (u_I I 94 (fil (I 94) 16 x)) J S → am_ww 13 5 [.ref 94, .int x, .int (nI i), .int (nI 16)] [] E (u_I I 94 (fil (I 94) i x)) J S Q := by
  intro m
  induction m with
  | zero =>
    intro i e h
    have : i = 16 := by omega
    subst this
    apply g13_5_94
    exact ⟨fun _ => h, fun q => absurd (Int32.le_refl _) q⟩
  | succ m ih =>
    intro i e h
    apply g13_5_94
    simp (disch := omega) only [Nat.reduceEqDiff, reduceIte, nI_mulI, nI_add, nI_clamp, nI_ltI, nI_leI, nI_eq, nI_e0, nI_n0, vt, forall_eq, true_and, and_true, true_implies, forall_const, not_true_eq_false, not_false_eq_true, false_implies, implies_true, uI_0, u_I_eq, fil_s]
    exact ⟨fun q => absurd q (by omega), fun _ => ih (i + 1) (by omega) h⟩
theorem c13_94 {E : am_Ev} {I : Nat → Nat → Int32} {J : Nat → Nat → Int64} {S : Nat → Nat → Option Nat} {Q : am_Qt} {x : Int32} (h : Q (.inl none) E (u_I I 94 (fil (I 94) 16 x)) J S) : am_cl 13 [.ref 94, .int x] E I J S Q := by
  show am_ww 13 0 [.ref 94, .int x, am_U, am_U] [] E I J S Q
  apply g13_0_94
  have := c13_l94 (E := E) (I := I) (J := J) (S := S) (Q := Q) (x := x) 16 0 (by omega) h
  rw [fil_0, u_I_id] at this
  exact this
theorem c13_l98 {E : am_Ev} {I : Nat → Nat → Int32} {J : Nat → Nat → Int64} {S : Nat → Nat → Option Nat} {Q : am_Qt} {x : Int32} : ∀ m i, i + m = 64 → Q (.inl none) E (u_I I 98 (fil (I 98) 64 x)) J S → am_ww 13 5 [.ref 98, .int x, .int (nI i), .int (nI 64)] [] E (u_I I 98 (fil (I 98) i x)) J S Q := by
  intro m
  induction m with
  | zero =>
    intro i e h
    have : i = 64 := by omega
    subst this
    apply g13_5_98
    exact ⟨fun _ => h, fun q => absurd (Int32.le_refl _) q⟩
  | succ m ih =>
    intro i e h
    apply g13_5_98
    simp (disch := omega) only [Nat.reduceEqDiff, reduceIte, nI_mulI, nI_add, nI_clamp, nI_ltI, nI_leI, nI_eq, nI_e0, nI_n0, vt, forall_eq, true_and, and_true, true_implies, forall_const, not_true_eq_false, not_false_eq_true, false_implies, implies_true, uI_0, u_I_eq, fil_s]
    exact ⟨fun q => absurd q (by omega), fun _ => ih (i + 1) (by omega) h⟩
theorem c13_98 {E : am_Ev} {I : Nat → Nat → Int32} {J : Nat → Nat → Int64} {S : Nat → Nat → Option Nat} {Q : am_Qt} {x : Int32} (h : Q (.inl none) E (u_I I 98 (fil (I 98) 64 x)) J S) : am_cl 13 [.ref 98, .int x] E I J S Q := by
  show am_ww 13 0 [.ref 98, .int x, am_U, am_U] [] E I J S Q
  apply g13_0_98
  have := c13_l98 (E := E) (I := I) (J := J) (S := S) (Q := Q) (x := x) 64 0 (by omega) h
  rw [fil_0, u_I_id] at this
  exact this
theorem c62_l9 {E : am_Ev} {I : Nat → Nat → Int32} {J : Nat → Nat → Int64} {S : Nat → Nat → Option Nat} {Q : am_Qt} {x : Int64} : ∀ m i, i + m = 64 → Q (.inl none) E I (u_J J 9 (filL (J 9) 64 x)) S → am_ww 62 5 [.ref 9, .long x, am_U, .int (nI i), .int (nI 64)] [] E I (u_J J 9 (filL (J 9) i x)) S Q := by
  intro m
  induction m with
  | zero =>
    intro i e h
    have : i = 64 := by omega
    subst this
    apply g62_5_9 rfl
    exact ⟨fun _ => h, fun q => absurd (Int32.le_refl _) q⟩
  | succ m ih =>
    intro i e h
    apply g62_5_9 rfl
    simp (disch := omega) only [Nat.reduceEqDiff, reduceIte, nI_mulI, nI_add, nI_clamp, nI_ltI, nI_leI, nI_eq, nI_e0, nI_n0, vt, forall_eq, true_and, and_true, true_implies, forall_const, not_true_eq_false, not_false_eq_true, false_implies, implies_true, uJ_0, u_J_eq, filL_s]
    exact ⟨fun q => absurd q (by omega), fun _ => ih (i + 1) (by omega) h⟩
theorem c62_9 {E : am_Ev} {I : Nat → Nat → Int32} {J : Nat → Nat → Int64} {S : Nat → Nat → Option Nat} {Q : am_Qt} {x : Int64} (h : Q (.inl none) E I (u_J J 9 (filL (J 9) 64 x)) S) : am_cl 62 [.ref 9, .long x] E I J S Q := by
  show am_ww 62 0 [.ref 9, .long x, am_U, am_U, am_U] [] E I J S Q
  apply g62_0_9
  have := c62_l9 (E := E) (I := I) (J := J) (S := S) (Q := Q) (x := x) 64 0 (by omega) h
  rw [filL_0, u_J_id] at this
  exact this
theorem c62_l10 {E : am_Ev} {I : Nat → Nat → Int32} {J : Nat → Nat → Int64} {S : Nat → Nat → Option Nat} {Q : am_Qt} {x : Int64} : ∀ m i, i + m = 64 → Q (.inl none) E I (u_J J 10 (filL (J 10) 64 x)) S → am_ww 62 5 [.ref 10, .long x, am_U, .int (nI i), .int (nI 64)] [] E I (u_J J 10 (filL (J 10) i x)) S Q := by
  intro m
  induction m with
  | zero =>
    intro i e h
    have : i = 64 := by omega
    subst this
    apply g62_5_10 rfl
    exact ⟨fun _ => h, fun q => absurd (Int32.le_refl _) q⟩
  | succ m ih =>
    intro i e h
    apply g62_5_10 rfl
    simp (disch := omega) only [Nat.reduceEqDiff, reduceIte, nI_mulI, nI_add, nI_clamp, nI_ltI, nI_leI, nI_eq, nI_e0, nI_n0, vt, forall_eq, true_and, and_true, true_implies, forall_const, not_true_eq_false, not_false_eq_true, false_implies, implies_true, uJ_0, u_J_eq, filL_s]
    exact ⟨fun q => absurd q (by omega), fun _ => ih (i + 1) (by omega) h⟩
theorem c62_10 {E : am_Ev} {I : Nat → Nat → Int32} {J : Nat → Nat → Int64} {S : Nat → Nat → Option Nat} {Q : am_Qt} {x : Int64} (h : Q (.inl none) E I (u_J J 10 (filL (J 10) 64 x)) S) : am_cl 62 [.ref 10, .long x] E I J S Q := by
  show am_ww 62 0 [.ref 10, .long x, am_U, am_U, am_U] [] E I J S Q
  apply g62_0_10
  have := c62_l10 (E := E) (I := I) (J := J) (S := S) (Q := Q) (x := x) 64 0 (by omega) h
  rw [filL_0, u_J_id] at this
  exact this
theorem c62_l95 {E : am_Ev} {I : Nat → Nat → Int32} {J : Nat → Nat → Int64} {S : Nat → Nat → Option Nat} {Q : am_Qt} {x : Int64} : ∀ m i, i + m = 64 → Q (.inl none) E I (u_J J 95 (filL (J 95) 64 x)) S → am_ww 62 5 [.ref 95, .long x, am_U, .int (nI i), .int (nI 64)] [] E I (u_J J 95 (filL (J 95) i x)) S Q := by
  intro m
  induction m with
  | zero =>
    intro i e h
    have : i = 64 := by omega
    subst this
    apply g62_5_95 rfl
    exact ⟨fun _ => h, fun q => absurd (Int32.le_refl _) q⟩
  | succ m ih =>
    intro i e h
    apply g62_5_95 rfl
    simp (disch := omega) only [Nat.reduceEqDiff, reduceIte, nI_mulI, nI_add, nI_clamp, nI_ltI, nI_leI, nI_eq, nI_e0, nI_n0, vt, forall_eq, true_and, and_true, true_implies, forall_const, not_true_eq_false, not_false_eq_true, false_implies, implies_true, uJ_0, u_J_eq, filL_s]
    exact ⟨fun q => absurd q (by omega), fun _ => ih (i + 1) (by omega) h⟩
theorem c62_95 {E : am_Ev} {I : Nat → Nat → Int32} {J : Nat → Nat → Int64} {S : Nat → Nat → Option Nat} {Q : am_Qt} {x : Int64} (h : Q (.inl none) E I (u_J J 95 (filL (J 95) 64 x)) S) : am_cl 62 [.ref 95, .long x] E I J S Q := by
  show am_ww 62 0 [.ref 95, .long x, am_U, am_U, am_U] [] E I J S Q
  apply g62_0_95
  have := c62_l95 (E := E) (I := I) (J := J) (S := S) (Q := Q) (x := x) 64 0 (by omega) h
  rw [filL_0, u_J_id] at this
  exact this
/-- the first row -/
def m_first (P : Nat → Nat → Int32) (seed : Int32) (k : Nat) : Int32 := if k < 16 then P 104 k else if 40 ≤ k ∧ k < 45 then -1 else if k = 46 then seed else nI 0
theorem m_first_c {P : Nat → Nat → Int32} {seed : Int32} {k : Nat} (h : k < 16) : m_first P seed k = P 104 k := if_pos h
theorem m_first_l {P : Nat → Nat → Int32} {seed : Int32} {k : Nat} (h : 40 ≤ k) (h2 : k < 45) : m_first P seed k = -1 := by
  unfold m_first
  rw [if_neg (by omega), if_pos (by omega)]
theorem m_first_0 {P : Nat → Nat → Int32} {seed : Int32} {k : Nat} (h : 16 ≤ k) (h2 : k < 40 ∨ 45 ≤ k) (h3 : k ≠ 46) : m_first P seed k = nI 0 := by
  unfold m_first
  rw [if_neg (by omega), if_neg (by omega), if_neg (by omega)]
theorem m_first_d {P : Nat → Nat → Int32} {seed : Int32} : m_first P seed 46 = seed := by
  unfold m_first
  rw [if_neg (by omega), if_neg (by omega), if_pos rfl]
theorem m_first_ok {P : Nat → Nat → Int32} {seed : Int32} (hp : p_in P) : r_ok P (m_first P seed) := by
  have hm := vb hp.1
  refine ⟨fun t ht => ?_, fun l hl => Or.inl (m_first_l (by omega) (by omega)), Or.inl (m_first_l (by omega) (by omega)), fun s hs => ?_⟩
  · rw [m_first_0 (by omega) (by omega) (by omega)]
    exact vp_in_nI (by omega) (by have := vb (hp.2 t ht).1; omega)
  · rw [m_first_0 (by omega) (by omega) (by omega)]
    exact vp_in_nI (by omega) (by omega)
theorem c16_20 {E : am_Ev} {I : Nat → Nat → Int32} {J : Nat → Nat → Int64} {S : Nat → Nat → Option Nat} {Q : am_Qt} {seed : Int32} (hc : ∀ k, k < 16 → I 16 k = I 104 k) (h : ∀ I', rm I' 20 (m_first I seed) → fb I I' 20 26 → Q (.inl none) E I' J S) : am_cl 16 [.ref 20, .ref 12] E I J S Q := by
  show am_ww 16 0 [.ref 20, .ref 12] [] E I J S Q
  apply g16_0_20
  refine c13_22 (q_mkV (c13_23 (q_mkV (c13_24 (q_mkV (c13_25 (q_mkV (c13_26 (q_mkV (h _ ?_ ?_))))))))))
  · refine ⟨fun k hk => ?_, fun t j ht hj => ?_, fun t ht => ?_, fun t ht => ?_, fun l hl => ?_, ?_, fun s hs => ?_⟩
    · rw [u_I_ne (by decide), u_I_ne (by decide), u_I_ne (by decide), u_I_ne (by decide), u_I_ne (by decide), u_I_ne (by decide), u_I_eq, m_first_c hk]
      show va_cpy (I 16) (I 21) 0 0 16 k = _
      unfold va_cpy
      rw [if_pos (by omega)]
      show I 16 (0 + (k - 0)) = _
      rw [show 0 + (k - 0) = k by omega]
      exact hc k hk
    · rw [u_I_ne (by decide), u_I_ne (by decide), u_I_ne (by decide), u_I_ne (by decide), u_I_ne (by decide), u_I_eq, fil_in (by omega), m_first_0 (by omega) (by omega) (by omega)]
    · rw [u_I_ne (by decide), u_I_ne (by decide), u_I_ne (by decide), u_I_ne (by decide), u_I_eq, fil_in (by omega), m_first_0 (by omega) (by omega) (by omega)]
    · rw [u_I_ne (by decide), u_I_ne (by decide), u_I_ne (by decide), u_I_eq, fil_in (by omega), m_first_0 (by omega) (by omega) (by omega)]
    · rw [u_I_ne (by decide), u_I_ne (by decide), u_I_eq, fil_in (by omega), m_first_l (by omega) (by omega)]
    · rw [u_I_eq, upd_eq, m_first_l (by omega) (by omega)]
    · rw [u_I_ne (by decide), u_I_eq, fil_in (by omega), m_first_0 (by omega) (by omega) (by omega)]
  · exact fb_u (fb_u (fb_u (fb_u (fb_u (fb_u (fb_u fb_id (by omega) (by omega)) (by omega) (by omega)) (by omega) (by omega)) (by omega) (by omega)) (by omega) (by omega)) (by omega) (by omega)) (by omega) (by omega)
theorem c16_61 {E : am_Ev} {I : Nat → Nat → Int32} {J : Nat → Nat → Int64} {S : Nat → Nat → Option Nat} {Q : am_Qt} {seed : Int32} (hc : ∀ k, k < 16 → I 16 k = I 104 k) (h : ∀ I', rm I' 61 (m_first I seed) → fb I I' 61 67 → Q (.inl none) E I' J S) : am_cl 16 [.ref 61, .ref 12] E I J S Q := by
  show am_ww 16 0 [.ref 61, .ref 12] [] E I J S Q
  apply g16_0_61
  refine c13_63 (q_mkV (c13_64 (q_mkV (c13_65 (q_mkV (c13_66 (q_mkV (c13_67 (q_mkV (h _ ?_ ?_))))))))))
  · refine ⟨fun k hk => ?_, fun t j ht hj => ?_, fun t ht => ?_, fun t ht => ?_, fun l hl => ?_, ?_, fun s hs => ?_⟩
    · rw [u_I_ne (by decide), u_I_ne (by decide), u_I_ne (by decide), u_I_ne (by decide), u_I_ne (by decide), u_I_ne (by decide), u_I_eq, m_first_c hk]
      show va_cpy (I 16) (I 62) 0 0 16 k = _
      unfold va_cpy
      rw [if_pos (by omega)]
      show I 16 (0 + (k - 0)) = _
      rw [show 0 + (k - 0) = k by omega]
      exact hc k hk
    · rw [u_I_ne (by decide), u_I_ne (by decide), u_I_ne (by decide), u_I_ne (by decide), u_I_ne (by decide), u_I_eq, fil_in (by omega), m_first_0 (by omega) (by omega) (by omega)]
    · rw [u_I_ne (by decide), u_I_ne (by decide), u_I_ne (by decide), u_I_ne (by decide), u_I_eq, fil_in (by omega), m_first_0 (by omega) (by omega) (by omega)]
    · rw [u_I_ne (by decide), u_I_ne (by decide), u_I_ne (by decide), u_I_eq, fil_in (by omega), m_first_0 (by omega) (by omega) (by omega)]
    · rw [u_I_ne (by decide), u_I_ne (by decide), u_I_eq, fil_in (by omega), m_first_l (by omega) (by omega)]
    · rw [u_I_eq, upd_eq, m_first_l (by omega) (by omega)]
    · rw [u_I_ne (by decide), u_I_eq, fil_in (by omega), m_first_0 (by omega) (by omega) (by omega)]
  · exact fb_u (fb_u (fb_u (fb_u (fb_u (fb_u (fb_u fb_id (by omega) (by omega)) (by omega) (by omega)) (by omega) (by omega)) (by omega) (by omega)) (by omega) (by omega)) (by omega) (by omega)) (by omega) (by omega)
theorem c16_69 {E : am_Ev} {I : Nat → Nat → Int32} {J : Nat → Nat → Int64} {S : Nat → Nat → Option Nat} {Q : am_Qt} {seed : Int32} (hc : ∀ k, k < 16 → I 16 k = I 104 k) (h : ∀ I', rm I' 69 (m_first I seed) → fb I I' 69 75 → Q (.inl none) E I' J S) : am_cl 16 [.ref 69, .ref 12] E I J S Q := by
  show am_ww 16 0 [.ref 69, .ref 12] [] E I J S Q
  apply g16_0_69
  refine c13_71 (q_mkV (c13_72 (q_mkV (c13_73 (q_mkV (c13_74 (q_mkV (c13_75 (q_mkV (h _ ?_ ?_))))))))))
  · refine ⟨fun k hk => ?_, fun t j ht hj => ?_, fun t ht => ?_, fun t ht => ?_, fun l hl => ?_, ?_, fun s hs => ?_⟩
    · rw [u_I_ne (by decide), u_I_ne (by decide), u_I_ne (by decide), u_I_ne (by decide), u_I_ne (by decide), u_I_ne (by decide), u_I_eq, m_first_c hk]
      show va_cpy (I 16) (I 70) 0 0 16 k = _
      unfold va_cpy
      rw [if_pos (by omega)]
      show I 16 (0 + (k - 0)) = _
      rw [show 0 + (k - 0) = k by omega]
      exact hc k hk
    · rw [u_I_ne (by decide), u_I_ne (by decide), u_I_ne (by decide), u_I_ne (by decide), u_I_ne (by decide), u_I_eq, fil_in (by omega), m_first_0 (by omega) (by omega) (by omega)]
    · rw [u_I_ne (by decide), u_I_ne (by decide), u_I_ne (by decide), u_I_ne (by decide), u_I_eq, fil_in (by omega), m_first_0 (by omega) (by omega) (by omega)]
    · rw [u_I_ne (by decide), u_I_ne (by decide), u_I_ne (by decide), u_I_eq, fil_in (by omega), m_first_0 (by omega) (by omega) (by omega)]
    · rw [u_I_ne (by decide), u_I_ne (by decide), u_I_eq, fil_in (by omega), m_first_l (by omega) (by omega)]
    · rw [u_I_eq, upd_eq, m_first_l (by omega) (by omega)]
    · rw [u_I_ne (by decide), u_I_eq, fil_in (by omega), m_first_0 (by omega) (by omega) (by omega)]
  · exact fb_u (fb_u (fb_u (fb_u (fb_u (fb_u (fb_u fb_id (by omega) (by omega)) (by omega) (by omega)) (by omega) (by omega)) (by omega) (by omega)) (by omega) (by omega)) (by omega) (by omega)) (by omega) (by omega)
theorem c16_77 {E : am_Ev} {I : Nat → Nat → Int32} {J : Nat → Nat → Int64} {S : Nat → Nat → Option Nat} {Q : am_Qt} {seed : Int32} (hc : ∀ k, k < 16 → I 16 k = I 104 k) (h : ∀ I', rm I' 77 (m_first I seed) → fb I I' 77 83 → Q (.inl none) E I' J S) : am_cl 16 [.ref 77, .ref 12] E I J S Q := by
  show am_ww 16 0 [.ref 77, .ref 12] [] E I J S Q
  apply g16_0_77
  refine c13_79 (q_mkV (c13_80 (q_mkV (c13_81 (q_mkV (c13_82 (q_mkV (c13_83 (q_mkV (h _ ?_ ?_))))))))))
  · refine ⟨fun k hk => ?_, fun t j ht hj => ?_, fun t ht => ?_, fun t ht => ?_, fun l hl => ?_, ?_, fun s hs => ?_⟩
    · rw [u_I_ne (by decide), u_I_ne (by decide), u_I_ne (by decide), u_I_ne (by decide), u_I_ne (by decide), u_I_ne (by decide), u_I_eq, m_first_c hk]
      show va_cpy (I 16) (I 78) 0 0 16 k = _
      unfold va_cpy
      rw [if_pos (by omega)]
      show I 16 (0 + (k - 0)) = _
      rw [show 0 + (k - 0) = k by omega]
      exact hc k hk
    · rw [u_I_ne (by decide), u_I_ne (by decide), u_I_ne (by decide), u_I_ne (by decide), u_I_ne (by decide), u_I_eq, fil_in (by omega), m_first_0 (by omega) (by omega) (by omega)]
    · rw [u_I_ne (by decide), u_I_ne (by decide), u_I_ne (by decide), u_I_ne (by decide), u_I_eq, fil_in (by omega), m_first_0 (by omega) (by omega) (by omega)]
    · rw [u_I_ne (by decide), u_I_ne (by decide), u_I_ne (by decide), u_I_eq, fil_in (by omega), m_first_0 (by omega) (by omega) (by omega)]
    · rw [u_I_ne (by decide), u_I_ne (by decide), u_I_eq, fil_in (by omega), m_first_l (by omega) (by omega)]
    · rw [u_I_eq, upd_eq, m_first_l (by omega) (by omega)]
    · rw [u_I_ne (by decide), u_I_eq, fil_in (by omega), m_first_0 (by omega) (by omega) (by omega)]
  · exact fb_u (fb_u (fb_u (fb_u (fb_u (fb_u (fb_u fb_id (by omega) (by omega)) (by omega) (by omega)) (by omega) (by omega)) (by omega) (by omega)) (by omega) (by omega)) (by omega) (by omega)) (by omega) (by omega)
theorem c15_19 {E : am_Ev} {I : Nat → Nat → Int32} {J : Nat → Nat → Int64} {S : Nat → Nat → Option Nat} {Q : am_Qt} {seed : Int32} (hc : ∀ k, k < 16 → I 16 k = I 104 k) (h : ∀ I', rm I' 20 (m_first I seed) → I' 19 = upd (upd (I 19) 1 seed) 2 (nI 0) → fb I I' 19 26 → Q (.inl none) E I' J S) : am_cl 15 [.ref 19, .ref 12, .int seed] E I J S Q := by
  show am_ww 15 0 [.ref 19, .ref 12, .int seed] [] E I J S Q
  apply g15_0_19
  refine c16_20 (seed := seed) hc (fun I' a f => q_mkV (h _ (rm_e a (fun k h1 h2 => u_I_ne (by omega))) ?_ (fb_u (fb_le f (by omega) (by omega)) (by omega) (by omega))))
  rw [u_I_eq, f 19 (by omega)]
theorem c15_76 {E : am_Ev} {I : Nat → Nat → Int32} {J : Nat → Nat → Int64} {S : Nat → Nat → Option Nat} {Q : am_Qt} {seed : Int32} (hc : ∀ k, k < 16 → I 16 k = I 104 k) (h : ∀ I', rm I' 77 (m_first I seed) → I' 76 = upd (upd (I 76) 1 seed) 2 (nI 0) → fb I I' 76 83 → Q (.inl none) E I' J S) : am_cl 15 [.ref 76, .ref 12, .int seed] E I J S Q := by
  show am_ww 15 0 [.ref 76, .ref 12, .int seed] [] E I J S Q
  apply g15_0_76
  refine c16_77 (seed := seed) hc (fun I' a f => q_mkV (h _ (rm_e a (fun k h1 h2 => u_I_ne (by omega))) ?_ (fb_u (fb_le f (by omega) (by omega)) (by omega) (by omega))))
  rw [u_I_eq, f 76 (by omega)]
theorem c17_60 {E : am_Ev} {I : Nat → Nat → Int32} {J : Nat → Nat → Int64} {S : Nat → Nat → Option Nat} {Q : am_Qt} {seed : Int32} (hc : ∀ k, k < 16 → I 16 k = I 104 k) (h : ∀ I', rm I' 61 (m_first I seed) → I' 60 = upd (upd (upd (upd (I 60) 1 (nI 0)) 2 (nI 0)) 3 (nI 0)) 4 (-1) → fb I I' 60 67 → Q (.inl none) E I' J S) : am_cl 17 [.ref 60, .ref 12] E I J S Q := by
  show am_ww 17 0 [.ref 60, .ref 12] [] E I J S Q
  apply g17_0_60
  refine c16_61 (seed := seed) hc (fun I' a f => q_mkV (h _ (rm_e a (fun k h1 h2 => u_I_ne (by omega))) ?_ (fb_u (fb_le f (by omega) (by omega)) (by omega) (by omega))))
  rw [u_I_eq, f 60 (by omega)]
theorem c17_68 {E : am_Ev} {I : Nat → Nat → Int32} {J : Nat → Nat → Int64} {S : Nat → Nat → Option Nat} {Q : am_Qt} {seed : Int32} (hc : ∀ k, k < 16 → I 16 k = I 104 k) (h : ∀ I', rm I' 69 (m_first I seed) → I' 68 = upd (upd (upd (upd (I 68) 1 (nI 0)) 2 (nI 0)) 3 (nI 0)) 4 (-1) → fb I I' 68 75 → Q (.inl none) E I' J S) : am_cl 17 [.ref 68, .ref 12] E I J S Q := by
  show am_ww 17 0 [.ref 68, .ref 12] [] E I J S Q
  apply g17_0_68
  refine c16_69 (seed := seed) hc (fun I' a f => q_mkV (h _ (rm_e a (fun k h1 h2 => u_I_ne (by omega))) ?_ (fb_u (fb_le f (by omega) (by omega)) (by omega) (by omega))))
  rw [u_I_eq, f 68 (by omega)]
