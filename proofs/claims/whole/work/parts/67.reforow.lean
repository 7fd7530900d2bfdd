/-! the reference: rows are laid, kept, taken -/
def cpk (f g : Nat → Int32) (o n : Nat) (j : Nat) : Int32 := if o ≤ j ∧ j < o + n then g (j - o) else f j
theorem cpk_0 {f g : Nat → Int32} {o : Nat} : cpk f g o 0 = f := by
  funext j
  unfold cpk
  rw [if_neg (by omega)]
theorem cpk_s {f g : Nat → Int32} {o n : Nat} : upd (cpk f g o n) (o + n) (g n) = cpk f g o (n + 1) := by
  funext j
  unfold upd
  by_cases h : j = o + n
  · rw [if_pos h]
    unfold cpk
    rw [if_pos (by omega), h, show o + n - o = n by omega]
  · rw [if_neg h]
    unfold cpk
    by_cases h2 : o ≤ j ∧ j < o + n
    · rw [if_pos h2, if_pos (by omega)]
    · rw [if_neg h2, if_neg (by omega)]
theorem cpk_in {f g : Nat → Int32} {o n k : Nat} (h : k < n) : cpk f g o n (o + k) = g k := by
  unfold cpk
  rw [if_pos (by omega), show o + k - o = k by omega]
theorem cpk_out {f g : Nat → Int32} {o n j : Nat} (h : j < o ∨ o + n ≤ j) : cpk f g o n j = f j := by
  unfold cpk
  rw [if_neg (by omega)]
theorem m185 {E : am_Ev} {I : Nat → Nat → Int32} {J : Nat → Nat → Int64} {S : Nat → Nat → Option Nat} {Q : am_Qt} {t : Nat} (ht : t ≤ 400) (h : Q (.inl none) E (u_I I 117 (cpk (I 117) (I 116) (51 * t) 51)) J S) : am_cl 185 [.ref 99, .int (nI t)] E I J S Q := by
  show am_ww 185 0 [.ref 99, .int (nI t), am_U] [] E I J S Q
  apply g185_0
  have l : ∀ m k, k + m = 51 → am_ww 185 2 [.ref 99, .int (nI t), .int (nI k)] [] E (u_I I 117 (cpk (I 117) (I 116) (51 * t) k)) J S Q := by
    intro m
    induction m with
    | zero =>
      intro k e
      have : k = 51 := by omega
      subst this
      apply g185_2
      exact ⟨fun _ => h, fun q => absurd (Int32.le_refl _) q⟩
    | succ m ih =>
      intro k e
      apply g185_2
      have e116 : u_I I 117 (cpk (I 117) (I 116) (51 * t) k) 116 = I 116 := u_I_ne (by decide)
      simp (disch := omega) only [Nat.reduceEqDiff, reduceIte, nI_mulI, nI_add, nI_clamp, nI_ltI, nI_leI, nI_eq, nI_e0, nI_n0, vt, forall_eq, true_and, and_true, true_implies, forall_const, not_true_eq_false, not_false_eq_true, false_implies, implies_true, uI_0, u_I_eq, e116, cpk_s]
      exact ⟨fun q => absurd q (by omega), fun _ => ih (k + 1) (by omega)⟩
  have := l 51 0 (by omega)
  rw [cpk_0, u_I_id] at this
  exact this
theorem m217 {E : am_Ev} {I : Nat → Nat → Int32} {J : Nat → Nat → Int64} {S : Nat → Nat → Option Nat} {Q : am_Qt} {t : Nat} (ht : t ≤ 400) (h : ∀ f, e51 f (rt I t) → Q (.inl none) E (u_I I 116 f) J S) : am_cl 217 [.ref 99, .int (nI t)] E I J S Q := by
  show am_ww 217 0 [.ref 99, .int (nI t), am_U] [] E I J S Q
  apply g217_0
  have l : ∀ m k, k + m = 51 → am_ww 217 2 [.ref 99, .int (nI t), .int (nI k)] [] E (u_I I 116 (cpk (I 116) (fun j => I 117 (51 * t + j)) 0 k)) J S Q := by
    intro m
    induction m with
    | zero =>
      intro k e
      have : k = 51 := by omega
      subst this
      apply g217_2
      refine ⟨fun _ => h _ (fun j hj => ?_), fun q => absurd (Int32.le_refl _) q⟩
      have := cpk_in (f := I 116) (g := fun j => I 117 (51 * t + j)) (o := 0) (n := 51) hj
      rw [Nat.zero_add] at this
      rw [this, rt_k hj]
    | succ m ih =>
      intro k e
      apply g217_2
      have e117 : u_I I 116 (cpk (I 116) (fun j => I 117 (51 * t + j)) 0 k) 117 = I 117 := u_I_ne (by decide)
      have es := cpk_s (f := I 116) (g := fun j => I 117 (51 * t + j)) (o := 0) (n := k)
      rw [Nat.zero_add] at es
      simp (disch := omega) only [Nat.reduceEqDiff, reduceIte, nI_mulI, nI_add, nI_clamp, nI_ltI, nI_leI, nI_eq, nI_e0, nI_n0, vt, forall_eq, true_and, and_true, true_implies, forall_const, not_true_eq_false, not_false_eq_true, false_implies, implies_true, uI_0, u_I_eq, e117, es]
      exact ⟨fun q => absurd q (by omega), fun _ => ih (k + 1) (by omega)⟩
  have := l 51 0 (by omega)
  rw [cpk_0, u_I_id] at this
  exact this
theorem m184 {E : am_Ev} {I : Nat → Nat → Int32} {J : Nat → Nat → Int64} {S : Nat → Nat → Option Nat} {Q : am_Qt} {seed : Int32} (h : ∀ f, e51 f (m_first I seed) → Q (.inl none) E (u_I I 116 f) J S) : am_cl 184 [.ref 99, .int seed] E I J S Q := by
  show am_ww 184 0 [.ref 99, .int seed, am_U] [] E I J S Q
  apply g184_0
  have l2 : ∀ m k f, k + m = 4 → (∀ j, j < 51 → f j = if j < 16 then I 104 j else if 40 ≤ j ∧ j < 40 + k then -1 else nI 0) → am_ww 184 22 [.ref 99, .int seed, .int (nI k)] [] E (u_I I 116 f) J S Q := by
    intro m
    induction m with
    | zero =>
      intro k f e hf
      have : k = 4 := by omega
      subst this
      apply g184_22
      simp only [uI_0, u_I_eq]
      refine ⟨fun _ => h _ (fun j hj => ?_), fun q => absurd (Int32.le_refl _) q⟩
      unfold m_first
      by_cases c46 : j = 46
      · subst c46
        rw [upd_eq, if_neg (by omega), if_neg (by omega), if_pos rfl]
      · rw [upd_ne c46]
        by_cases c44 : j = 44
        · subst c44
          rw [upd_eq, if_neg (by omega), if_pos (by omega)]
        · rw [upd_ne c44, hf j hj]
          by_cases c1 : j < 16
          · rw [if_pos c1, if_pos c1]
          · rw [if_neg c1, if_neg c1]
            by_cases c2 : 40 ≤ j ∧ j < 40 + 4
            · rw [if_pos c2, if_pos (by omega)]
            · rw [if_neg c2, if_neg (by omega), if_neg c46]
    | succ m ih =>
      intro k f e hf
      apply g184_22
      simp (disch := omega) only [Nat.reduceEqDiff, reduceIte, nI_mulI, nI_add, nI_clamp, nI_ltI, nI_leI, nI_eq, nI_e0, nI_n0, vt, forall_eq, true_and, and_true, true_implies, forall_const, not_true_eq_false, not_false_eq_true, false_implies, implies_true, uI_0, u_I_eq]
      refine ⟨fun q => absurd q (by omega), fun _ => ih (k + 1) _ (by omega) (fun j hj => ?_)⟩
      by_cases c : j = 40 + k
      · subst c
        rw [upd_eq, if_neg (by omega), if_pos (by omega)]
      · rw [upd_ne c, hf j hj]
        by_cases c1 : j < 16
        · rw [if_pos c1, if_pos c1]
        · rw [if_neg c1, if_neg c1]
          by_cases c2 : 40 ≤ j ∧ j < 40 + k
          · rw [if_pos c2, if_pos (by omega)]
          · rw [if_neg c2, if_neg (by omega)]
  have l : ∀ m k f, k + m = 51 → (∀ j, j < k → f j = if j < 16 then I 104 j else nI 0) → am_ww 184 2 [.ref 99, .int seed, .int (nI k)] [] E (u_I I 116 f) J S Q := by
    intro m
    induction m with
    | zero =>
      intro k f e hf
      have : k = 51 := by omega
      subst this
      apply g184_2
      refine ⟨fun _ => l2 4 0 f (by omega) (fun j hj => ?_), fun q => absurd (Int32.le_refl _) q⟩
      rw [hf j hj]
      by_cases c1 : j < 16
      · rw [if_pos c1, if_pos c1]
      · rw [if_neg c1, if_neg c1, if_neg (by omega)]
    | succ m ih =>
      intro k f e hf
      apply g184_2
      have e104 : u_I I 116 f 104 = I 104 := u_I_ne (by decide)
      simp (disch := omega) only [Nat.reduceEqDiff, reduceIte, nI_mulI, nI_add, nI_clamp, nI_ltI, nI_leI, nI_eq, nI_e0, nI_n0, vt, forall_eq, true_and, and_true, true_implies, forall_const, not_true_eq_false, not_false_eq_true, false_implies, implies_true, uI_0, u_I_eq, e104]
      refine ⟨fun q => absurd q (by omega), fun _ => ⟨fun c => vp_in_nI (by omega) (by omega), ih (k + 1) _ (by omega) (fun j hj => ?_)⟩⟩
      by_cases c : j = k
      · subst c
        rw [upd_eq]
        by_cases c1 : 16 ≤ j
        · rw [if_pos c1, if_neg (by omega)]
        · rw [if_neg c1, if_pos (by omega)]
      · rw [upd_ne c, hf j (by omega)]
  have := l 51 0 (I 116) (by omega) (fun j hj => absurd hj (by omega))
  rw [u_I_id] at this
  exact this
