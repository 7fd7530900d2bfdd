/-! acts: the reference; what is kept stays right -/
def shf (f : Nat → Int32) (k : Nat) (j : Nat) : Int32 := if j < k then f (j + 1) else f j
theorem shf_0 {f : Nat → Int32} : shf f 0 = f := by
  funext j
  unfold shf
  rw [if_neg (by omega)]
theorem shf_s {f : Nat → Int32} {k : Nat} : upd (shf f k) k (shf f k (k + 1)) = shf f (k + 1) := by
  funext j
  unfold upd
  by_cases h : j = k
  · rw [if_pos h]
    unfold shf
    rw [if_neg (by omega), if_pos (by omega), h]
  · rw [if_neg h]
    unfold shf
    by_cases h2 : j < k
    · rw [if_pos h2, if_pos (by omega)]
    · rw [if_neg h2, if_neg (by omega)]
theorem kept_s {f : Nat → Int32} {x : Int32} : kept f (upd (shf f 39) 39 x) 39 1 x := by
  refine ⟨fun j hj => ?_, upd_eq⟩
  rw [upd_ne (by omega)]
  unfold shf
  rw [if_pos hj]
theorem m235 {E : am_Ev} {I : Nat → Nat → Int32} {J : Nat → Nat → Int64} {S : Nat → Nat → Option Nat} {Q : am_Qt} {ac : Nat} {p1 : Int32} (ea : I 99 43 = nI ac) (ha : ac ≤ 40) (h : ∀ I' k off, (ac < 40 ∧ k = ac ∧ off = 0 ∨ ac = 40 ∧ k = 39 ∧ off = 1) → kept (I 126) (I' 126) k off p1 → kept (I 127) (I' 127) k off (I 99 12) → I' 99 = upd (I 99) 43 (nI (k + 1)) → fr I I' [99, 126, 127] → Q (.inl none) E I' J S) : am_cl 235 [.ref 99, .int p1] E I J S Q := by
  show am_ww 235 0 [.ref 99, .int p1, am_U] [] E I J S Q
  apply g235_0
  rw [ea, nI_eq (by omega) (by omega)]
  refine ⟨fun c => ?_, fun c => ?_⟩
  · subst c
    rw [nI_subI (by omega)]
    have l : ∀ n k, k + n = 39 → am_ww 235 12 [.ref 99, .int p1, .int (nI k)] [] E (u_I (u_I (u_I I 99 (upd (I 99) 43 (nI 39))) 126 (shf (I 126) k)) 127 (shf (I 127) k)) J S Q := by
      intro n
      induction n with
      | zero =>
        intro k ek
        have : k = 39 := by omega
        subst this
        apply g235_12
        have e99 : u_I (u_I (u_I I 99 (upd (I 99) 43 (nI 39))) 126 (shf (I 126) 39)) 127 (shf (I 127) 39) 99 = upd (I 99) 43 (nI 39) := by rw [u_I_ne (by decide), u_I_ne (by decide), u_I_eq]
        have e126 : u_I (u_I (u_I I 99 (upd (I 99) 43 (nI 39))) 126 (shf (I 126) 39)) 127 (shf (I 127) 39) 126 = shf (I 126) 39 := by rw [u_I_ne (by decide), u_I_eq]
        have e127 : u_I (u_I (u_I I 99 (upd (I 99) 43 (nI 39))) 126 (shf (I 126) 39)) 127 (shf (I 127) 39) 127 = shf (I 127) 39 := u_I_eq
        have ff : fr I (u_I (u_I (u_I I 99 (upd (I 99) 43 (nI 39))) 126 (shf (I 126) 39)) 127 (shf (I 127) 39)) [127, 126, 99] := fr_up (fr_up fr_u)
        generalize u_I (u_I (u_I I 99 (upd (I 99) 43 (nI 39))) 126 (shf (I 126) 39)) 127 (shf (I 127) 39) = I1 at e99 e126 e127 ff ⊢
        have e4 : I1 99 43 = nI 39 := by rw [e99, upd_eq]
        have e12 : I1 99 12 = I 99 12 := by rw [e99, upd_ne (by omega)]
        rw [e4]
        refine ⟨fun _ => ?_, fun q => absurd (Int32.le_refl _) q⟩
        apply g235_38 rfl
        rw [e4, e12]
        simp (disch := omega) only [Nat.reduceEqDiff, reduceIte, nI_mulI, nI_add, nI_clamp, nI_ltI, nI_leI, nI_eq, nI_e0, nI_n0, vt, forall_eq, true_and, and_true, true_implies, forall_const, not_true_eq_false, not_false_eq_true, false_implies, implies_true]
        refine h _ 39 1 (Or.inr ⟨rfl, rfl, rfl⟩) ?_ ?_ ?_ ?_
        · rw [u_I_ne (by decide), u_I_ne (by decide), u_I_eq, e126]; exact kept_s
        · rw [u_I_ne (by decide), u_I_eq, e127]; exact kept_s
        · rw [u_I_eq, e99, upd_upd]
        · exact fr_le (fr_up (fr_up (fr_up ff))) (by simp)
      | succ n ih =>
        intro k ek
        apply g235_12
        have e4 : u_I (u_I (u_I I 99 (upd (I 99) 43 (nI 39))) 126 (shf (I 126) k)) 127 (shf (I 127) k) 99 43 = nI 39 := by rw [u_I_ne (by decide), u_I_ne (by decide), u_I_eq, upd_eq]
        have e126 : u_I (u_I (u_I I 99 (upd (I 99) 43 (nI 39))) 126 (shf (I 126) k)) 127 (shf (I 127) k) 126 = shf (I 126) k := by rw [u_I_ne (by decide), u_I_eq]
        have e127 : u_I (u_I (u_I I 99 (upd (I 99) 43 (nI 39))) 126 (shf (I 126) k)) 127 (shf (I 127) k) 127 = shf (I 127) k := u_I_eq
        rw [e4, e126, e127]
        simp (disch := omega) only [Nat.reduceEqDiff, reduceIte, nI_mulI, nI_add, nI_clamp, nI_ltI, nI_leI, nI_eq, nI_e0, nI_n0, vt, forall_eq, true_and, and_true, true_implies, forall_const, not_true_eq_false, not_false_eq_true, false_implies, implies_true, uI_1, shf_s]
        exact ⟨fun q => absurd q (by omega), fun _ => ih (k + 1) (by omega)⟩
    have := l 39 0 (by omega)
    have z1 : u_I I 99 (upd (I 99) 43 (nI 39)) 126 = I 126 := u_I_ne (by decide)
    have z2 : u_I (u_I I 99 (upd (I 99) 43 (nI 39))) 126 (u_I I 99 (upd (I 99) 43 (nI 39)) 126) 127 = I 127 := by rw [u_I_ne (by decide), u_I_ne (by decide)]
    rw [shf_0, shf_0, ← z2, u_I_id, ← z1, u_I_id, u_I_id] at this
    exact this
  · apply g235_38 rfl
    rw [ea]
    simp (disch := omega) only [Nat.reduceEqDiff, reduceIte, nI_mulI, nI_add, nI_clamp, nI_ltI, nI_leI, nI_eq, nI_e0, nI_n0, vt, forall_eq, true_and, and_true, true_implies, forall_const, not_true_eq_false, not_false_eq_true, false_implies, implies_true]
    refine h _ ac 0 (Or.inl ⟨by omega, rfl, rfl⟩) ?_ ?_ ?_ ?_
    · rw [u_I_ne (by decide), u_I_ne (by decide), u_I_eq]; exact kept_0
    · rw [u_I_ne (by decide), u_I_eq]; exact kept_0
    · rw [u_I_eq]
    · exact fr_le (fr_up (fr_up fr_u)) (by simp)
/-- arrays of acts, moved down by off -/
theorem aw_off {I I' : Nat → Nat → Int32} {off : Nat} (h7 : I' 117 = I 117) : ∀ k T g, (∀ a, a = 35 ∨ a = 36 ∨ a = 37 ∨ a = 38 ∨ a = 126 ∨ a = 127 → ∀ j, j < k → I' a j = I a (j + off)) → aw I (k + off) T g → aw I' k T g := by
  have er : rt I' = rt I := rt_e h7
  intro k
  induction k with
  | zero => intro T g _ _; trivial
  | succ k ih =>
    intro T g ha hw
    rw [show k + 1 + off = k + off + 1 by omega] at hw
    obtain ⟨w1, w2⟩ := hw
    have ih' := fun T g => ih T g (fun a q j hj => ha a q j (by omega))
    unfold aw
    rw [ha 35 (by omega) k (by omega), ha 36 (by omega) k (by omega), ha 37 (by omega) k (by omega), ha 38 (by omega) k (by omega), ha 126 (by omega) k (by omega), ha 127 (by omega) k (by omega), er]
    refine ⟨w1, ?_⟩
    rcases w2 with ⟨a, t, b, c, d, e, f⟩ | ⟨s, a, b, c, d, e, f⟩
    · exact Or.inl ⟨a, t, b, c, d, e, ih' _ _ f⟩
    · exact Or.inr ⟨s, a, b, c, d, e, ih' _ _ f⟩
