/-! acts are kept -/
/-- an array of acts, one more behind the first k, the eldest dropped if off is 1 -/
def kept (f f' : Nat → Int32) (k off : Nat) (x : Int32) : Prop := (∀ j, j < k → f' j = f (j + off)) ∧ f' k = x
theorem kept_0 {f : Nat → Int32} {k : Nat} {x : Int32} : kept f (upd f k x) k 0 x := ⟨fun j hj => by rw [upd_ne (by omega), Nat.add_zero], upd_eq⟩
theorem kept_1 {f : Nat → Int32} {x : Int32} : kept f (upd (va_cpy f f 1 0 39) 39 x) 39 1 x := by
  refine ⟨fun j hj => ?_, upd_eq⟩
  rw [upd_ne (by omega)]
  unfold va_cpy
  rw [if_pos (by omega), show 1 + (j - 0) = j + 1 by omega]
theorem c27 {E : am_Ev} {I : Nat → Nat → Int32} {J : Nat → Nat → Int64} {S : Nat → Nat → Option Nat} {Q : am_Qt} {ac : Nat} {p1 p2 p3 p4 : Int32} (ea : I 34 4 = nI ac) (ha : ac ≤ 40) (h : ∀ I' k off, (ac < 40 ∧ k = ac ∧ off = 0 ∨ ac = 40 ∧ k = 39 ∧ off = 1) → kept (I 35) (I' 35) k off p1 → kept (I 36) (I' 36) k off p2 → kept (I 37) (I' 37) k off p3 → kept (I 38) (I' 38) k off p4 → I' 34 = upd (I 34) 4 (nI (k + 1)) → fr I I' [34, 35, 36, 37, 38] → Q (.inl none) E I' J S) : am_cl 27 [.ref 34, .int p1, .int p2, .int p3, .int p4] E I J S Q := by
  show am_ww 27 0 [.ref 34, .int p1, .int p2, .int p3, .int p4] [] E I J S Q
  apply g27_0
  rw [ea, nI_ltI (by omega) (by omega)]
  refine ⟨fun c => ?_, fun c => ?_⟩
  · apply g27_19
    rw [ea]
    simp (disch := omega) only [Nat.reduceEqDiff, reduceIte, nI_mulI, nI_add, nI_clamp, nI_ltI, nI_leI, nI_eq, nI_e0, nI_n0, vt, forall_eq, true_and, and_true, true_implies, forall_const, not_true_eq_false, not_false_eq_true, false_implies, implies_true]
    refine h _ ac 0 (Or.inl ⟨c, rfl, rfl⟩) ?_ ?_ ?_ ?_ ?_ ?_
    · rw [u_I_ne (by decide), u_I_ne (by decide), u_I_ne (by decide), u_I_ne (by decide), u_I_eq]; exact kept_0
    · rw [u_I_ne (by decide), u_I_ne (by decide), u_I_ne (by decide), u_I_eq]; exact kept_0
    · rw [u_I_ne (by decide), u_I_ne (by decide), u_I_eq]; exact kept_0
    · rw [u_I_ne (by decide), u_I_eq]; exact kept_0
    · rw [u_I_eq]
    · exact fr_le (fr_up (fr_up (fr_up (fr_up fr_u)))) (by simp)
  · have e40 : ac = 40 := by omega
    have f34 : u_I (u_I (u_I (u_I (u_I I 35 (va_cpy (I 35) (I 35) 1 0 39)) 36 (va_cpy (I 36) (I 36) 1 0 39)) 37 (va_cpy (I 37) (I 37) 1 0 39)) 38 (va_cpy (I 38) (I 38) 1 0 39)) 34 (upd (I 34) 4 (nI 39)) 34 = upd (I 34) 4 (nI 39) := u_I_eq
    have f35 : u_I (u_I (u_I (u_I (u_I I 35 (va_cpy (I 35) (I 35) 1 0 39)) 36 (va_cpy (I 36) (I 36) 1 0 39)) 37 (va_cpy (I 37) (I 37) 1 0 39)) 38 (va_cpy (I 38) (I 38) 1 0 39)) 34 (upd (I 34) 4 (nI 39)) 35 = va_cpy (I 35) (I 35) 1 0 39 := by rw [u_I_ne (by decide), u_I_ne (by decide), u_I_ne (by decide), u_I_ne (by decide), u_I_eq]
    have f36 : u_I (u_I (u_I (u_I (u_I I 35 (va_cpy (I 35) (I 35) 1 0 39)) 36 (va_cpy (I 36) (I 36) 1 0 39)) 37 (va_cpy (I 37) (I 37) 1 0 39)) 38 (va_cpy (I 38) (I 38) 1 0 39)) 34 (upd (I 34) 4 (nI 39)) 36 = va_cpy (I 36) (I 36) 1 0 39 := by rw [u_I_ne (by decide), u_I_ne (by decide), u_I_ne (by decide), u_I_eq]
    have f37 : u_I (u_I (u_I (u_I (u_I I 35 (va_cpy (I 35) (I 35) 1 0 39)) 36 (va_cpy (I 36) (I 36) 1 0 39)) 37 (va_cpy (I 37) (I 37) 1 0 39)) 38 (va_cpy (I 38) (I 38) 1 0 39)) 34 (upd (I 34) 4 (nI 39)) 37 = va_cpy (I 37) (I 37) 1 0 39 := by rw [u_I_ne (by decide), u_I_ne (by decide), u_I_eq]
    have f38 : u_I (u_I (u_I (u_I (u_I I 35 (va_cpy (I 35) (I 35) 1 0 39)) 36 (va_cpy (I 36) (I 36) 1 0 39)) 37 (va_cpy (I 37) (I 37) 1 0 39)) 38 (va_cpy (I 38) (I 38) 1 0 39)) 34 (upd (I 34) 4 (nI 39)) 38 = va_cpy (I 38) (I 38) 1 0 39 := by rw [u_I_ne (by decide), u_I_eq]
    have ff : fr I (u_I (u_I (u_I (u_I (u_I I 35 (va_cpy (I 35) (I 35) 1 0 39)) 36 (va_cpy (I 36) (I 36) 1 0 39)) 37 (va_cpy (I 37) (I 37) 1 0 39)) 38 (va_cpy (I 38) (I 38) 1 0 39)) 34 (upd (I 34) 4 (nI 39))) [34, 38, 37, 36, 35] := fr_up (fr_up (fr_up (fr_up fr_u)))
    generalize u_I (u_I (u_I (u_I (u_I I 35 (va_cpy (I 35) (I 35) 1 0 39)) 36 (va_cpy (I 36) (I 36) 1 0 39)) 37 (va_cpy (I 37) (I 37) 1 0 39)) 38 (va_cpy (I 38) (I 38) 1 0 39)) 34 (upd (I 34) 4 (nI 39)) = I1 at f34 f35 f36 f37 f38 ff ⊢
    have e4 : I1 34 4 = nI 39 := by rw [f34, upd_eq]
    apply g27_19
    rw [e4]
    simp (disch := omega) only [Nat.reduceEqDiff, reduceIte, nI_mulI, nI_add, nI_clamp, nI_ltI, nI_leI, nI_eq, nI_e0, nI_n0, vt, forall_eq, true_and, and_true, true_implies, forall_const, not_true_eq_false, not_false_eq_true, false_implies, implies_true]
    refine h _ 39 1 (Or.inr ⟨e40, rfl, rfl⟩) ?_ ?_ ?_ ?_ ?_ ?_
    · rw [u_I_ne (by decide), u_I_ne (by decide), u_I_ne (by decide), u_I_ne (by decide), u_I_eq, f35]; exact kept_1
    · rw [u_I_ne (by decide), u_I_ne (by decide), u_I_ne (by decide), u_I_eq, f36]; exact kept_1
    · rw [u_I_ne (by decide), u_I_ne (by decide), u_I_eq, f37]; exact kept_1
    · rw [u_I_ne (by decide), u_I_eq, f38]; exact kept_1
    · rw [u_I_eq, f34, upd_upd]
    · exact fr_le (fr_up (fr_up (fr_up (fr_up (fr_up ff))))) (by simp)
