/-! image, restore -/
/-- the reference's image -/
def cq288 (I I' : Nat → Nat → Int32) : Prop := (∀ j, j < 20451 → I' 134 j = I 117 j) ∧ (∀ j, j < 401 → I' 135 j = I 118 j) ∧ (∀ j, j < 401 → I' 136 j = I 119 j) ∧ (∀ j, j < 400 → I' 137 j = I 120 j) ∧ (∀ j, j < 400 → I' 138 j = I 121 j) ∧ (∀ j, j < 400 → I' 139 j = I 122 j) ∧ (∀ j, j < 90 → I' 140 j = I 123 j) ∧ (∀ j, j < 3 → I' 141 j = I 124 j) ∧ (∀ j, j < 40 → I' 142 j = I 126 j) ∧ (∀ j, j < 40 → I' 143 j = I 127 j) ∧ (∀ j, j < 2 → I' 144 j = I 110 j)
theorem m288 {E : am_Ev} {I : Nat → Nat → Int32} {J : Nat → Nat → Int64} {S : Nat → Nat → Option Nat} {Q : am_Qt} (h : ∀ I', I' 99 = upd (upd (upd (upd (upd (I 99) 3 (nI 0)) 58 (nI 1)) 59 (I 99 12)) 60 (I 99 13)) 61 (I 99 43) → cq288 I I' → fr I I' [134, 135, 136, 137, 138, 139, 140, 141, 142, 143, 144, 99] → Q (.inl none) E I' J S) : am_cl 288 [.ref 99] E I J S Q := by
  show am_ww 288 0 [.ref 99] [] E I J S Q
  apply g288_0
  have z99 : u_I I 99 (upd (upd (upd (upd (upd (I 99) 3 (nI 0)) 58 (nI 1)) 59 (I 99 12)) 60 (I 99 13)) 61 (I 99 43)) 99 = upd (upd (upd (upd (upd (I 99) 3 (nI 0)) 58 (nI 1)) 59 (I 99 12)) 60 (I 99 13)) 61 (I 99 43) := u_I_eq
  have zo : ∀ k, k ≠ 99 → u_I I 99 (upd (upd (upd (upd (upd (I 99) 3 (nI 0)) 58 (nI 1)) 59 (I 99 12)) 60 (I 99 13)) 61 (I 99 43)) k = I k := fun k hk => u_I_ne hk
  generalize u_I I 99 (upd (upd (upd (upd (upd (I 99) 3 (nI 0)) 58 (nI 1)) 59 (I 99 12)) 60 (I 99 13)) 61 (I 99 43)) = I0 at z99 zo ⊢
  refine m289_134 (fun I1 p1 f1 => q_mkV ?_)
  refine m289_135 (fun I2 p2 f2 => q_mkV ?_)
  refine m289_136 (fun I3 p3 f3 => q_mkV ?_)
  refine m289_137 (fun I4 p4 f4 => q_mkV ?_)
  refine m289_138 (fun I5 p5 f5 => q_mkV ?_)
  refine m289_139 (fun I6 p6 f6 => q_mkV ?_)
  refine m289_140 (fun I7 p7 f7 => q_mkV ?_)
  refine m289_141 (fun I8 p8 f8 => q_mkV ?_)
  refine m289_142 (fun I9 p9 f9 => q_mkV ?_)
  refine m289_143 (fun I10 p10 f10 => q_mkV ?_)
  refine m289_144 (fun I11 p11 f11 => q_mkV ?_)
  refine h I11 ?_ ⟨?_, ?_, ?_, ?_, ?_, ?_, ?_, ?_, ?_, ?_, ?_⟩ ?_
  · rw [f11 99 (by decide), f10 99 (by decide), f9 99 (by decide), f8 99 (by decide), f7 99 (by decide), f6 99 (by decide), f5 99 (by decide), f4 99 (by decide), f3 99 (by decide), f2 99 (by decide), f1 99 (by decide), z99]
  · intro j hj
    rw [f11 134 (by decide), f10 134 (by decide), f9 134 (by decide), f8 134 (by decide), f7 134 (by decide), f6 134 (by decide), f5 134 (by decide), f4 134 (by decide), f3 134 (by decide), f2 134 (by decide), p1 j hj, zo 117 (by decide)]
  · intro j hj
    rw [f11 135 (by decide), f10 135 (by decide), f9 135 (by decide), f8 135 (by decide), f7 135 (by decide), f6 135 (by decide), f5 135 (by decide), f4 135 (by decide), f3 135 (by decide), p2 j hj, f1 118 (by decide), zo 118 (by decide)]
  · intro j hj
    rw [f11 136 (by decide), f10 136 (by decide), f9 136 (by decide), f8 136 (by decide), f7 136 (by decide), f6 136 (by decide), f5 136 (by decide), f4 136 (by decide), p3 j hj, f2 119 (by decide), f1 119 (by decide), zo 119 (by decide)]
  · intro j hj
    rw [f11 137 (by decide), f10 137 (by decide), f9 137 (by decide), f8 137 (by decide), f7 137 (by decide), f6 137 (by decide), f5 137 (by decide), p4 j hj, f3 120 (by decide), f2 120 (by decide), f1 120 (by decide), zo 120 (by decide)]
  · intro j hj
    rw [f11 138 (by decide), f10 138 (by decide), f9 138 (by decide), f8 138 (by decide), f7 138 (by decide), f6 138 (by decide), p5 j hj, f4 121 (by decide), f3 121 (by decide), f2 121 (by decide), f1 121 (by decide), zo 121 (by decide)]
  · intro j hj
    rw [f11 139 (by decide), f10 139 (by decide), f9 139 (by decide), f8 139 (by decide), f7 139 (by decide), p6 j hj, f5 122 (by decide), f4 122 (by decide), f3 122 (by decide), f2 122 (by decide), f1 122 (by decide), zo 122 (by decide)]
  · intro j hj
    rw [f11 140 (by decide), f10 140 (by decide), f9 140 (by decide), f8 140 (by decide), p7 j hj, f6 123 (by decide), f5 123 (by decide), f4 123 (by decide), f3 123 (by decide), f2 123 (by decide), f1 123 (by decide), zo 123 (by decide)]
  · intro j hj
    rw [f11 141 (by decide), f10 141 (by decide), f9 141 (by decide), p8 j hj, f7 124 (by decide), f6 124 (by decide), f5 124 (by decide), f4 124 (by decide), f3 124 (by decide), f2 124 (by decide), f1 124 (by decide), zo 124 (by decide)]
  · intro j hj
    rw [f11 142 (by decide), f10 142 (by decide), p9 j hj, f8 126 (by decide), f7 126 (by decide), f6 126 (by decide), f5 126 (by decide), f4 126 (by decide), f3 126 (by decide), f2 126 (by decide), f1 126 (by decide), zo 126 (by decide)]
  · intro j hj
    rw [f11 143 (by decide), p10 j hj, f9 127 (by decide), f8 127 (by decide), f7 127 (by decide), f6 127 (by decide), f5 127 (by decide), f4 127 (by decide), f3 127 (by decide), f2 127 (by decide), f1 127 (by decide), zo 127 (by decide)]
  · intro j hj
    rw [p11 j hj, f10 110 (by decide), f9 110 (by decide), f8 110 (by decide), f7 110 (by decide), f6 110 (by decide), f5 110 (by decide), f4 110 (by decide), f3 110 (by decide), f2 110 (by decide), f1 110 (by decide), zo 110 (by decide)]
  · intro k hk
    simp only [List.mem_cons, List.not_mem_nil, or_false, not_or] at hk
    rw [f11 k (by simp only [List.mem_singleton]; omega), f10 k (by simp only [List.mem_singleton]; omega), f9 k (by simp only [List.mem_singleton]; omega), f8 k (by simp only [List.mem_singleton]; omega), f7 k (by simp only [List.mem_singleton]; omega), f6 k (by simp only [List.mem_singleton]; omega), f5 k (by simp only [List.mem_singleton]; omega), f4 k (by simp only [List.mem_singleton]; omega), f3 k (by simp only [List.mem_singleton]; omega), f2 k (by simp only [List.mem_singleton]; omega), f1 k (by simp only [List.mem_singleton]; omega), zo k hk.2.2.2.2.2.2.2.2.2.2.2]
/-- the reference's restore -/
def cq290 (I I' : Nat → Nat → Int32) : Prop := (∀ j, j < 20451 → I' 117 j = I 134 j) ∧ (∀ j, j < 401 → I' 118 j = I 135 j) ∧ (∀ j, j < 401 → I' 119 j = I 136 j) ∧ (∀ j, j < 400 → I' 120 j = I 137 j) ∧ (∀ j, j < 400 → I' 121 j = I 138 j) ∧ (∀ j, j < 400 → I' 122 j = I 139 j) ∧ (∀ j, j < 90 → I' 123 j = I 140 j) ∧ (∀ j, j < 3 → I' 124 j = I 141 j) ∧ (∀ j, j < 40 → I' 126 j = I 142 j) ∧ (∀ j, j < 40 → I' 127 j = I 143 j) ∧ (∀ j, j < 2 → I' 110 j = I 144 j)
theorem m290 {E : am_Ev} {I : Nat → Nat → Int32} {J : Nat → Nat → Int64} {S : Nat → Nat → Option Nat} {Q : am_Qt} (e58 : ¬ I 99 58 = 0) (h : ∀ I', I' 99 = upd (upd (upd (upd (I 99) 3 (nI 0)) 12 (I 99 59)) 13 (I 99 60)) 43 (I 99 61) → cq290 I I' → fr I I' [117, 118, 119, 120, 121, 122, 123, 124, 126, 127, 110, 99] → Q (.inl (some (.int (nI 1)))) E I' J S) : am_cl 290 [.ref 99] E I J S Q := by
  show am_ww 290 0 [.ref 99] [] E I J S Q
  apply g290_0
  refine ⟨fun q => absurd q e58, fun _ => ?_⟩
  have z99 : u_I I 99 (upd (upd (upd (upd (I 99) 3 (nI 0)) 12 (I 99 59)) 13 (I 99 60)) 43 (I 99 61)) 99 = upd (upd (upd (upd (I 99) 3 (nI 0)) 12 (I 99 59)) 13 (I 99 60)) 43 (I 99 61) := u_I_eq
  have zo : ∀ k, k ≠ 99 → u_I I 99 (upd (upd (upd (upd (I 99) 3 (nI 0)) 12 (I 99 59)) 13 (I 99 60)) 43 (I 99 61)) k = I k := fun k hk => u_I_ne hk
  generalize u_I I 99 (upd (upd (upd (upd (I 99) 3 (nI 0)) 12 (I 99 59)) 13 (I 99 60)) 43 (I 99 61)) = I0 at z99 zo ⊢
  refine m289_117 (fun I1 p1 f1 => q_mkV ?_)
  refine m289_118 (fun I2 p2 f2 => q_mkV ?_)
  refine m289_119 (fun I3 p3 f3 => q_mkV ?_)
  refine m289_120 (fun I4 p4 f4 => q_mkV ?_)
  refine m289_121 (fun I5 p5 f5 => q_mkV ?_)
  refine m289_122 (fun I6 p6 f6 => q_mkV ?_)
  refine m289_123 (fun I7 p7 f7 => q_mkV ?_)
  refine m289_124 (fun I8 p8 f8 => q_mkV ?_)
  refine m289_126 (fun I9 p9 f9 => q_mkV ?_)
  refine m289_127 (fun I10 p10 f10 => q_mkV ?_)
  refine m289_110 (fun I11 p11 f11 => q_mkV ?_)
  refine h I11 ?_ ⟨?_, ?_, ?_, ?_, ?_, ?_, ?_, ?_, ?_, ?_, ?_⟩ ?_
  · rw [f11 99 (by decide), f10 99 (by decide), f9 99 (by decide), f8 99 (by decide), f7 99 (by decide), f6 99 (by decide), f5 99 (by decide), f4 99 (by decide), f3 99 (by decide), f2 99 (by decide), f1 99 (by decide), z99]
  · intro j hj
    rw [f11 117 (by decide), f10 117 (by decide), f9 117 (by decide), f8 117 (by decide), f7 117 (by decide), f6 117 (by decide), f5 117 (by decide), f4 117 (by decide), f3 117 (by decide), f2 117 (by decide), p1 j hj, zo 134 (by decide)]
  · intro j hj
    rw [f11 118 (by decide), f10 118 (by decide), f9 118 (by decide), f8 118 (by decide), f7 118 (by decide), f6 118 (by decide), f5 118 (by decide), f4 118 (by decide), f3 118 (by decide), p2 j hj, f1 135 (by decide), zo 135 (by decide)]
  · intro j hj
    rw [f11 119 (by decide), f10 119 (by decide), f9 119 (by decide), f8 119 (by decide), f7 119 (by decide), f6 119 (by decide), f5 119 (by decide), f4 119 (by decide), p3 j hj, f2 136 (by decide), f1 136 (by decide), zo 136 (by decide)]
  · intro j hj
    rw [f11 120 (by decide), f10 120 (by decide), f9 120 (by decide), f8 120 (by decide), f7 120 (by decide), f6 120 (by decide), f5 120 (by decide), p4 j hj, f3 137 (by decide), f2 137 (by decide), f1 137 (by decide), zo 137 (by decide)]
  · intro j hj
    rw [f11 121 (by decide), f10 121 (by decide), f9 121 (by decide), f8 121 (by decide), f7 121 (by decide), f6 121 (by decide), p5 j hj, f4 138 (by decide), f3 138 (by decide), f2 138 (by decide), f1 138 (by decide), zo 138 (by decide)]
  · intro j hj
    rw [f11 122 (by decide), f10 122 (by decide), f9 122 (by decide), f8 122 (by decide), f7 122 (by decide), p6 j hj, f5 139 (by decide), f4 139 (by decide), f3 139 (by decide), f2 139 (by decide), f1 139 (by decide), zo 139 (by decide)]
  · intro j hj
    rw [f11 123 (by decide), f10 123 (by decide), f9 123 (by decide), f8 123 (by decide), p7 j hj, f6 140 (by decide), f5 140 (by decide), f4 140 (by decide), f3 140 (by decide), f2 140 (by decide), f1 140 (by decide), zo 140 (by decide)]
  · intro j hj
    rw [f11 124 (by decide), f10 124 (by decide), f9 124 (by decide), p8 j hj, f7 141 (by decide), f6 141 (by decide), f5 141 (by decide), f4 141 (by decide), f3 141 (by decide), f2 141 (by decide), f1 141 (by decide), zo 141 (by decide)]
  · intro j hj
    rw [f11 126 (by decide), f10 126 (by decide), p9 j hj, f8 142 (by decide), f7 142 (by decide), f6 142 (by decide), f5 142 (by decide), f4 142 (by decide), f3 142 (by decide), f2 142 (by decide), f1 142 (by decide), zo 142 (by decide)]
  · intro j hj
    rw [f11 127 (by decide), p10 j hj, f9 143 (by decide), f8 143 (by decide), f7 143 (by decide), f6 143 (by decide), f5 143 (by decide), f4 143 (by decide), f3 143 (by decide), f2 143 (by decide), f1 143 (by decide), zo 143 (by decide)]
  · intro j hj
    rw [p11 j hj, f10 144 (by decide), f9 144 (by decide), f8 144 (by decide), f7 144 (by decide), f6 144 (by decide), f5 144 (by decide), f4 144 (by decide), f3 144 (by decide), f2 144 (by decide), f1 144 (by decide), zo 144 (by decide)]
  · intro k hk
    simp only [List.mem_cons, List.not_mem_nil, or_false, not_or] at hk
    rw [f11 k (by simp only [List.mem_singleton]; omega), f10 k (by simp only [List.mem_singleton]; omega), f9 k (by simp only [List.mem_singleton]; omega), f8 k (by simp only [List.mem_singleton]; omega), f7 k (by simp only [List.mem_singleton]; omega), f6 k (by simp only [List.mem_singleton]; omega), f5 k (by simp only [List.mem_singleton]; omega), f4 k (by simp only [List.mem_singleton]; omega), f3 k (by simp only [List.mem_singleton]; omega), f2 k (by simp only [List.mem_singleton]; omega), f1 k (by simp only [List.mem_singleton]; omega), zo k hk.2.2.2.2.2.2.2.2.2.2.2]
def cc39 (I I' : Nat → Nat → Int32) : Prop := (∀ f, 9 ≤ f → f < 14 → I' 39 f = I 18 f) ∧ (I' 40 1 = I 19 1 ∧ I' 40 2 = I 19 2 ∧ I' 55 4 = I 34 4) ∧ (∀ j, j < 90 → I' 48 j = I 27 j) ∧ (∀ j, j < 3 → I' 49 j = I 28 j) ∧ (∀ k, 29 ≤ k ∧ k < 33 → ∀ j, j < 400 → I' (k + 21) j = I (k + 0) j) ∧ (∀ j, j < 401 → I' 54 j = I 33 j) ∧ (∀ k, 35 ≤ k ∧ k < 39 → ∀ j, j < 40 → I' (k + 21) j = I (k + 0) j)
theorem c54_39 {E : am_Ev} {I : Nat → Nat → Int32} {J : Nat → Nat → Int64} {S : Nat → Nat → Option Nat} {Q : am_Qt} {r : Nat → Int32} (hm : rm I 20 r) (h : ∀ I', rm I' 41 r → cc39 I I' → fb I I' 39 59 → Q (.inl none) E I' J S) : am_cl 54 [.ref 39, .ref 18] E I J S Q := by
  show am_ww 54 0 [.ref 39, .ref 18] [] E I J S Q
  apply g54_0_39_18
  show am_ww 55 0 [.ref 40, .ref 19] [] E I J S _
  apply g55_0_40_19
  refine c50_41_20 hm (fun I1 m1 f1 => q_mkV (q_mkV ?_))
  have e19 : I1 19 = I 19 := f1 19 (by omega)
  rw [e19]
  have z19 : u_I I1 40 (upd (upd (I1 40) 1 (I 19 1)) 2 (I 19 2)) 40 = upd (upd (I1 40) 1 (I 19 1)) 2 (I 19 2) := u_I_eq
  have zo : ∀ k, k ≠ 40 → u_I I1 40 (upd (upd (I1 40) 1 (I 19 1)) 2 (I 19 2)) k = I1 k := fun k hk => u_I_ne hk
  generalize u_I I1 40 (upd (upd (I1 40) 1 (I 19 1)) 2 (I 19 2)) = I2 at z19 zo ⊢
  have y : ∀ k, k < 40 ∨ 47 < k → I2 k = I k := fun k hk => by rw [zo k (by omega), f1 k (by omega)]
  rw [y 27 (by omega), y 48 (by omega), y 28 (by omega), y 49 (by omega), y 29 (by omega), y 50 (by omega), y 30 (by omega), y 51 (by omega), y 31 (by omega), y 52 (by omega), y 32 (by omega), y 53 (by omega), y 33 (by omega), y 54 (by omega)]
  have x27 : (u_I (u_I (u_I (u_I (u_I (u_I (u_I I2 48 (va_cpy (I 27) (I 48) 0 0 90)) 49 (va_cpy (I 28) (I 49) 0 0 3)) 50 (va_cpy (I 29) (I 50) 0 0 400)) 51 (va_cpy (I 30) (I 51) 0 0 400)) 52 (va_cpy (I 31) (I 52) 0 0 400)) 53 (va_cpy (I 32) (I 53) 0 0 400)) 54 (va_cpy (I 33) (I 54) 0 0 401)) 48 = va_cpy (I 27) (I 48) 0 0 90 := by rw [u_I_ne (by decide), u_I_ne (by decide), u_I_ne (by decide), u_I_ne (by decide), u_I_ne (by decide), u_I_ne (by decide), u_I_eq]
  have x28 : (u_I (u_I (u_I (u_I (u_I (u_I (u_I I2 48 (va_cpy (I 27) (I 48) 0 0 90)) 49 (va_cpy (I 28) (I 49) 0 0 3)) 50 (va_cpy (I 29) (I 50) 0 0 400)) 51 (va_cpy (I 30) (I 51) 0 0 400)) 52 (va_cpy (I 31) (I 52) 0 0 400)) 53 (va_cpy (I 32) (I 53) 0 0 400)) 54 (va_cpy (I 33) (I 54) 0 0 401)) 49 = va_cpy (I 28) (I 49) 0 0 3 := by rw [u_I_ne (by decide), u_I_ne (by decide), u_I_ne (by decide), u_I_ne (by decide), u_I_ne (by decide), u_I_eq]
  have x29 : (u_I (u_I (u_I (u_I (u_I (u_I (u_I I2 48 (va_cpy (I 27) (I 48) 0 0 90)) 49 (va_cpy (I 28) (I 49) 0 0 3)) 50 (va_cpy (I 29) (I 50) 0 0 400)) 51 (va_cpy (I 30) (I 51) 0 0 400)) 52 (va_cpy (I 31) (I 52) 0 0 400)) 53 (va_cpy (I 32) (I 53) 0 0 400)) 54 (va_cpy (I 33) (I 54) 0 0 401)) 50 = va_cpy (I 29) (I 50) 0 0 400 := by rw [u_I_ne (by decide), u_I_ne (by decide), u_I_ne (by decide), u_I_ne (by decide), u_I_eq]
  have x30 : (u_I (u_I (u_I (u_I (u_I (u_I (u_I I2 48 (va_cpy (I 27) (I 48) 0 0 90)) 49 (va_cpy (I 28) (I 49) 0 0 3)) 50 (va_cpy (I 29) (I 50) 0 0 400)) 51 (va_cpy (I 30) (I 51) 0 0 400)) 52 (va_cpy (I 31) (I 52) 0 0 400)) 53 (va_cpy (I 32) (I 53) 0 0 400)) 54 (va_cpy (I 33) (I 54) 0 0 401)) 51 = va_cpy (I 30) (I 51) 0 0 400 := by rw [u_I_ne (by decide), u_I_ne (by decide), u_I_ne (by decide), u_I_eq]
  have x31 : (u_I (u_I (u_I (u_I (u_I (u_I (u_I I2 48 (va_cpy (I 27) (I 48) 0 0 90)) 49 (va_cpy (I 28) (I 49) 0 0 3)) 50 (va_cpy (I 29) (I 50) 0 0 400)) 51 (va_cpy (I 30) (I 51) 0 0 400)) 52 (va_cpy (I 31) (I 52) 0 0 400)) 53 (va_cpy (I 32) (I 53) 0 0 400)) 54 (va_cpy (I 33) (I 54) 0 0 401)) 52 = va_cpy (I 31) (I 52) 0 0 400 := by rw [u_I_ne (by decide), u_I_ne (by decide), u_I_eq]
  have x32 : (u_I (u_I (u_I (u_I (u_I (u_I (u_I I2 48 (va_cpy (I 27) (I 48) 0 0 90)) 49 (va_cpy (I 28) (I 49) 0 0 3)) 50 (va_cpy (I 29) (I 50) 0 0 400)) 51 (va_cpy (I 30) (I 51) 0 0 400)) 52 (va_cpy (I 31) (I 52) 0 0 400)) 53 (va_cpy (I 32) (I 53) 0 0 400)) 54 (va_cpy (I 33) (I 54) 0 0 401)) 53 = va_cpy (I 32) (I 53) 0 0 400 := by rw [u_I_ne (by decide), u_I_eq]
  have x33 : (u_I (u_I (u_I (u_I (u_I (u_I (u_I I2 48 (va_cpy (I 27) (I 48) 0 0 90)) 49 (va_cpy (I 28) (I 49) 0 0 3)) 50 (va_cpy (I 29) (I 50) 0 0 400)) 51 (va_cpy (I 30) (I 51) 0 0 400)) 52 (va_cpy (I 31) (I 52) 0 0 400)) 53 (va_cpy (I 32) (I 53) 0 0 400)) 54 (va_cpy (I 33) (I 54) 0 0 401)) 54 = va_cpy (I 33) (I 54) 0 0 401 := by rw [u_I_eq]
  have xo : ∀ k, k < 48 ∨ 54 < k → (u_I (u_I (u_I (u_I (u_I (u_I (u_I I2 48 (va_cpy (I 27) (I 48) 0 0 90)) 49 (va_cpy (I 28) (I 49) 0 0 3)) 50 (va_cpy (I 29) (I 50) 0 0 400)) 51 (va_cpy (I 30) (I 51) 0 0 400)) 52 (va_cpy (I 31) (I 52) 0 0 400)) 53 (va_cpy (I 32) (I 53) 0 0 400)) 54 (va_cpy (I 33) (I 54) 0 0 401)) k = I2 k := fun k hk => by rw [u_I_ne (by omega), u_I_ne (by omega), u_I_ne (by omega), u_I_ne (by omega), u_I_ne (by omega), u_I_ne (by omega), u_I_ne (by omega)]
  generalize u_I (u_I (u_I (u_I (u_I (u_I (u_I I2 48 (va_cpy (I 27) (I 48) 0 0 90)) 49 (va_cpy (I 28) (I 49) 0 0 3)) 50 (va_cpy (I 29) (I 50) 0 0 400)) 51 (va_cpy (I 30) (I 51) 0 0 400)) 52 (va_cpy (I 31) (I 52) 0 0 400)) 53 (va_cpy (I 32) (I 53) 0 0 400)) 54 (va_cpy (I 33) (I 54) 0 0 401) = I3 at x27 x28 x29 x30 x31 x32 x33 xo ⊢
  show am_ww 56 0 [.ref 55, .ref 34] [] E I3 J S _
  apply g56_0_55_34
  have v : ∀ k, k < 40 ∨ 47 < k → k < 48 ∨ 54 < k → I3 k = I k := fun k h1 h2 => by rw [xo k h2, y k h1]
  rw [v 35 (by omega) (by omega), v 56 (by omega) (by omega), v 36 (by omega) (by omega), v 57 (by omega) (by omega), v 37 (by omega) (by omega), v 58 (by omega) (by omega), v 38 (by omega) (by omega), v 59 (by omega) (by omega), v 55 (by omega) (by omega), v 34 (by omega) (by omega)]
  have t35 : u_I (u_I (u_I (u_I (u_I I3 56 (va_cpy (I 35) (I 56) 0 0 40)) 57 (va_cpy (I 36) (I 57) 0 0 40)) 58 (va_cpy (I 37) (I 58) 0 0 40)) 59 (va_cpy (I 38) (I 59) 0 0 40)) 55 (upd (I 55) 4 (I 34 4)) 56 = va_cpy (I 35) (I 56) 0 0 40 := by rw [u_I_ne (by decide), u_I_ne (by decide), u_I_ne (by decide), u_I_ne (by decide), u_I_eq]
  have t36 : u_I (u_I (u_I (u_I (u_I I3 56 (va_cpy (I 35) (I 56) 0 0 40)) 57 (va_cpy (I 36) (I 57) 0 0 40)) 58 (va_cpy (I 37) (I 58) 0 0 40)) 59 (va_cpy (I 38) (I 59) 0 0 40)) 55 (upd (I 55) 4 (I 34 4)) 57 = va_cpy (I 36) (I 57) 0 0 40 := by rw [u_I_ne (by decide), u_I_ne (by decide), u_I_ne (by decide), u_I_eq]
  have t37 : u_I (u_I (u_I (u_I (u_I I3 56 (va_cpy (I 35) (I 56) 0 0 40)) 57 (va_cpy (I 36) (I 57) 0 0 40)) 58 (va_cpy (I 37) (I 58) 0 0 40)) 59 (va_cpy (I 38) (I 59) 0 0 40)) 55 (upd (I 55) 4 (I 34 4)) 58 = va_cpy (I 37) (I 58) 0 0 40 := by rw [u_I_ne (by decide), u_I_ne (by decide), u_I_eq]
  have t38 : u_I (u_I (u_I (u_I (u_I I3 56 (va_cpy (I 35) (I 56) 0 0 40)) 57 (va_cpy (I 36) (I 57) 0 0 40)) 58 (va_cpy (I 37) (I 58) 0 0 40)) 59 (va_cpy (I 38) (I 59) 0 0 40)) 55 (upd (I 55) 4 (I 34 4)) 59 = va_cpy (I 38) (I 59) 0 0 40 := by rw [u_I_ne (by decide), u_I_eq]
  have t34 : u_I (u_I (u_I (u_I (u_I I3 56 (va_cpy (I 35) (I 56) 0 0 40)) 57 (va_cpy (I 36) (I 57) 0 0 40)) 58 (va_cpy (I 37) (I 58) 0 0 40)) 59 (va_cpy (I 38) (I 59) 0 0 40)) 55 (upd (I 55) 4 (I 34 4)) 55 = upd (I 55) 4 (I 34 4) := u_I_eq
  have to : ∀ k, k < 55 ∨ 59 < k → u_I (u_I (u_I (u_I (u_I I3 56 (va_cpy (I 35) (I 56) 0 0 40)) 57 (va_cpy (I 36) (I 57) 0 0 40)) 58 (va_cpy (I 37) (I 58) 0 0 40)) 59 (va_cpy (I 38) (I 59) 0 0 40)) 55 (upd (I 55) 4 (I 34 4)) k = I3 k := fun k hk => by rw [u_I_ne (by omega), u_I_ne (by omega), u_I_ne (by omega), u_I_ne (by omega), u_I_ne (by omega)]
  generalize u_I (u_I (u_I (u_I (u_I I3 56 (va_cpy (I 35) (I 56) 0 0 40)) 57 (va_cpy (I 36) (I 57) 0 0 40)) 58 (va_cpy (I 37) (I 58) 0 0 40)) 59 (va_cpy (I 38) (I 59) 0 0 40)) 55 (upd (I 55) 4 (I 34 4)) = I4 at t34 t35 t36 t37 t38 to ⊢
  refine q_mkV ?_
  have w18 : I4 18 = I 18 := by rw [to 18 (by omega), v 18 (by omega) (by omega)]
  have w18' : I4 39 = I 39 := by rw [to 39 (by omega), v 39 (by omega) (by omega)]
  rw [w18, w18']
  have s18 : ∀ f, 9 ≤ f → f < 14 → u_I I4 39 (upd (upd (upd (upd (upd (I 39) 9 (I 18 9)) 10 (I 18 10)) 11 (I 18 11)) 12 (I 18 12)) 13 (I 18 13)) 39 f = I 18 f := by
    intro f f1 f2
    have : f = 9 ∨ f = 10 ∨ f = 11 ∨ f = 12 ∨ f = 13 := by omega
    rw [u_I_eq]
    rcases this with rfl | rfl | rfl | rfl | rfl
    · rw [upd_ne (by omega), upd_ne (by omega), upd_ne (by omega), upd_ne (by omega), upd_eq]
    · rw [upd_ne (by omega), upd_ne (by omega), upd_ne (by omega), upd_eq]
    · rw [upd_ne (by omega), upd_ne (by omega), upd_eq]
    · rw [upd_ne (by omega), upd_eq]
    · rw [upd_eq]
  have so : ∀ k, k ≠ 39 → u_I I4 39 (upd (upd (upd (upd (upd (I 39) 9 (I 18 9)) 10 (I 18 10)) 11 (I 18 11)) 12 (I 18 12)) 13 (I 18 13)) k = I4 k := fun k hk => u_I_ne hk
  generalize u_I I4 39 (upd (upd (upd (upd (upd (I 39) 9 (I 18 9)) 10 (I 18 10)) 11 (I 18 11)) 12 (I 18 12)) 13 (I 18 13)) = I5 at s18 so ⊢
  have low : ∀ k, 40 ≤ k → k ≤ 47 → I5 k = I2 k := fun k a b => by rw [so k (by omega), to k (by omega), xo k (by omega)]
  have mid : ∀ k, 48 ≤ k → k ≤ 54 → I5 k = I3 k := fun k a b => by rw [so k (by omega), to k (by omega)]
  have top : ∀ k, 55 ≤ k → k ≤ 59 → I5 k = I4 k := fun k a b => by rw [so k (by omega)]
  refine h I5 (rm_e m1 (fun k a b => by rw [low k (by omega) (by omega), zo k (by omega)])) ⟨s18, ⟨?_, ?_, ?_⟩, ?_, ?_, ?_, ?_, ?_⟩ ?_
  · rw [low 40 (by omega) (by omega), z19, upd_ne (by omega), upd_eq]
  · rw [low 40 (by omega) (by omega), z19, upd_eq]
  · rw [top 55 (by omega) (by omega), t34, upd_eq]
  · intro j hj; rw [mid 48 (by omega) (by omega), x27, cpy_in hj]
  · intro j hj; rw [mid 49 (by omega) (by omega), x28, cpy_in hj]
  · intro k hk j hj
    have : k = 29 ∨ k = 30 ∨ k = 31 ∨ k = 32 := by omega
    rcases this with rfl | rfl | rfl | rfl
    · show I5 50 j = I 29 j; rw [mid 50 (by omega) (by omega), x29, cpy_in hj]
    · show I5 51 j = I 30 j; rw [mid 51 (by omega) (by omega), x30, cpy_in hj]
    · show I5 52 j = I 31 j; rw [mid 52 (by omega) (by omega), x31, cpy_in hj]
    · show I5 53 j = I 32 j; rw [mid 53 (by omega) (by omega), x32, cpy_in hj]
  · intro j hj; rw [mid 54 (by omega) (by omega), x33, cpy_in hj]
  · intro k hk j hj
    have : k = 35 ∨ k = 36 ∨ k = 37 ∨ k = 38 := by omega
    rcases this with rfl | rfl | rfl | rfl
    · show I5 56 j = I 35 j; rw [top 56 (by omega) (by omega), t35, cpy_in hj]
    · show I5 57 j = I 36 j; rw [top 57 (by omega) (by omega), t36, cpy_in hj]
    · show I5 58 j = I 37 j; rw [top 58 (by omega) (by omega), t37, cpy_in hj]
    · show I5 59 j = I 38 j; rw [top 59 (by omega) (by omega), t38, cpy_in hj]
  · intro k hk
    rw [so k (by omega), to k (by omega), v k (by omega) (by omega)]
def cc18 (I I' : Nat → Nat → Int32) : Prop := (∀ f, 9 ≤ f → f < 14 → I' 18 f = I 39 f) ∧ (I' 19 1 = I 40 1 ∧ I' 19 2 = I 40 2 ∧ I' 34 4 = I 55 4) ∧ (∀ j, j < 90 → I' 27 j = I 48 j) ∧ (∀ j, j < 3 → I' 28 j = I 49 j) ∧ (∀ k, 29 ≤ k ∧ k < 33 → ∀ j, j < 400 → I' (k + 0) j = I (k + 21) j) ∧ (∀ j, j < 401 → I' 33 j = I 54 j) ∧ (∀ k, 35 ≤ k ∧ k < 39 → ∀ j, j < 40 → I' (k + 0) j = I (k + 21) j)
theorem c54_18 {E : am_Ev} {I : Nat → Nat → Int32} {J : Nat → Nat → Int64} {S : Nat → Nat → Option Nat} {Q : am_Qt} {r : Nat → Int32} (hm : rm I 41 r) (h : ∀ I', rm I' 20 r → cc18 I I' → fb I I' 18 38 → Q (.inl none) E I' J S) : am_cl 54 [.ref 18, .ref 39] E I J S Q := by
  show am_ww 54 0 [.ref 18, .ref 39] [] E I J S Q
  apply g54_0_18_39
  show am_ww 55 0 [.ref 19, .ref 40] [] E I J S _
  apply g55_0_19_40
  refine c50_20_41 hm (fun I1 m1 f1 => q_mkV (q_mkV ?_))
  have e19 : I1 40 = I 40 := f1 40 (by omega)
  rw [e19]
  have z19 : u_I I1 19 (upd (upd (I1 19) 1 (I 40 1)) 2 (I 40 2)) 19 = upd (upd (I1 19) 1 (I 40 1)) 2 (I 40 2) := u_I_eq
  have zo : ∀ k, k ≠ 19 → u_I I1 19 (upd (upd (I1 19) 1 (I 40 1)) 2 (I 40 2)) k = I1 k := fun k hk => u_I_ne hk
  generalize u_I I1 19 (upd (upd (I1 19) 1 (I 40 1)) 2 (I 40 2)) = I2 at z19 zo ⊢
  have y : ∀ k, k < 19 ∨ 26 < k → I2 k = I k := fun k hk => by rw [zo k (by omega), f1 k (by omega)]
  rw [y 48 (by omega), y 27 (by omega), y 49 (by omega), y 28 (by omega), y 50 (by omega), y 29 (by omega), y 51 (by omega), y 30 (by omega), y 52 (by omega), y 31 (by omega), y 53 (by omega), y 32 (by omega), y 54 (by omega), y 33 (by omega)]
  have x27 : (u_I (u_I (u_I (u_I (u_I (u_I (u_I I2 27 (va_cpy (I 48) (I 27) 0 0 90)) 28 (va_cpy (I 49) (I 28) 0 0 3)) 29 (va_cpy (I 50) (I 29) 0 0 400)) 30 (va_cpy (I 51) (I 30) 0 0 400)) 31 (va_cpy (I 52) (I 31) 0 0 400)) 32 (va_cpy (I 53) (I 32) 0 0 400)) 33 (va_cpy (I 54) (I 33) 0 0 401)) 27 = va_cpy (I 48) (I 27) 0 0 90 := by rw [u_I_ne (by decide), u_I_ne (by decide), u_I_ne (by decide), u_I_ne (by decide), u_I_ne (by decide), u_I_ne (by decide), u_I_eq]
  have x28 : (u_I (u_I (u_I (u_I (u_I (u_I (u_I I2 27 (va_cpy (I 48) (I 27) 0 0 90)) 28 (va_cpy (I 49) (I 28) 0 0 3)) 29 (va_cpy (I 50) (I 29) 0 0 400)) 30 (va_cpy (I 51) (I 30) 0 0 400)) 31 (va_cpy (I 52) (I 31) 0 0 400)) 32 (va_cpy (I 53) (I 32) 0 0 400)) 33 (va_cpy (I 54) (I 33) 0 0 401)) 28 = va_cpy (I 49) (I 28) 0 0 3 := by rw [u_I_ne (by decide), u_I_ne (by decide), u_I_ne (by decide), u_I_ne (by decide), u_I_ne (by decide), u_I_eq]
  have x29 : (u_I (u_I (u_I (u_I (u_I (u_I (u_I I2 27 (va_cpy (I 48) (I 27) 0 0 90)) 28 (va_cpy (I 49) (I 28) 0 0 3)) 29 (va_cpy (I 50) (I 29) 0 0 400)) 30 (va_cpy (I 51) (I 30) 0 0 400)) 31 (va_cpy (I 52) (I 31) 0 0 400)) 32 (va_cpy (I 53) (I 32) 0 0 400)) 33 (va_cpy (I 54) (I 33) 0 0 401)) 29 = va_cpy (I 50) (I 29) 0 0 400 := by rw [u_I_ne (by decide), u_I_ne (by decide), u_I_ne (by decide), u_I_ne (by decide), u_I_eq]
  have x30 : (u_I (u_I (u_I (u_I (u_I (u_I (u_I I2 27 (va_cpy (I 48) (I 27) 0 0 90)) 28 (va_cpy (I 49) (I 28) 0 0 3)) 29 (va_cpy (I 50) (I 29) 0 0 400)) 30 (va_cpy (I 51) (I 30) 0 0 400)) 31 (va_cpy (I 52) (I 31) 0 0 400)) 32 (va_cpy (I 53) (I 32) 0 0 400)) 33 (va_cpy (I 54) (I 33) 0 0 401)) 30 = va_cpy (I 51) (I 30) 0 0 400 := by rw [u_I_ne (by decide), u_I_ne (by decide), u_I_ne (by decide), u_I_eq]
  have x31 : (u_I (u_I (u_I (u_I (u_I (u_I (u_I I2 27 (va_cpy (I 48) (I 27) 0 0 90)) 28 (va_cpy (I 49) (I 28) 0 0 3)) 29 (va_cpy (I 50) (I 29) 0 0 400)) 30 (va_cpy (I 51) (I 30) 0 0 400)) 31 (va_cpy (I 52) (I 31) 0 0 400)) 32 (va_cpy (I 53) (I 32) 0 0 400)) 33 (va_cpy (I 54) (I 33) 0 0 401)) 31 = va_cpy (I 52) (I 31) 0 0 400 := by rw [u_I_ne (by decide), u_I_ne (by decide), u_I_eq]
  have x32 : (u_I (u_I (u_I (u_I (u_I (u_I (u_I I2 27 (va_cpy (I 48) (I 27) 0 0 90)) 28 (va_cpy (I 49) (I 28) 0 0 3)) 29 (va_cpy (I 50) (I 29) 0 0 400)) 30 (va_cpy (I 51) (I 30) 0 0 400)) 31 (va_cpy (I 52) (I 31) 0 0 400)) 32 (va_cpy (I 53) (I 32) 0 0 400)) 33 (va_cpy (I 54) (I 33) 0 0 401)) 32 = va_cpy (I 53) (I 32) 0 0 400 := by rw [u_I_ne (by decide), u_I_eq]
  have x33 : (u_I (u_I (u_I (u_I (u_I (u_I (u_I I2 27 (va_cpy (I 48) (I 27) 0 0 90)) 28 (va_cpy (I 49) (I 28) 0 0 3)) 29 (va_cpy (I 50) (I 29) 0 0 400)) 30 (va_cpy (I 51) (I 30) 0 0 400)) 31 (va_cpy (I 52) (I 31) 0 0 400)) 32 (va_cpy (I 53) (I 32) 0 0 400)) 33 (va_cpy (I 54) (I 33) 0 0 401)) 33 = va_cpy (I 54) (I 33) 0 0 401 := by rw [u_I_eq]
  have xo : ∀ k, k < 27 ∨ 33 < k → (u_I (u_I (u_I (u_I (u_I (u_I (u_I I2 27 (va_cpy (I 48) (I 27) 0 0 90)) 28 (va_cpy (I 49) (I 28) 0 0 3)) 29 (va_cpy (I 50) (I 29) 0 0 400)) 30 (va_cpy (I 51) (I 30) 0 0 400)) 31 (va_cpy (I 52) (I 31) 0 0 400)) 32 (va_cpy (I 53) (I 32) 0 0 400)) 33 (va_cpy (I 54) (I 33) 0 0 401)) k = I2 k := fun k hk => by rw [u_I_ne (by omega), u_I_ne (by omega), u_I_ne (by omega), u_I_ne (by omega), u_I_ne (by omega), u_I_ne (by omega), u_I_ne (by omega)]
  generalize u_I (u_I (u_I (u_I (u_I (u_I (u_I I2 27 (va_cpy (I 48) (I 27) 0 0 90)) 28 (va_cpy (I 49) (I 28) 0 0 3)) 29 (va_cpy (I 50) (I 29) 0 0 400)) 30 (va_cpy (I 51) (I 30) 0 0 400)) 31 (va_cpy (I 52) (I 31) 0 0 400)) 32 (va_cpy (I 53) (I 32) 0 0 400)) 33 (va_cpy (I 54) (I 33) 0 0 401) = I3 at x27 x28 x29 x30 x31 x32 x33 xo ⊢
  show am_ww 56 0 [.ref 34, .ref 55] [] E I3 J S _
  apply g56_0_34_55
  have v : ∀ k, k < 19 ∨ 26 < k → k < 27 ∨ 33 < k → I3 k = I k := fun k h1 h2 => by rw [xo k h2, y k h1]
  rw [v 56 (by omega) (by omega), v 35 (by omega) (by omega), v 57 (by omega) (by omega), v 36 (by omega) (by omega), v 58 (by omega) (by omega), v 37 (by omega) (by omega), v 59 (by omega) (by omega), v 38 (by omega) (by omega), v 34 (by omega) (by omega), v 55 (by omega) (by omega)]
  have t35 : u_I (u_I (u_I (u_I (u_I I3 35 (va_cpy (I 56) (I 35) 0 0 40)) 36 (va_cpy (I 57) (I 36) 0 0 40)) 37 (va_cpy (I 58) (I 37) 0 0 40)) 38 (va_cpy (I 59) (I 38) 0 0 40)) 34 (upd (I 34) 4 (I 55 4)) 35 = va_cpy (I 56) (I 35) 0 0 40 := by rw [u_I_ne (by decide), u_I_ne (by decide), u_I_ne (by decide), u_I_ne (by decide), u_I_eq]
  have t36 : u_I (u_I (u_I (u_I (u_I I3 35 (va_cpy (I 56) (I 35) 0 0 40)) 36 (va_cpy (I 57) (I 36) 0 0 40)) 37 (va_cpy (I 58) (I 37) 0 0 40)) 38 (va_cpy (I 59) (I 38) 0 0 40)) 34 (upd (I 34) 4 (I 55 4)) 36 = va_cpy (I 57) (I 36) 0 0 40 := by rw [u_I_ne (by decide), u_I_ne (by decide), u_I_ne (by decide), u_I_eq]
  have t37 : u_I (u_I (u_I (u_I (u_I I3 35 (va_cpy (I 56) (I 35) 0 0 40)) 36 (va_cpy (I 57) (I 36) 0 0 40)) 37 (va_cpy (I 58) (I 37) 0 0 40)) 38 (va_cpy (I 59) (I 38) 0 0 40)) 34 (upd (I 34) 4 (I 55 4)) 37 = va_cpy (I 58) (I 37) 0 0 40 := by rw [u_I_ne (by decide), u_I_ne (by decide), u_I_eq]
  have t38 : u_I (u_I (u_I (u_I (u_I I3 35 (va_cpy (I 56) (I 35) 0 0 40)) 36 (va_cpy (I 57) (I 36) 0 0 40)) 37 (va_cpy (I 58) (I 37) 0 0 40)) 38 (va_cpy (I 59) (I 38) 0 0 40)) 34 (upd (I 34) 4 (I 55 4)) 38 = va_cpy (I 59) (I 38) 0 0 40 := by rw [u_I_ne (by decide), u_I_eq]
  have t34 : u_I (u_I (u_I (u_I (u_I I3 35 (va_cpy (I 56) (I 35) 0 0 40)) 36 (va_cpy (I 57) (I 36) 0 0 40)) 37 (va_cpy (I 58) (I 37) 0 0 40)) 38 (va_cpy (I 59) (I 38) 0 0 40)) 34 (upd (I 34) 4 (I 55 4)) 34 = upd (I 34) 4 (I 55 4) := u_I_eq
  have to : ∀ k, k < 34 ∨ 38 < k → u_I (u_I (u_I (u_I (u_I I3 35 (va_cpy (I 56) (I 35) 0 0 40)) 36 (va_cpy (I 57) (I 36) 0 0 40)) 37 (va_cpy (I 58) (I 37) 0 0 40)) 38 (va_cpy (I 59) (I 38) 0 0 40)) 34 (upd (I 34) 4 (I 55 4)) k = I3 k := fun k hk => by rw [u_I_ne (by omega), u_I_ne (by omega), u_I_ne (by omega), u_I_ne (by omega), u_I_ne (by omega)]
  generalize u_I (u_I (u_I (u_I (u_I I3 35 (va_cpy (I 56) (I 35) 0 0 40)) 36 (va_cpy (I 57) (I 36) 0 0 40)) 37 (va_cpy (I 58) (I 37) 0 0 40)) 38 (va_cpy (I 59) (I 38) 0 0 40)) 34 (upd (I 34) 4 (I 55 4)) = I4 at t34 t35 t36 t37 t38 to ⊢
  refine q_mkV ?_
  have w18 : I4 39 = I 39 := by rw [to 39 (by omega), v 39 (by omega) (by omega)]
  have w18' : I4 18 = I 18 := by rw [to 18 (by omega), v 18 (by omega) (by omega)]
  rw [w18, w18']
  have s18 : ∀ f, 9 ≤ f → f < 14 → u_I I4 18 (upd (upd (upd (upd (upd (I 18) 9 (I 39 9)) 10 (I 39 10)) 11 (I 39 11)) 12 (I 39 12)) 13 (I 39 13)) 18 f = I 39 f := by
    intro f f1 f2
    have : f = 9 ∨ f = 10 ∨ f = 11 ∨ f = 12 ∨ f = 13 := by omega
    rw [u_I_eq]
    rcases this with rfl | rfl | rfl | rfl | rfl
    · rw [upd_ne (by omega), upd_ne (by omega), upd_ne (by omega), upd_ne (by omega), upd_eq]
    · rw [upd_ne (by omega), upd_ne (by omega), upd_ne (by omega), upd_eq]
    · rw [upd_ne (by omega), upd_ne (by omega), upd_eq]
    · rw [upd_ne (by omega), upd_eq]
    · rw [upd_eq]
  have so : ∀ k, k ≠ 18 → u_I I4 18 (upd (upd (upd (upd (upd (I 18) 9 (I 39 9)) 10 (I 39 10)) 11 (I 39 11)) 12 (I 39 12)) 13 (I 39 13)) k = I4 k := fun k hk => u_I_ne hk
  generalize u_I I4 18 (upd (upd (upd (upd (upd (I 18) 9 (I 39 9)) 10 (I 39 10)) 11 (I 39 11)) 12 (I 39 12)) 13 (I 39 13)) = I5 at s18 so ⊢
  have low : ∀ k, 19 ≤ k → k ≤ 26 → I5 k = I2 k := fun k a b => by rw [so k (by omega), to k (by omega), xo k (by omega)]
  have mid : ∀ k, 27 ≤ k → k ≤ 33 → I5 k = I3 k := fun k a b => by rw [so k (by omega), to k (by omega)]
  have top : ∀ k, 34 ≤ k → k ≤ 38 → I5 k = I4 k := fun k a b => by rw [so k (by omega)]
  refine h I5 (rm_e m1 (fun k a b => by rw [low k (by omega) (by omega), zo k (by omega)])) ⟨s18, ⟨?_, ?_, ?_⟩, ?_, ?_, ?_, ?_, ?_⟩ ?_
  · rw [low 19 (by omega) (by omega), z19, upd_ne (by omega), upd_eq]
  · rw [low 19 (by omega) (by omega), z19, upd_eq]
  · rw [top 34 (by omega) (by omega), t34, upd_eq]
  · intro j hj; rw [mid 27 (by omega) (by omega), x27, cpy_in hj]
  · intro j hj; rw [mid 28 (by omega) (by omega), x28, cpy_in hj]
  · intro k hk j hj
    have : k = 29 ∨ k = 30 ∨ k = 31 ∨ k = 32 := by omega
    rcases this with rfl | rfl | rfl | rfl
    · show I5 29 j = I 50 j; rw [mid 29 (by omega) (by omega), x29, cpy_in hj]
    · show I5 30 j = I 51 j; rw [mid 30 (by omega) (by omega), x30, cpy_in hj]
    · show I5 31 j = I 52 j; rw [mid 31 (by omega) (by omega), x31, cpy_in hj]
    · show I5 32 j = I 53 j; rw [mid 32 (by omega) (by omega), x32, cpy_in hj]
  · intro j hj; rw [mid 33 (by omega) (by omega), x33, cpy_in hj]
  · intro k hk j hj
    have : k = 35 ∨ k = 36 ∨ k = 37 ∨ k = 38 := by omega
    rcases this with rfl | rfl | rfl | rfl
    · show I5 35 j = I 56 j; rw [top 35 (by omega) (by omega), t35, cpy_in hj]
    · show I5 36 j = I 57 j; rw [top 36 (by omega) (by omega), t36, cpy_in hj]
    · show I5 37 j = I 58 j; rw [top 37 (by omega) (by omega), t37, cpy_in hj]
    · show I5 38 j = I 59 j; rw [top 38 (by omega) (by omega), t38, cpy_in hj]
  · intro k hk
    rw [so k (by omega), to k (by omega), v k (by omega) (by omega)]
/-- what image leaves -/
def KI (I I' : Nat → Nat → Int32) : Prop := (∀ k, 1 ≤ k ∧ k < 39 ∨ 60 ≤ k ∧ k < 99 ∨ 100 ≤ k ∧ k < 134 → I' k = I k) ∧ (∀ f, f ≠ 13 → I' 0 f = I 0 f) ∧ (∀ f, f ≠ 3 → f < 58 → I' 99 f = I 99 f)
theorem k_image {E : am_Ev} {I : Nat → Nat → Int32} {J : Nat → Nat → Int64} {S : Nat → Nat → Option Nat} {Q : am_Qt} {T cu ac n d : Nat} {x4 : Int32} {d5 d6 : Value} (hd5 : am_isL d5 = false) (hd6 : am_isL d6 = false) (hcr : CR I T cu ac n) (hvw : vw I T d) (h : ∀ I', CR I' T cu ac n → vw I' T d → CR (sw I') T cu ac n → I' 0 13 = nI 1 → I' 99 58 = nI 1 → KI I I' → lk x4 E I' J S Q) : am_ww 291 1117 [.ref 1000000, .ref 0, .ref 99, .ref 145, .int x4, d5, d6] [] E I J S Q := by
  apply g291_1117 hd5 hd6
  show am_ww 53 0 [.ref 0] [] E I J S _
  apply g53_0
  refine c54_39 hcr.2.2.2.2.2.2.2.2.2.1.1 (fun I1 m1 c1 f1 => q_mkV (q_mkV ?_))
  have e0 : I1 0 = I 0 := f1 0 (by omega)
  rw [e0]
  have z0 : u_I I1 0 (upd (I 0) 13 (nI 1)) 0 = upd (I 0) 13 (nI 1) := u_I_eq
  have zo : ∀ k, k ≠ 0 → u_I I1 0 (upd (I 0) 13 (nI 1)) k = I1 k := fun k hk => u_I_ne hk
  generalize u_I I1 0 (upd (I 0) 13 (nI 1)) = I2 at z0 zo ⊢
  refine m288 (fun I3 e99 q3 f3 => q_mkV (?_ : am_ww 291 1129 _ [] E I3 J S Q))
  have y : ∀ k, 1 ≤ k ∧ k < 39 ∨ 60 ≤ k ∧ k < 134 → I2 k = I k := fun k hk => by rw [zo k (by omega), f1 k (by omega)]
  have f3' : ∀ k, k < 134 ∨ 144 < k → k ≠ 99 → I3 k = I2 k := fun k a b => f3 k (by simp; omega)
  have w : ∀ k, 39 ≤ k ∧ k < 60 → I3 k = I1 k := fun k hk => by rw [f3' k (by omega) (by omega), zo k (by omega)]
  have all : ∀ k, 1 ≤ k ∧ k < 39 ∨ 60 ≤ k ∧ k < 99 ∨ 100 ≤ k ∧ k < 134 → I3 k = I k := fun k hk => by rw [f3' k (by omega) (by omega), y k (by omega)]
  rw [y 99 (by omega)] at e99
  have g99 : ∀ f, f ≠ 3 → f < 58 → I3 99 f = I 99 f := fun f a b => by rw [e99, upd_ne (by omega), upd_ne (by omega), upd_ne (by omega), upd_ne (by omega), upd_ne a]
  have hcr3 : CR I3 T cu ac n := CR_e ⟨fun k hk => all k (by omega), g99 12 (by omega) (by omega), g99 13 (by omega) (by omega), g99 43 (by omega) (by omega)⟩ hcr
  obtain ⟨c1a, c1b, c1c, c1d, c1e, c1f, c1g⟩ := c1
  obtain ⟨q1, q2, q3, q4, q5, q6, q7, q8, q9, q10, q11⟩ := q3
  refine h I3 hcr3 (vw_e (fun k hk => all k (by omega)) hvw) (CR_b (I := I) ⟨?_, ?_, ⟨?_, ?_, ?_, ?_, ?_, ?_⟩, ?_, ?_, ?_, ?_, ?_, ?_, ?_⟩ hcr ?_) ?_ ?_ ⟨all, ?_, g99⟩ _ _ hd5 hd6
  · intro k hk
    rw [sw_p (by omega), all k (by omega)]
  · intro f a b
    rw [sw_c (by omega), w 39 (by omega)]; exact c1a f a b
  · rw [sw_c (by omega), w 40 (by omega)]; exact c1b.1
  · rw [sw_c (by omega), w 40 (by omega)]; exact c1b.2.1
  · rw [sw_c (by omega), w 55 (by omega)]; exact c1b.2.2
  · rw [sw_99, upd_ne (by omega), upd_ne (by omega), upd_eq, e99, upd_ne (by omega), upd_ne (by omega), upd_eq]
  · rw [sw_99, upd_ne (by omega), upd_eq, e99, upd_ne (by omega), upd_eq]
  · rw [sw_99, upd_eq, e99, upd_eq]
  · intro k hk j hj
    rcases hk with rfl | rfl
    · rw [sw_c (by omega), w 49 (by omega)]; exact c1d j hj
    · rw [sw_r (by omega), q8 j hj, y 124 (by omega)]
  · intro k hk j hj
    rcases hk with rfl | rfl
    · rw [sw_c (by omega), w 48 (by omega)]; exact c1c j hj
    · rw [sw_r (by omega), q7 j hj, y 123 (by omega)]
  · intro k hk j hj
    rcases hk with hk | hk
    · rw [sw_c (by omega), w (k + 21) (by omega)]; exact c1e k hk j hj
    · have : k = 120 ∨ k = 121 ∨ k = 122 := by omega
      rcases this with rfl | rfl | rfl
      · rw [sw_r (by omega), q4 j hj, y 120 (by omega)]
      · rw [sw_r (by omega), q5 j hj, y 121 (by omega)]
      · rw [sw_r (by omega), q6 j hj, y 122 (by omega)]
  · intro k hk j hj
    rcases hk with rfl | rfl | rfl
    · rw [sw_c (by omega), w 54 (by omega)]; exact c1f j hj
    · rw [sw_r (by omega), q2 j hj, y 118 (by omega)]
    · rw [sw_r (by omega), q3 j hj, y 119 (by omega)]
  · intro k hk j hj
    rcases hk with hk | rfl | rfl
    · rw [sw_c (by omega), w (k + 21) (by omega)]; exact c1g k hk j hj
    · rw [sw_126, q9 j hj, y 126 (by omega)]
    · rw [sw_127, q10 j hj, y 127 (by omega)]
  · intro j hj
    rw [sw_110, q11 j hj, y 110 (by omega)]
  · intro j hj
    rw [sw_r (by omega), q1 j hj, y 117 (by omega)]
  · obtain ⟨r1, r2, r3, r4, r5, r6, r7⟩ := rm_e (I' := I3) m1 (fun k a b => w k (by omega))
    refine ⟨fun k hk => ?_, fun t j ht hj => ?_, fun t ht => ?_, fun t ht => ?_, fun l hl => ?_, ?_, fun s hs => ?_⟩
    · rw [sw_c (by omega)]; exact r1 k hk
    · rw [sw_c (by omega)]; exact r2 t j ht hj
    · rw [sw_c (by omega)]; exact r3 t ht
    · rw [sw_c (by omega)]; exact r4 t ht
    · rw [sw_c (by omega)]; exact r5 l hl
    · rw [sw_c (by omega)]; exact r6
    · rw [sw_c (by omega)]; exact r7 s hs
  · rw [f3' 0 (by omega) (by omega), z0, upd_eq]
  · rw [e99, upd_ne (by omega), upd_ne (by omega), upd_ne (by omega), upd_eq]
  · intro f hf
    rw [f3' 0 (by omega) (by omega), z0, upd_ne hf]
/-- the first row, seen anew -/
theorem c41w {E : am_Ev} {I : Nat → Nat → Int32} {J : Nat → Nat → Int64} {S : Nat → Nat → Option Nat} {Q : am_Qt} (hc : ∀ k, k < 16 → I 16 k = I 104 k) (h : ∀ I', rm I' 61 (m_first I (I 103 1)) → (I' 60 1 = nI 0 ∧ I' 60 2 = nI 0 ∧ I' 60 3 = nI 0 ∧ I' 60 4 = -1) → I' 89 8 = nI 0 → (∀ k, k < 60 ∨ 67 < k → k ≠ 89 → I' k = I k) → (∀ f, f ≠ 8 → I' 89 f = I 89 f) → Q (.inl none) E I' J S) : am_cl 41 [.ref 0] E I J S Q := by
  show am_ww 41 0 [.ref 0] [] E I J S Q
  apply g41_0
  refine c17_60 (seed := I 103 1) hc (fun I' a b f => q_mkV (h _ ?_ ⟨?_, ?_, ?_, ?_⟩ (by rw [u_I_eq, upd_eq]) (fun k hk hk' => by rw [u_I_ne hk', f k (by omega)]) (fun j hj => by rw [u_I_eq, upd_ne hj, f 89 (by omega)])))
  · exact rm_e a (fun k h1 h2 => u_I_ne (by omega))
  · rw [u_I_ne (by decide), b, upd_ne (by omega), upd_ne (by omega), upd_ne (by omega), upd_eq]
  · rw [u_I_ne (by decide), b, upd_ne (by omega), upd_ne (by omega), upd_eq]
  · rw [u_I_ne (by decide), b, upd_ne (by omega), upd_eq]
  · rw [u_I_ne (by decide), b, upd_eq]
theorem vw_0 {I F : Nat → Nat → Int32} {T n : Nat} (hR : RW F T n) (e1 : I 103 = F 103) (e4 : I 104 = F 104) (m : rm F 61 (m_first I (I 103 1))) (b : F 60 1 = nI 0 ∧ F 60 2 = nI 0 ∧ F 60 3 = nI 0 ∧ F 60 4 = -1) : vw F T 0 := by
  have ef : m_first I (I 103 1) = m_first F (F 103 1) := by
    funext k
    unfold m_first
    rw [e4, e1]
  rw [ef] at m
  have h3 := hR.2.2.1
  have h47 : rt F 0 47 = nI 0 := by rw [← h3 47 (by omega)]; rfl
  refine ⟨b.1, Nat.zero_le _, by rw [h47]; exact b.2.1, b.2.2.1, b.2.2.2, rm_c m (fun k hk => h3 k (by omega))⟩
theorem k_restore {E : am_Ev} {I : Nat → Nat → Int32} {J : Nat → Nat → Int64} {S : Nat → Nat → Option Nat} {Q : am_Qt} {T cu ac n d : Nat} {x4 : Int32} {d5 d6 : Value} (hd5 : am_isL d5 = false) (hd6 : am_isL d6 = false) (hcr : CR I T cu ac n) (hvw : vw I T d) (him : (I 99 58 = nI 0 ∧ I 0 13 = nI 0) ∨ (I 99 58 = nI 1 ∧ I 0 13 = nI 1 ∧ ∃ T cu ac n, CR (sw I) T cu ac n)) (h : Hn I J S E x4 Q) : am_ww 291 1122 [.ref 1000000, .ref 0, .ref 99, .ref 145, .int x4, d5, d6] [] E I J S Q := by
  apply g291_1122 hd5 hd6
  show am_ww 57 0 [.ref 0] [] E I J S _
  apply g57_0
  rcases him with ⟨i1, i2⟩ | ⟨i1, i2, T', cu', ac', n', hcs⟩
  · refine ⟨fun _ => q_mkI ?_, fun q => absurd i2 q⟩
    show am_ww 290 0 [.ref 99] [] E I J S _
    apply g290_0
    refine ⟨fun _ => q_mkI ⟨fun _ => h _ _ _ _ _ _ _ _ (Or.inl rfl) (CR_e (ce_99 (by omega)) hcr) (vw_e (fun k hk => u_I_ne (by omega)) hvw) ⟨fun k hk => u_I_ne (by omega), fun f hf => by rw [u_I_eq, upd_ne (by omega)]⟩ (Or.inr ⟨fun k _ _ => u_I_ne (by omega), u_I_ne (by decide), by rw [u_I_ne (by decide)], rfl⟩) _ _ hd5 hd6, fun q => absurd rfl q⟩, fun q => absurd i1 q⟩
  · refine ⟨fun q => absurd (i2.symm.trans q) (by decide), fun _ => ?_⟩
    have hm : rm I 41 (rt (sw I) T') := by
      obtain ⟨r1, r2, r3, r4, r5, r6, r7⟩ := hcs.2.2.2.2.2.2.2.2.2.1.1
      refine ⟨fun k hk => ?_, fun t j ht hj => ?_, fun t ht => ?_, fun t ht => ?_, fun l hl => ?_, ?_, fun s hs => ?_⟩
      · have := r1 k hk; rw [sw_c (by omega)] at this; exact this
      · have := r2 t j ht hj; rw [sw_c (by omega)] at this; exact this
      · have := r3 t ht; rw [sw_c (by omega)] at this; exact this
      · have := r4 t ht; rw [sw_c (by omega)] at this; exact this
      · have := r5 l hl; rw [sw_c (by omega)] at this; exact this
      · have := r6; rw [sw_c (by omega)] at this; exact this
      · have := r7 s hs; rw [sw_c (by omega)] at this; exact this
    refine c54_18 hm (fun I1 m1 c1 f1 => q_mkV ?_)
    refine c41w (by rw [f1 16 (by omega), f1 104 (by omega)]; exact hcr.2.1.2.2.1) (fun I2 m2 b2 e89 f2 _ => q_mkV (q_mkI ?_))
    have y : ∀ k, k < 18 ∨ 38 < k ∧ k < 60 ∨ 67 < k → k ≠ 89 → I2 k = I k := fun k a b => by rw [f2 k (by omega) b, f1 k (by omega)]
    have y1 : ∀ k, 18 ≤ k ∧ k < 39 → I2 k = I1 k := fun k hk => f2 k (by omega) (by omega)
    refine m290 (by rw [y 99 (by omega) (by omega), i1]; decide) (fun I3 e99 q3 f3 => q_mkI ⟨fun _ => ?_, fun q => absurd rfl q⟩)
    have f3' : ∀ k, k < 99 ∨ 99 < k ∧ k < 110 ∨ 110 < k ∧ k < 117 ∨ k = 125 ∨ 127 < k → I3 k = I2 k := fun k hk => f3 k (by simp; omega)
    have w : ∀ k, 18 ≤ k ∧ k < 39 → I3 k = I1 k := fun k hk => by rw [f3' k (by omega), y1 k hk]
    have all : ∀ k, k < 18 ∨ 39 ≤ k ∧ k < 60 ∨ 100 ≤ k ∧ k < 110 ∨ 111 ≤ k ∧ k < 116 ∨ 134 ≤ k ∧ k < 146 → I3 k = I k := fun k hk => by rw [f3' k (by omega), y k (by omega) (by omega)]
    have z99 : I2 99 = I 99 := y 99 (by omega) (by omega)
    rw [z99] at e99
    obtain ⟨c1a, c1b, c1c, c1d, c1e, c1f, c1g⟩ := c1
    obtain ⟨q1, q2, q3, q4, q5, q6, q7, q8, q9, q10, q11⟩ := q3
    have e2 : ∀ k, 134 ≤ k ∧ k < 146 → I2 k = I k := fun k hk => y k (by omega) (by omega)
    have hcr3 : CR I3 T' cu' ac' n' := by
      refine CR_b (I := sw I) ⟨?_, ?_, ⟨?_, ?_, ?_, ?_, ?_, ?_⟩, ?_, ?_, ?_, ?_, ?_, ?_, ?_⟩ hcs (rm_e m1 (fun k a b => w k (by omega)))
      · intro k hk
        rw [sw_p (by omega), all k (by omega)]
      · intro f a b
        rw [sw_c (by omega), w 18 (by omega)]; exact c1a f a b
      · rw [sw_c (by omega), w 19 (by omega)]; exact c1b.1
      · rw [sw_c (by omega), w 19 (by omega)]; exact c1b.2.1
      · rw [sw_c (by omega), w 34 (by omega)]; exact c1b.2.2
      · rw [sw_99, e99, upd_ne (by omega), upd_ne (by omega), upd_eq, upd_ne (by omega), upd_ne (by omega), upd_eq]
      · rw [sw_99, e99, upd_ne (by omega), upd_eq, upd_ne (by omega), upd_eq]
      · rw [sw_99, e99, upd_eq, upd_eq]
      · intro k hk j hj
        rcases hk with rfl | rfl
        · rw [sw_c (by omega), w 28 (by omega)]; exact c1d j hj
        · rw [sw_r (by omega), q8 j hj, e2 141 (by omega)]
      · intro k hk j hj
        rcases hk with rfl | rfl
        · rw [sw_c (by omega), w 27 (by omega)]; exact c1c j hj
        · rw [sw_r (by omega), q7 j hj, e2 140 (by omega)]
      · intro k hk j hj
        rcases hk with hk | hk
        · rw [sw_c (by omega), w k (by omega)]; exact c1e k hk j hj
        · have : k = 120 ∨ k = 121 ∨ k = 122 := by omega
          rcases this with rfl | rfl | rfl
          · rw [sw_r (by omega), q4 j hj, e2 137 (by omega)]
          · rw [sw_r (by omega), q5 j hj, e2 138 (by omega)]
          · rw [sw_r (by omega), q6 j hj, e2 139 (by omega)]
      · intro k hk j hj
        rcases hk with rfl | rfl | rfl
        · rw [sw_c (by omega), w 33 (by omega)]; exact c1f j hj
        · rw [sw_r (by omega), q2 j hj, e2 135 (by omega)]
        · rw [sw_r (by omega), q3 j hj, e2 136 (by omega)]
      · intro k hk j hj
        rcases hk with hk | rfl | rfl
        · rw [sw_c (by omega), w k (by omega)]; exact c1g k hk j hj
        · rw [sw_126, q9 j hj, e2 142 (by omega)]
        · rw [sw_127, q10 j hj, e2 143 (by omega)]
      · intro j hj
        rw [sw_110, q11 j hj, e2 144 (by omega)]
      · intro j hj
        rw [sw_r (by omega), q1 j hj, e2 134 (by omega)]
    refine h _ _ _ _ _ _ _ 0 (Or.inl rfl) hcr3 (vw_0 (I := I1) hcr3.2.2.2.1 (by rw [all 103 (by omega), f1 103 (by omega)]) (by rw [all 104 (by omega), f1 104 (by omega)]) (rm_e m2 (fun k a b => f3' k (by omega))) (by rw [f3' 60 (by omega)]; exact b2)) ⟨all, fun f hf => ?_⟩ (Or.inl (by rw [f3' 89 (by omega)]; exact e89)) _ _ hd5 hd6
    rw [e99, upd_ne (by omega), upd_ne (by omega), upd_ne (by omega), upd_ne (by omega)]
