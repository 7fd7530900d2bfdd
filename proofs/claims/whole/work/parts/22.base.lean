/-! numbers -/
theorem nI_mulI (a b : Nat) : nI a * nI b = nI (a * b) := by
  unfold nI
  exact (Int32.ofNat_mul a b).symm
theorem nI_subI {a b : Nat} (h : b ≤ a) : nI a - nI b = nI (a - b) := by
  have e := nI_add (a - b) b
  rw [Nat.sub_add_cancel h] at e
  rw [← e, Int32.add_sub_cancel]
theorem nI_divI {a b : Nat} (ha : a < 2 ^ 31) (hb : b < 2 ^ 31) : nI a / nI b = nI (a / b) := by
  have h1 : a / b ≤ a := Nat.div_le_self a b
  apply Int32.toInt_inj.mp
  rw [Int32.toInt_div, nI_toInt ha, nI_toInt hb, nI_toInt (by omega)]
  rw [← Int.ofNat_tdiv]
  have h2 : (0 : Int) ≤ ((a / b : Nat) : Int) := Int.natCast_nonneg _
  have h3 : ((a / b : Nat) : Int) < 2147483648 := Int.ofNat_lt.mpr (show a / b < 2147483648 by omega)
  generalize ((a / b : Nat) : Int) = q at h2 h3 ⊢
  apply Int.bmod_eq_of_le <;> omega
theorem nI_remI {a b : Nat} (ha : a < 2 ^ 31) (hb : b < 2 ^ 31) : nI a - nI a / nI b * nI b = nI (a % b) := by
  rw [nI_divI ha hb, nI_mulI, nI_subI (Nat.div_mul_le_self a b), Nat.mod_eq_sub_div_mul]
theorem vc {x : Int32} {n : Nat} (h : vp_in x n) : x = nI x.toNatClampNeg := by
  obtain ⟨j, hj, e⟩ := nI_of (fun q => h (Or.inl q))
  rw [e, nI_clamp hj]
theorem vb {x : Int32} {n : Nat} (h : vp_in x n) : x.toNatClampNeg < n := Nat.lt_of_not_le (fun q => h (Or.inr q))
theorem vn {x : Int32} {n : Nat} (h : vp_in x n) : ∃ j, j < n ∧ x = nI j := ⟨_, vb h, vc h⟩
theorem vl {x : Int32} {n m : Nat} (h : vp_in x n) (hm : n ≤ m) : vp_in x m := fun q => h (q.imp id (fun q => Nat.le_trans hm q))
theorem v0 {x : Int32} {n : Nat} (h : vp_in x n) : ¬ x < 0 := fun q => h (Or.inl q)
/-- an int between two numbers -/
theorem vr {x : Int32} {a b : Nat} (hab : a ≤ b) (hb : b < 2 ^ 31) (h1 : ¬ x < nI a) (h2 : ¬ nI b < x) : ∃ j, a ≤ j ∧ j ≤ b ∧ x = nI j := by
  have ha : a < 2 ^ 31 := by omega
  have ha' : ¬ x < 0 := by
    intro q
    apply h1
    rw [Int32.lt_iff_toInt_lt] at q ⊢
    have e0 : (0 : Int32).toInt = 0 := rfl
    rw [nI_toInt ha]
    omega
  obtain ⟨j, hj, e⟩ := nI_of ha'
  subst e
  refine ⟨j, ?_, ?_, rfl⟩
  · rw [nI_ltI hj ha] at h1; omega
  · rw [nI_ltI hb hj] at h2; omega
/-! what the printed rows of methods stand on -/
section
variable {y i : Nat} {ls st ls' st' : List Value} {E : am_Ev} {I I1 I2 : Nat → Nat → Int32} {J J1 J2 : Nat → Nat → Int64} {S S1 S2 : Nat → Nat → Option Nat} {Q : am_Qt} {k k1 k2 k3 k4 k5 : Nat}
theorem w_to {i1 i2 : Nat} (h : i1 = i2) (k : am_ww y i2 ls st E I J S Q) : am_ww y i1 ls st E I J S Q := h ▸ k
theorem w_eI (h : I1 = I2) (k : am_ww y i ls st E I2 J S Q) : am_ww y i ls st E I1 J S Q := h ▸ k
theorem w_eJ (h : J1 = J2) (k : am_ww y i ls st E I J2 S Q) : am_ww y i ls st E I J1 S Q := h ▸ k
theorem w_eS (h : S1 = S2) (k : am_ww y i ls st E I J S2 Q) : am_ww y i ls st E I J S1 Q := h ▸ k
theorem w_mg {i0 : Nat} {ls0 st0 : List Value} (k : am_ww y i ls' st' E I J S Q → am_ww y i0 ls0 st0 E I J S Q) (h : am_ww y i ls' st' E I J S Q) : am_ww y i0 ls0 st0 E I J S Q := k h
theorem w_ri {cc : List Instr} {v : Int32} (hc : am_code y = cc) (hi : cc[i]? = some .ireturn) (hr : am_rk y = 1) (k : Q (.inl (some (.int v))) E I J S) : am_ww y i ls [.int v] E I J S Q := by
  refine w_end hc hi rfl ?_ k
  unfold am_end
  dsimp only
  rw [hr, if_pos ⟨Nat.le_refl _, by omega, rfl⟩]
theorem w_al {cc : List Instr} {a : Nat} (hc : am_code y = cc) (hi : cc[i]? = some (.aload k)) (hl : ls.getD k am_U = .ref a) (ha : a < 4000000) (kk : am_ww y (i + 1) ls (.ref a :: st) E I J S Q) : am_ww y i ls st E I J S Q :=
  w_st hc hi rfl rfl (by simp only [am_step, hl, if_pos ha]) kk
theorem w_gv {cc : List Instr} {q : Nat} {r : List Value} (hq : q < 55) (hc : am_code y = cc) (hi : cc[i]? = some (.getfield 990000)) (kk : am_ww y (i + 1) ls (.ref (3000000 + q) :: r) E I J S Q) : am_ww y i ls (.ref (2000000 + q) :: r) E I J S Q := by
  refine w_st hc hi rfl rfl ?_ kk
  show am_get 990000 i ls (.ref (2000000 + q) :: r) (am_M E I J S) = _
  unfold am_get
  dsimp only
  rw [if_neg (show ¬ 990000 < 990000 by omega), if_pos (show 2000000 ≤ 2000000 + q ∧ 2000000 + q < 2000055 by omega), if_pos rfl, show 2000000 + q + 1000000 = 3000000 + q by omega]
theorem w_gc {cc : List Instr} {q : Nat} {r : List Value} (hq : q < 55) (hc : am_code y = cc) (hi : cc[i]? = some (.getfield 990001)) (kk : am_ww y (i + 1) ls (.int (nI 0) :: r) E I J S Q) : am_ww y i ls (.ref (2000000 + q) :: r) E I J S Q := by
  refine w_st hc hi rfl rfl ?_ kk
  show am_get 990001 i ls (.ref (2000000 + q) :: r) (am_M E I J S) = _
  unfold am_get
  dsimp only
  rw [if_neg (show ¬ 990001 < 990000 by omega), if_pos (show 2000000 ≤ 2000000 + q ∧ 2000000 + q < 2000055 by omega), if_neg (show ¬ 990001 = 990000 by omega), if_pos rfl]
theorem w_sl {cc : List Instr} {q : Nat} {r : List Value} (hq : q < 55) (hc : am_code y = cc) (hi : cc[i]? = some .arraylength) (kk : am_ww y (i + 1) ls (.int (nI (am_slen.getD q 0)) :: r) E I J S Q) : am_ww y i ls (.ref (3000000 + q) :: r) E I J S Q := by
  refine w_st hc hi rfl rfl ?_ kk
  show am_len i ls (.ref (3000000 + q) :: r) (am_M E I J S) = _
  unfold am_len
  dsimp only
  rw [if_neg (show ¬ 3000000 + q < 1000000 by omega), if_neg (show ¬ 3000000 + q = 1000000 by omega), if_pos (show 3000000 ≤ 3000000 + q ∧ 3000000 + q < 3000055 by omega), show 3000000 + q - 3000000 = q by omega]
theorem w_sb {cc : List Instr} {q : Nat} {j : Int32} {r : List Value} (hq : q < 55) (hj : vp_in j (am_slen.getD q 0)) (hc : am_code y = cc) (hi : cc[i]? = some .baload) (kk : am_ww y (i + 1) ls (.int ((am_strL.getD q []).getD j.toNatClampNeg 0) :: r) E I J S Q) : am_ww y i ls (.int j :: .ref (3000000 + q) :: r) E I J S Q := by
  refine w_st hc hi rfl rfl ?_ kk
  show am_ald .baload i ls (.int j :: .ref (3000000 + q) :: r) (am_M E I J S) = _
  unfold am_ald
  dsimp only
  rw [if_neg (show ¬ 3000000 + q < 1000000 by omega), if_neg (show ¬ 3000000 + q = 1000000 by omega), if_pos (show 3000000 ≤ 3000000 + q ∧ 3000000 + q < 3000055 by omega), show 3000000 + q - 3000000 = q by omega, am_out_of hj]
  rfl
theorem am_ckS {z q : Nat} {as rest : List Value} {σ : am_St} (hq : q < 55) (h : (decide ((Value.ref 0 :: as).length = am_na z) && decide (am_nd z < am_nd y) && decide ((rest.map fun v => v.category).sum ≤ 8) && decide (am_own z = 14) && decide ((am_lay (Value.ref 0 :: as)).length ≤ am_ml z)) = true) : am_ck y z (.invokevirtual z) (.ref (2000000 + q) :: as) rest σ = true := by
  simp only [Bool.and_eq_true, decide_eq_true_eq] at h
  obtain ⟨⟨⟨⟨h1, h2⟩, h3⟩, h4⟩, h5⟩ := h
  unfold am_ck
  have e : am_rcv (.invokevirtual z) z (.ref (2000000 + q) :: as) σ = true := by
    unfold am_rcv
    dsimp only
    rw [h4, if_neg (show ¬ 14 < 13 by omega), decide_eq_true (rfl : 14 = 14), decide_eq_true (show 2000000 ≤ 2000000 + q by omega), decide_eq_true (show 2000000 + q < 2000055 by omega)]
    rfl
  rw [e, decide_eq_true h2, decide_eq_true h3, decide_eq_true (show (am_lay (Value.ref (2000000 + q) :: as)).length ≤ am_ml z from h5), decide_eq_true (show (Value.ref (2000000 + q) :: as).length = am_na z from h1)]
  rfl
theorem w_rc {cc : List Instr} {v : Int32} (hc : am_code y = cc) (hi : cc[i]? = some .ireturn) (hr : am_rk y = 4) (hv : narrow .char (.int v) = .int v) (k : Q (.inl (some (.int v))) E I J S) : am_ww y i ls [.int v] E I J S Q := by
  refine w_end hc hi rfl ?_ k
  unfold am_end
  dsimp only
  rw [hr, if_pos ⟨by omega, by omega, hv⟩]
theorem w_varL (P : Int64 → Prop) (x : Int64) (k : ∀ w, w = x → P w) : P x := k x rfl
theorem w_var (P : Int32 → Prop) (x : Int32) (k : ∀ w, w = x → P w) : P x := k x rfl
theorem q_mkI {v : Int32} {K : Int32 → am_Ev → (Nat → Nat → Int32) → (Nat → Nat → Int64) → (Nat → Nat → Option Nat) → Prop} (h : K v E I J S) : q_I K (.inl (some (.int v))) E I J S := ⟨v, rfl, h⟩
theorem q_mkV {K : am_Ev → (Nat → Nat → Int32) → (Nat → Nat → Int64) → (Nat → Nat → Option Nat) → Prop} (h : K E I J S) : q_V K (.inl none) E I J S := ⟨rfl, h⟩
theorem q_mkR {v : Nat} {K : Nat → am_Ev → (Nat → Nat → Int32) → (Nat → Nat → Int64) → (Nat → Nat → Option Nat) → Prop} (h : K v E I J S) : q_R K (.inl (some (.ref v))) E I J S := ⟨v, rfl, h⟩
theorem uI_0 (I : Nat → Nat → Int32) (k : Nat) (A D : Nat → Int32) : u_I (u_I I k A) k D = u_I I k D := by
  funext a
  simp only [u_I]
  by_cases h : a = k
  · rw [if_pos h, if_pos h]
  · simp only [if_neg h]
theorem uI_1 (I : Nat → Nat → Int32) (k m0 : Nat) (A D B0 : Nat → Int32) : u_I (u_I (u_I I k A) m0 B0) k D = u_I (u_I I m0 B0) k D := by
  funext a
  simp only [u_I]
  by_cases h : a = k
  · rw [if_pos h, if_pos h]
  · simp only [if_neg h]
theorem uI_2 (I : Nat → Nat → Int32) (k m0 m1 : Nat) (A D B0 B1 : Nat → Int32) : u_I (u_I (u_I (u_I I k A) m0 B0) m1 B1) k D = u_I (u_I (u_I I m0 B0) m1 B1) k D := by
  funext a
  simp only [u_I]
  by_cases h : a = k
  · rw [if_pos h, if_pos h]
  · simp only [if_neg h]
theorem uI_3 (I : Nat → Nat → Int32) (k m0 m1 m2 : Nat) (A D B0 B1 B2 : Nat → Int32) : u_I (u_I (u_I (u_I (u_I I k A) m0 B0) m1 B1) m2 B2) k D = u_I (u_I (u_I (u_I I m0 B0) m1 B1) m2 B2) k D := by
  funext a
  simp only [u_I]
  by_cases h : a = k
  · rw [if_pos h, if_pos h]
  · simp only [if_neg h]
theorem uI_4 (I : Nat → Nat → Int32) (k m0 m1 m2 m3 : Nat) (A D B0 B1 B2 B3 : Nat → Int32) : u_I (u_I (u_I (u_I (u_I (u_I I k A) m0 B0) m1 B1) m2 B2) m3 B3) k D = u_I (u_I (u_I (u_I (u_I I m0 B0) m1 B1) m2 B2) m3 B3) k D := by
  funext a
  simp only [u_I]
  by_cases h : a = k
  · rw [if_pos h, if_pos h]
  · simp only [if_neg h]
theorem uI_5 (I : Nat → Nat → Int32) (k m0 m1 m2 m3 m4 : Nat) (A D B0 B1 B2 B3 B4 : Nat → Int32) : u_I (u_I (u_I (u_I (u_I (u_I (u_I I k A) m0 B0) m1 B1) m2 B2) m3 B3) m4 B4) k D = u_I (u_I (u_I (u_I (u_I (u_I I m0 B0) m1 B1) m2 B2) m3 B3) m4 B4) k D := by
  funext a
  simp only [u_I]
  by_cases h : a = k
  · rw [if_pos h, if_pos h]
  · simp only [if_neg h]
theorem uI_6 (I : Nat → Nat → Int32) (k m0 m1 m2 m3 m4 m5 : Nat) (A D B0 B1 B2 B3 B4 B5 : Nat → Int32) : u_I (u_I (u_I (u_I (u_I (u_I (u_I (u_I I k A) m0 B0) m1 B1) m2 B2) m3 B3) m4 B4) m5 B5) k D = u_I (u_I (u_I (u_I (u_I (u_I (u_I I m0 B0) m1 B1) m2 B2) m3 B3) m4 B4) m5 B5) k D := by
  funext a
  simp only [u_I]
  by_cases h : a = k
  · rw [if_pos h, if_pos h]
  · simp only [if_neg h]
theorem uJ_0 (J : Nat → Nat → Int64) (k : Nat) (A D : Nat → Int64) : u_J (u_J J k A) k D = u_J J k D := by
  funext a
  simp only [u_J]
  by_cases h : a = k
  · rw [if_pos h, if_pos h]
  · simp only [if_neg h]
theorem uJ_1 (J : Nat → Nat → Int64) (k m0 : Nat) (A D B0 : Nat → Int64) : u_J (u_J (u_J J k A) m0 B0) k D = u_J (u_J J m0 B0) k D := by
  funext a
  simp only [u_J]
  by_cases h : a = k
  · rw [if_pos h, if_pos h]
  · simp only [if_neg h]
theorem uJ_2 (J : Nat → Nat → Int64) (k m0 m1 : Nat) (A D B0 B1 : Nat → Int64) : u_J (u_J (u_J (u_J J k A) m0 B0) m1 B1) k D = u_J (u_J (u_J J m0 B0) m1 B1) k D := by
  funext a
  simp only [u_J]
  by_cases h : a = k
  · rw [if_pos h, if_pos h]
  · simp only [if_neg h]
theorem uJ_3 (J : Nat → Nat → Int64) (k m0 m1 m2 : Nat) (A D B0 B1 B2 : Nat → Int64) : u_J (u_J (u_J (u_J (u_J J k A) m0 B0) m1 B1) m2 B2) k D = u_J (u_J (u_J (u_J J m0 B0) m1 B1) m2 B2) k D := by
  funext a
  simp only [u_J]
  by_cases h : a = k
  · rw [if_pos h, if_pos h]
  · simp only [if_neg h]
theorem uJ_4 (J : Nat → Nat → Int64) (k m0 m1 m2 m3 : Nat) (A D B0 B1 B2 B3 : Nat → Int64) : u_J (u_J (u_J (u_J (u_J (u_J J k A) m0 B0) m1 B1) m2 B2) m3 B3) k D = u_J (u_J (u_J (u_J (u_J J m0 B0) m1 B1) m2 B2) m3 B3) k D := by
  funext a
  simp only [u_J]
  by_cases h : a = k
  · rw [if_pos h, if_pos h]
  · simp only [if_neg h]
theorem uJ_5 (J : Nat → Nat → Int64) (k m0 m1 m2 m3 m4 : Nat) (A D B0 B1 B2 B3 B4 : Nat → Int64) : u_J (u_J (u_J (u_J (u_J (u_J (u_J J k A) m0 B0) m1 B1) m2 B2) m3 B3) m4 B4) k D = u_J (u_J (u_J (u_J (u_J (u_J J m0 B0) m1 B1) m2 B2) m3 B3) m4 B4) k D := by
  funext a
  simp only [u_J]
  by_cases h : a = k
  · rw [if_pos h, if_pos h]
  · simp only [if_neg h]
theorem uJ_6 (J : Nat → Nat → Int64) (k m0 m1 m2 m3 m4 m5 : Nat) (A D B0 B1 B2 B3 B4 B5 : Nat → Int64) : u_J (u_J (u_J (u_J (u_J (u_J (u_J (u_J J k A) m0 B0) m1 B1) m2 B2) m3 B3) m4 B4) m5 B5) k D = u_J (u_J (u_J (u_J (u_J (u_J (u_J J m0 B0) m1 B1) m2 B2) m3 B3) m4 B4) m5 B5) k D := by
  funext a
  simp only [u_J]
  by_cases h : a = k
  · rw [if_pos h, if_pos h]
  · simp only [if_neg h]
theorem uS_0 (S : Nat → Nat → Option Nat) (k : Nat) (A D : Nat → Option Nat) : u_S (u_S S k A) k D = u_S S k D := by
  funext a
  simp only [u_S]
  by_cases h : a = k
  · rw [if_pos h, if_pos h]
  · simp only [if_neg h]
theorem uS_1 (S : Nat → Nat → Option Nat) (k m0 : Nat) (A D B0 : Nat → Option Nat) : u_S (u_S (u_S S k A) m0 B0) k D = u_S (u_S S m0 B0) k D := by
  funext a
  simp only [u_S]
  by_cases h : a = k
  · rw [if_pos h, if_pos h]
  · simp only [if_neg h]
theorem uS_2 (S : Nat → Nat → Option Nat) (k m0 m1 : Nat) (A D B0 B1 : Nat → Option Nat) : u_S (u_S (u_S (u_S S k A) m0 B0) m1 B1) k D = u_S (u_S (u_S S m0 B0) m1 B1) k D := by
  funext a
  simp only [u_S]
  by_cases h : a = k
  · rw [if_pos h, if_pos h]
  · simp only [if_neg h]
theorem uS_3 (S : Nat → Nat → Option Nat) (k m0 m1 m2 : Nat) (A D B0 B1 B2 : Nat → Option Nat) : u_S (u_S (u_S (u_S (u_S S k A) m0 B0) m1 B1) m2 B2) k D = u_S (u_S (u_S (u_S S m0 B0) m1 B1) m2 B2) k D := by
  funext a
  simp only [u_S]
  by_cases h : a = k
  · rw [if_pos h, if_pos h]
  · simp only [if_neg h]
theorem uS_4 (S : Nat → Nat → Option Nat) (k m0 m1 m2 m3 : Nat) (A D B0 B1 B2 B3 : Nat → Option Nat) : u_S (u_S (u_S (u_S (u_S (u_S S k A) m0 B0) m1 B1) m2 B2) m3 B3) k D = u_S (u_S (u_S (u_S (u_S S m0 B0) m1 B1) m2 B2) m3 B3) k D := by
  funext a
  simp only [u_S]
  by_cases h : a = k
  · rw [if_pos h, if_pos h]
  · simp only [if_neg h]
theorem uS_5 (S : Nat → Nat → Option Nat) (k m0 m1 m2 m3 m4 : Nat) (A D B0 B1 B2 B3 B4 : Nat → Option Nat) : u_S (u_S (u_S (u_S (u_S (u_S (u_S S k A) m0 B0) m1 B1) m2 B2) m3 B3) m4 B4) k D = u_S (u_S (u_S (u_S (u_S (u_S S m0 B0) m1 B1) m2 B2) m3 B3) m4 B4) k D := by
  funext a
  simp only [u_S]
  by_cases h : a = k
  · rw [if_pos h, if_pos h]
  · simp only [if_neg h]
theorem uS_6 (S : Nat → Nat → Option Nat) (k m0 m1 m2 m3 m4 m5 : Nat) (A D B0 B1 B2 B3 B4 B5 : Nat → Option Nat) : u_S (u_S (u_S (u_S (u_S (u_S (u_S (u_S S k A) m0 B0) m1 B1) m2 B2) m3 B3) m4 B4) m5 B5) k D = u_S (u_S (u_S (u_S (u_S (u_S (u_S S m0 B0) m1 B1) m2 B2) m3 B3) m4 B4) m5 B5) k D := by
  funext a
  simp only [u_S]
  by_cases h : a = k
  · rw [if_pos h, if_pos h]
  · simp only [if_neg h]
end
