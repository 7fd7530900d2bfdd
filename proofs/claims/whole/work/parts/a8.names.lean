/-! one run has one end; names -/
theorem ww_and {y i : Nat} {ls st : List Value} {E : am_Ev} {I : Nat → Nat → Int32} {J : Nat → Nat → Int64} {S : Nat → Nat → Option Nat} {Q : am_Qt} {Q' : am_Qt} (h1 : am_ww y i ls st E I J S Q) (h2 : am_ww y i ls st E I J S Q') : am_ww y i ls st E I J S (fun r E I J S => Q r E I J S ∧ Q' r E I J S) := by
  obtain ⟨n, r, σ, e1, E1, I1, J1, S1, eσ, q1⟩ := h1
  obtain ⟨m, r', σ', e2, E2, I2, J2, S2, eσ', q2⟩ := h2
  have a := am_run_le e1 (Nat.le_max_left n m)
  have b := am_run_le e2 (Nat.le_max_right n m)
  rw [a] at b
  injection b with b
  injection b with b1 b2
  subst b1
  rw [eσ, eσ'] at b2
  unfold am_M at b2
  obtain ⟨x1, y1, z1⟩ := E1
  obtain ⟨x2, y2, z2⟩ := E2
  simp only [Prod.mk.injEq] at b2
  obtain ⟨_, g1, g2, g3, g4, g5, _, g6⟩ := b2
  subst g1 g2 g4 g5 g6
  have g3' : z1 = z2 := g3
  subst g3'
  exact ⟨n, r, σ, e1, _, _, _, _, eσ, q1, q2⟩
/-- what holds of some end holds: a fact that does not depend on the heap comes out -/
theorem ww_ex {y i : Nat} {ls st : List Value} {E : am_Ev} {I : Nat → Nat → Int32} {J : Nat → Nat → Int64} {S : Nat → Nat → Option Nat} {Q : am_Qt} (h : am_ww y i ls st E I J S Q) : ∃ r E' I' J' S', Q r E' I' J' S' := by
  obtain ⟨n, r, σ, e1, E1, I1, J1, S1, eσ, q1⟩ := h
  exact ⟨r, E1, I1, J1, S1, q1⟩
def nmn (c : Nat → Nat) (b : Nat) : Nat → Nat
  | 0 => 0
  | k + 1 => 32 * nmn c b k + (c (b + k) - 96)
theorem lN_bl (z i : Nat) (hi : i < 64) : bl (lN z) i = z.testBit i := by
  show (BitVec.ofNat 64 z).getLsbD i = z.testBit i
  rw [BitVec.getLsbD_ofNat]
  simp [hi]
theorem lN_sh (x y : Nat) (hy : y < 32) : (lN x <<< ((nI 5).toInt64 &&& 63)) ||| lN y = lN (32 * x + y) := by
  apply bl_ext
  intro i hi
  rw [bl_or, bl_shl 5 (by decide) _ hi, lN_bl _ i hi, lN_bl _ i hi, show 32 * x + y = 2 ^ 5 * x + y from rfl, Nat.testBit_two_pow_mul_add x hy]
  by_cases c : i < 5
  · rw [if_pos c, decide_eq_false (by omega)]
    rfl
  · rw [if_neg c, decide_eq_true (by omega), lN_bl _ _ (by omega), Nat.testBit_lt_two_pow (Nat.lt_of_lt_of_le hy (Nat.pow_le_pow_right (n := 2) (by omega) (show 5 ≤ i by omega))), Bool.or_false, Bool.true_and]
theorem lN_32 : ∀ x, x < 32 → (nI x).toInt64 = lN x := by decide +kernel
theorem nmv_n {c : Nat → Nat} {b : Nat} : ∀ k, (∀ i, i < k → isL c (b + i) = true) → nmv c b k = lN (nmn c b k) := by
  intro k
  induction k with
  | zero => intro _; rfl
  | succ k ih =>
    intro h
    have h2 := of_decide_eq_true (h k (by omega))
    show (nmv c b k <<< ((nI 5).toInt64 &&& 63)) ||| (((nI (c (b + k)) - nI 97) + nI 1).toInt64) = lN (32 * nmn c b k + (c (b + k) - 96))
    rw [ih (fun i hi => h i (by omega)), nI_subI (by omega), nI_add, show c (b + k) - 97 + 1 = c (b + k) - 96 by omega, lN_32 (c (b + k) - 96) (by omega), lN_sh _ _ (by omega)]
theorem nmn_lt {c : Nat → Nat} {b : Nat} : ∀ k, (∀ i, i < k → isL c (b + i) = true) → nmn c b k + 1 ≤ 32 ^ k := by
  intro k
  induction k with
  | zero => intro _; exact Nat.le_refl _
  | succ k ih =>
    intro h
    have h1 := ih (fun i hi => h i (by omega))
    have h2 := of_decide_eq_true (h k (by omega))
    show 32 * nmn c b k + (c (b + k) - 96) + 1 ≤ 32 ^ k * 32
    omega
theorem nmn_inj {c : Nat → Nat} {b b' : Nat} : ∀ k k', (∀ i, i < k → isL c (b + i) = true) → (∀ i, i < k' → isL c (b' + i) = true) → nmn c b k = nmn c b' k' → k = k' ∧ ∀ i, i < k → c (b + i) = c (b' + i) := by
  intro k
  induction k with
  | zero =>
    intro k' _ h' e
    cases k' with
    | zero => exact ⟨rfl, fun i hi => by omega⟩
    | succ k' =>
      have h2 := of_decide_eq_true (h' k' (by omega))
      have e' : 0 = 32 * nmn c b' k' + (c (b' + k') - 96) := e
      omega
  | succ k ih =>
    intro k' h h' e
    have h2 := of_decide_eq_true (h k (by omega))
    cases k' with
    | zero =>
      have e' : 32 * nmn c b k + (c (b + k) - 96) = 0 := e
      omega
    | succ k' =>
      have h3 := of_decide_eq_true (h' k' (by omega))
      have e' : 32 * nmn c b k + (c (b + k) - 96) = 32 * nmn c b' k' + (c (b' + k') - 96) := e
      obtain ⟨r1, r2⟩ := ih k' (fun i hi => h i (by omega)) (fun i hi => h' i (by omega)) (by omega)
      subst r1
      refine ⟨rfl, fun i hi => ?_⟩
      by_cases ci : i = k
      · subst ci; omega
      · exact r2 i (by omega)
theorem lN_inj {x y : Nat} (hx : x < 2 ^ 64) (hy : y < 2 ^ 64) (h : lN x = lN y) : x = y := by
  have e := congrArg (fun z : Int64 => z.toBitVec.toNat) h
  have e2 : x % 2 ^ 64 = y % 2 ^ 64 := e
  rwa [Nat.mod_eq_of_lt hx, Nat.mod_eq_of_lt hy] at e2
/-- two names are the same for the class as for the reference -/
theorem nmv_eq {c : Nat → Nat} {b b' k k' : Nat} (hk : k ≤ 8) (hk' : k' ≤ 8) (h : ∀ i, i < k → isL c (b + i) = true) (h' : ∀ i, i < k' → isL c (b' + i) = true) : nmv c b k = nmv c b' k' ↔ (k = k' ∧ ∀ i, i < k → c (b + i) = c (b' + i)) := by
  rw [nmv_n k h, nmv_n k' h']
  have l1 := nmn_lt k h
  have l2 := nmn_lt k' h'
  have p1 : 32 ^ k ≤ 32 ^ 8 := Nat.pow_le_pow_right (by omega) hk
  have p2 : 32 ^ k' ≤ 32 ^ 8 := Nat.pow_le_pow_right (by omega) hk'
  have p3 : (32 : Nat) ^ 8 < 2 ^ 64 := by decide
  constructor
  · intro e
    exact nmn_inj k k' h h' (lN_inj (by omega) (by omega) e)
  · rintro ⟨e, he⟩
    subst e
    have : ∀ j, j ≤ k → nmn c b j = nmn c b' j := by
      intro j
      induction j with
      | zero => intro _; rfl
      | succ j ih =>
        intro hj
        show 32 * nmn c b j + (c (b + j) - 96) = 32 * nmn c b' j + (c (b' + j) - 96)
        rw [ih (by omega), he j (by omega)]
    rw [this k (Nat.le_refl _)]
theorem nmv_0 {c : Nat → Nat} {b k : Nat} (hk : k ≤ 8) (h : ∀ i, i < k → isL c (b + i) = true) : nmv c b k = lN 0 ↔ k = 0 := by
  rw [show lN 0 = nmv c b 0 from rfl, nmv_eq hk (by omega) h (fun i hi => by omega)]
  exact ⟨fun q => q.1, fun q => ⟨q, fun i hi => by omega⟩⟩
