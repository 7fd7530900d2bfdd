/-! digests -/
def d_r (r : Nat → Int32) : Nat → Nat → Int32 → Int32
  | 0, _, d => d
  | n + 1, k, d => d_r r n (k + 1) (nI 31 * d + r k)
theorem d_r_s (r : Nat → Int32) : ∀ n k d, d_r r (n + 1) k d = nI 31 * d_r r n k d + r (k + n) := by
  intro n
  induction n with
  | zero => intro k d; rfl
  | succ n ih =>
    intro k d
    show d_r r (n + 1) (k + 1) (nI 31 * d + r k) = _
    rw [ih, show k + 1 + n = k + (n + 1) by omega]
    rfl
theorem d_r_c {r s : Nat → Int32} : ∀ n k d, (∀ j, k ≤ j → j < k + n → r j = s j) → d_r r n k d = d_r s n k d := by
  intro n
  induction n with
  | zero => intro k d h; rfl
  | succ n ih =>
    intro k d h
    unfold d_r
    rw [h k (by omega) (by omega), ih (k + 1) _ (fun j h1 h2 => h j (by omega) (by omega))]
def dg (many : Nat) (r : Nat → Int32) : Int32 := d_r r 5 40 (d_r r (16 + 6 * many) 0 (nI 7))
theorem dg_c {many : Nat} {r s : Nat → Int32} (hm : many ≤ 4) (h : c_eq r s) : dg many r = dg many s := by
  unfold dg
  rw [d_r_c (16 + 6 * many) 0 _ (fun j h1 h2 => h j (by omega)), d_r_c 5 40 _ (fun j h1 h2 => h j (by omega))]
theorem m248 {E : am_Ev} {I : Nat → Nat → Int32} {J : Nat → Nat → Int64} {S : Nat → Nat → Option Nat} {Q : am_Qt} {t : Nat} (hp : p_in I) (ht : t ≤ 400) (h : Q (.inl (some (.int (dg (I 103 4).toNatClampNeg (rt I t))))) E I J S) : am_cl 248 [.ref 99, .int (nI t)] E I J S Q := by
  show am_ww 248 0 [.ref 99, .int (nI t), am_U, am_U, am_U, am_U] [] E I J S Q
  have hm := vb hp.1
  have e4 := vc hp.1
  generalize hM : (I 103 4).toNatClampNeg = M at *
  have ls : ∀ m k (d5 : Value), am_isL d5 = false → k + m = 4 → am_ww 248 56 [.ref 99, .int (nI t), .int (d_r (rt I t) k 40 (d_r (rt I t) (16 + 6 * M) 0 (nI 7))), .int (nI (51 * t)), .int (nI k), d5] [] E I J S Q := by
    intro m
    induction m with
    | zero =>
      intro k d5 hd5 e
      have : k = 4 := by omega
      subst this
      apply g248_56 rfl hd5
      simp (disch := omega) only [Nat.reduceEqDiff, reduceIte, nI_mulI, nI_add, nI_clamp, nI_ltI, nI_leI, nI_eq, nI_e0, nI_n0, vt, forall_eq, true_and, and_true, true_implies, forall_const, not_true_eq_false, not_false_eq_true, false_implies, implies_true]
      rw [← rt_k (I := I) (t := t) (show 44 < 51 by omega)]
      refine ⟨fun _ => ?_, fun q => absurd (Nat.le_refl _) q⟩
      unfold dg at h
      rw [d_r_s] at h
      exact h
    | succ m ih =>
      intro k d5 hd5 e
      apply g248_56 rfl hd5
      simp (disch := omega) only [Nat.reduceEqDiff, reduceIte, nI_mulI, nI_add, nI_clamp, nI_ltI, nI_leI, nI_eq, nI_e0, nI_n0, vt, forall_eq, true_and, and_true, true_implies, forall_const, not_true_eq_false, not_false_eq_true, false_implies, implies_true]
      refine ⟨fun q => absurd q (by omega), fun _ => ?_⟩
      rw [show 51 * t + 40 + k = 51 * t + (40 + k) by omega, ← rt_k (I := I) (t := t) (show 40 + k < 51 by omega), ← d_r_s]
      exact ih (k + 1) d5 hd5 (by omega)
  have th : ∀ m u (d5 : Value), am_isL d5 = false → u + m = M → am_ww 248 26 [.ref 99, .int (nI t), .int (d_r (rt I t) (16 + 6 * u) 0 (nI 7)), .int (nI (51 * t)), .int (nI u), d5] [] E I J S Q := by
    intro m
    induction m with
    | zero =>
      intro u d5 hd5 e
      have : u = M := by omega
      subst this
      apply g248_26 rfl hd5
      rw [e4]
      exact ⟨fun _ => ls 4 0 d5 hd5 (by omega), fun q => absurd (Int32.le_refl _) q⟩
    | succ m ih =>
      intro u d5 hd5 e
      apply g248_26 rfl hd5
      rw [e4]
      simp (disch := omega) only [Nat.reduceEqDiff, reduceIte, nI_mulI, nI_add, nI_clamp, nI_ltI, nI_leI, nI_eq, nI_e0, nI_n0, vt, forall_eq, true_and, and_true, true_implies, forall_const, not_true_eq_false, not_false_eq_true, false_implies, implies_true]
      refine ⟨fun q => absurd q (by omega), fun _ => ?_⟩
      have inn : ∀ m' k, k + m' = 6 → am_ww 248 34 [.ref 99, .int (nI t), .int (d_r (rt I t) (16 + 6 * u + k) 0 (nI 7)), .int (nI (51 * t)), .int (nI u), .int (nI k)] [] E I J S Q := by
        intro m'
        induction m' with
        | zero =>
          intro k e'
          have : k = 6 := by omega
          subst this
          apply g248_34 rfl
          simp (disch := omega) only [Nat.reduceEqDiff, reduceIte, nI_mulI, nI_add, nI_clamp, nI_ltI, nI_leI, nI_eq, nI_e0, nI_n0, vt, forall_eq, true_and, and_true, true_implies, forall_const, not_true_eq_false, not_false_eq_true, false_implies, implies_true]
          exact ⟨fun _ => ih (u + 1) _ rfl (by omega), fun q => absurd (Nat.le_refl _) q⟩
        | succ m' ih' =>
          intro k e'
          apply g248_34 rfl
          simp (disch := omega) only [Nat.reduceEqDiff, reduceIte, nI_mulI, nI_add, nI_clamp, nI_ltI, nI_leI, nI_eq, nI_e0, nI_n0, vt, forall_eq, true_and, and_true, true_implies, forall_const, not_true_eq_false, not_false_eq_true, false_implies, implies_true]
          refine ⟨fun q => absurd q (by omega), fun _ => ?_⟩
          rw [← rt_k (I := I) (t := t) (show 16 + 6 * u + k < 51 by omega)]
          have es := d_r_s (rt I t) (16 + 6 * u + k) 0 (nI 7)
          rw [Nat.zero_add] at es
          rw [← es]
          exact ih' (k + 1) (by omega)
      exact inn 6 0 (by omega)
  have cl : ∀ m k (d5 : Value), am_isL d5 = false → k + m = 16 → am_ww 248 8 [.ref 99, .int (nI t), .int (d_r (rt I t) k 0 (nI 7)), .int (nI (51 * t)), .int (nI k), d5] [] E I J S Q := by
    intro m
    induction m with
    | zero =>
      intro k d5 hd5 e
      have : k = 16 := by omega
      subst this
      apply g248_8 rfl hd5
      exact ⟨fun _ => th M 0 d5 hd5 (by omega), fun q => absurd (Int32.le_refl _) q⟩
    | succ m ih =>
      intro k d5 hd5 e
      apply g248_8 rfl hd5
      simp (disch := omega) only [Nat.reduceEqDiff, reduceIte, nI_mulI, nI_add, nI_clamp, nI_ltI, nI_leI, nI_eq, nI_e0, nI_n0, vt, forall_eq, true_and, and_true, true_implies, forall_const, not_true_eq_false, not_false_eq_true, false_implies, implies_true]
      refine ⟨fun q => absurd q (by omega), fun _ => ?_⟩
      rw [← rt_k (I := I) (t := t) (show k < 51 by omega)]
      have es := d_r_s (rt I t) k 0 (nI 7)
      rw [Nat.zero_add] at es
      rw [← es]
      exact ih (k + 1) d5 hd5 (by omega)
  apply g248_0
  rw [nI_mulI]
  exact cl 16 0 _ rfl (by omega)
theorem m281 {E : am_Ev} {I : Nat → Nat → Int32} {J : Nat → Nat → Int64} {S : Nat → Nat → Option Nat} {Q : am_Qt} (hp : p_in I) (h : Q (.inl (some (.int (dg (I 103 4).toNatClampNeg (I 116))))) E I J S) : am_cl 281 [.ref 99] E I J S Q := by
  show am_ww 281 0 [.ref 99, am_U, am_U] [] E I J S Q
  have hm := vb hp.1
  have e4 := vc hp.1
  generalize hM : (I 103 4).toNatClampNeg = M at *
  have l3 : ∀ m k, k + m = 5 → am_ww 281 4 [.ref 99, .int (d_r (I 116) k 40 (d_r (I 116) (16 + 6 * M) 0 (nI 7))), .int (nI (40 + k))] [] E I J S Q := by
    intro m
    induction m with
    | zero =>
      intro k e
      have : k = 5 := by omega
      subst this
      apply g281_4
      refine ⟨fun _ => h, fun q => absurd ?_ q⟩
      rw [nI_ltI (by omega) (by omega)]
      omega
    | succ m ih =>
      intro k e
      apply g281_4
      rw [e4]
      simp (disch := omega) only [Nat.reduceEqDiff, reduceIte, nI_mulI, nI_add, nI_clamp, nI_ltI, nI_leI, nI_eq, nI_e0, nI_n0, vt, forall_eq, true_and, and_true, true_implies, forall_const, not_true_eq_false, not_false_eq_true, false_implies, implies_true]
      refine ⟨fun q => absurd q (by omega), fun _ => ?_⟩
      rw [if_neg (by omega), if_neg (by omega), ← d_r_s]
      exact ih (k + 1) (by omega)
  have l2 : ∀ m k, k + m = 40 → 16 + 6 * M ≤ k → am_ww 281 4 [.ref 99, .int (d_r (I 116) (16 + 6 * M) 0 (nI 7)), .int (nI k)] [] E I J S Q := by
    intro m
    induction m with
    | zero =>
      intro k e hk
      have : k = 40 := by omega
      subst this
      exact l3 5 0 (by omega)
    | succ m ih =>
      intro k e hk
      apply g281_4
      rw [e4]
      simp (disch := omega) only [Nat.reduceEqDiff, reduceIte, nI_mulI, nI_add, nI_clamp, nI_ltI, nI_leI, nI_eq, nI_e0, nI_n0, vt, forall_eq, true_and, and_true, true_implies, forall_const, not_true_eq_false, not_false_eq_true, false_implies, implies_true]
      refine ⟨fun q => absurd q (by omega), fun _ => ?_⟩
      rw [if_neg (by omega), if_pos (by omega)]
      exact ih (k + 1) (by omega) (by omega)
  have l1 : ∀ m k, k + m = 16 + 6 * M → am_ww 281 4 [.ref 99, .int (d_r (I 116) k 0 (nI 7)), .int (nI k)] [] E I J S Q := by
    intro m
    induction m with
    | zero =>
      intro k e
      have : k = 16 + 6 * M := by omega
      subst this
      exact l2 (40 - (16 + 6 * M)) _ (by omega) (Nat.le_refl _)
    | succ m ih =>
      intro k e
      apply g281_4
      rw [e4]
      simp (disch := omega) only [Nat.reduceEqDiff, reduceIte, nI_mulI, nI_add, nI_clamp, nI_ltI, nI_leI, nI_eq, nI_e0, nI_n0, vt, forall_eq, true_and, and_true, true_implies, forall_const, not_true_eq_false, not_false_eq_true, false_implies, implies_true]
      refine ⟨fun q => absurd q (by omega), fun _ => ?_⟩
      have es := d_r_s (I 116) k 0 (nI 7)
      rw [Nat.zero_add] at es
      rw [if_pos (by omega), ← es]
      exact ih (k + 1) (by omega)
  apply g281_0
  exact l1 (16 + 6 * M) 0 (by omega)
theorem i32_mc (x : Int32) : x * nI 31 = nI 31 * x := Int32.mul_comm _ _
theorem c40_20 {E : am_Ev} {I : Nat → Nat → Int32} {J : Nat → Nat → Int64} {S : Nat → Nat → Option Nat} {Q : am_Qt} {r : Nat → Int32} (hp : p_in I) (hc : p_cl I) (hr : rm I 20 r) (h : Q (.inl (some (.int (dg (I 103 4).toNatClampNeg r)))) E I J S) : am_cl 40 [.ref 20, .ref 12] E I J S Q := by
  show am_ww 40 0 [.ref 20, .ref 12, am_U, am_U, am_U, am_U, am_U] [] E I J S Q
  have hm := vb hp.1
  have e4 : I 12 5 = nI (I 103 4).toNatClampNeg := hc.1.trans (vc hp.1)
  obtain ⟨r1, r2, r3, r4, r5, r6, r7⟩ := hr
  generalize hM : (I 103 4).toNatClampNeg = M at *
  have ls : ∀ m k (d6 : Value), am_isL d6 = false → k + m = 4 → am_ww 40 79 [.ref 20, .ref 12, .int (d_r r k 40 (d_r r (16 + 6 * M) 0 (nI 7))), .ref 25, .int (nI 4), .int (nI k), d6] [] E I J S Q := by
    intro m
    induction m with
    | zero =>
      intro k d6 hd6 e
      have : k = 4 := by omega
      subst this
      apply g40_79_20 rfl hd6
      refine ⟨fun _ => ?_, fun q => absurd (Int32.le_refl _) q⟩
      unfold dg at h
      rw [d_r_s] at h
      rw [i32_mc, r6]
      exact h
    | succ m ih =>
      intro k d6 hd6 e
      apply g40_79_20 rfl hd6
      have e5 := r5 k (by omega)
      simp (disch := omega) only [Nat.reduceEqDiff, reduceIte, nI_mulI, nI_add, nI_clamp, nI_ltI, nI_leI, nI_eq, nI_e0, nI_n0, vt, forall_eq, true_and, and_true, true_implies, forall_const, not_true_eq_false, not_false_eq_true, false_implies, implies_true, i32_mc]
      refine ⟨fun q => absurd q (by omega), fun _ => ?_⟩
      rw [e5, ← d_r_s]
      exact ih (k + 1) _ rfl (by omega)
  have th : ∀ m u (d4 d5 d6 : Value), am_isL d4 = false → am_isL d5 = false → am_isL d6 = false → u + m = M → am_ww 40 27 [.ref 20, .ref 12, .int (d_r r (16 + 6 * u) 0 (nI 7)), .int (nI u), d4, d5, d6] [] E I J S Q := by
    intro m
    induction m with
    | zero =>
      intro u d4 d5 d6 h4 h5 h6 e
      have : u = M := by omega
      subst this
      apply g40_27_20 h4 h5 h6
      rw [e4]
      exact ⟨fun _ => ls 4 0 d6 h6 (by omega), fun q => absurd (Int32.le_refl _) q⟩
    | succ m ih =>
      intro u d4 d5 d6 h4 h5 h6 e
      apply g40_27_20 h4 h5 h6
      rw [e4]
      simp (disch := omega) only [Nat.reduceEqDiff, reduceIte, nI_mulI, nI_add, nI_clamp, nI_ltI, nI_leI, nI_eq, nI_e0, nI_n0, vt, forall_eq, true_and, and_true, true_implies, forall_const, not_true_eq_false, not_false_eq_true, false_implies, implies_true]
      refine ⟨fun q => absurd q (by omega), fun _ => ?_⟩
      have inn : ∀ m' k, k + m' = 4 → am_ww 40 33 [.ref 20, .ref 12, .int (d_r r (16 + 6 * u + k) 0 (nI 7)), .int (nI u), .int (nI k), d5, d6] [] E I J S Q := by
        intro m'
        induction m' with
        | zero =>
          intro k e'
          have : k = 4 := by omega
          subst this
          apply g40_33_20 h5 h6
          have e3 := r3 u (by omega)
          have e4' := r4 u (by omega)
          simp (disch := omega) only [Nat.reduceEqDiff, reduceIte, nI_mulI, nI_add, nI_clamp, nI_ltI, nI_leI, nI_eq, nI_e0, nI_n0, vt, forall_eq, true_and, and_true, true_implies, forall_const, not_true_eq_false, not_false_eq_true, false_implies, implies_true, i32_mc]
          refine ⟨fun _ => ?_, fun q => absurd (Nat.le_refl _) q⟩
          have es := d_r_s r (16 + 6 * u + 4) 0 (nI 7)
          have es' := d_r_s r (16 + 6 * u + 5) 0 (nI 7)
          rw [Nat.zero_add] at es es'
          rw [e3, e4', ← es, ← es']
          exact ih (u + 1) _ _ _ rfl h5 h6 (by omega)
        | succ m' ih' =>
          intro k e'
          apply g40_33_20 h5 h6
          have e2 := r2 u k (by omega) (by omega)
          simp (disch := omega) only [Nat.reduceEqDiff, reduceIte, nI_mulI, nI_add, nI_clamp, nI_ltI, nI_leI, nI_eq, nI_e0, nI_n0, vt, forall_eq, true_and, and_true, true_implies, forall_const, not_true_eq_false, not_false_eq_true, false_implies, implies_true, i32_mc]
          refine ⟨fun q => absurd q (by omega), fun _ => ?_⟩
          have es := d_r_s r (16 + 6 * u + k) 0 (nI 7)
          rw [Nat.zero_add] at es
          rw [e2, ← es]
          exact ih' (k + 1) (by omega)
      exact inn 4 0 (by omega)
  have cl : ∀ m k (d6 : Value), am_isL d6 = false → k + m = 16 → am_ww 40 10 [.ref 20, .ref 12, .int (d_r r k 0 (nI 7)), .ref 21, .int (nI 16), .int (nI k), d6] [] E I J S Q := by
    intro m
    induction m with
    | zero =>
      intro k d6 hd6 e
      have : k = 16 := by omega
      subst this
      apply g40_10_20 hd6
      exact ⟨fun _ => th M 0 _ _ d6 rfl rfl hd6 (by omega), fun q => absurd (Int32.le_refl _) q⟩
    | succ m ih =>
      intro k d6 hd6 e
      apply g40_10_20 hd6
      have e1 := r1 k (by omega)
      simp (disch := omega) only [Nat.reduceEqDiff, reduceIte, nI_mulI, nI_add, nI_clamp, nI_ltI, nI_leI, nI_eq, nI_e0, nI_n0, vt, forall_eq, true_and, and_true, true_implies, forall_const, not_true_eq_false, not_false_eq_true, false_implies, implies_true, i32_mc]
      refine ⟨fun q => absurd q (by omega), fun _ => ?_⟩
      have es := d_r_s r k 0 (nI 7)
      rw [Nat.zero_add] at es
      rw [e1, ← es]
      exact ih (k + 1) _ rfl (by omega)
  apply g40_0_20
  exact cl 16 0 _ rfl (by omega)
theorem c40_61 {E : am_Ev} {I : Nat → Nat → Int32} {J : Nat → Nat → Int64} {S : Nat → Nat → Option Nat} {Q : am_Qt} {r : Nat → Int32} (hp : p_in I) (hc : p_cl I) (hr : rm I 61 r) (h : Q (.inl (some (.int (dg (I 103 4).toNatClampNeg r)))) E I J S) : am_cl 40 [.ref 61, .ref 12] E I J S Q := by
  show am_ww 40 0 [.ref 61, .ref 12, am_U, am_U, am_U, am_U, am_U] [] E I J S Q
  have hm := vb hp.1
  have e4 : I 12 5 = nI (I 103 4).toNatClampNeg := hc.1.trans (vc hp.1)
  obtain ⟨r1, r2, r3, r4, r5, r6, r7⟩ := hr
  generalize hM : (I 103 4).toNatClampNeg = M at *
  have ls : ∀ m k (d6 : Value), am_isL d6 = false → k + m = 4 → am_ww 40 79 [.ref 61, .ref 12, .int (d_r r k 40 (d_r r (16 + 6 * M) 0 (nI 7))), .ref 66, .int (nI 4), .int (nI k), d6] [] E I J S Q := by
    intro m
    induction m with
    | zero =>
      intro k d6 hd6 e
      have : k = 4 := by omega
      subst this
      apply g40_79_61 rfl hd6
      refine ⟨fun _ => ?_, fun q => absurd (Int32.le_refl _) q⟩
      unfold dg at h
      rw [d_r_s] at h
      rw [i32_mc, r6]
      exact h
    | succ m ih =>
      intro k d6 hd6 e
      apply g40_79_61 rfl hd6
      have e5 := r5 k (by omega)
      simp (disch := omega) only [Nat.reduceEqDiff, reduceIte, nI_mulI, nI_add, nI_clamp, nI_ltI, nI_leI, nI_eq, nI_e0, nI_n0, vt, forall_eq, true_and, and_true, true_implies, forall_const, not_true_eq_false, not_false_eq_true, false_implies, implies_true, i32_mc]
      refine ⟨fun q => absurd q (by omega), fun _ => ?_⟩
      rw [e5, ← d_r_s]
      exact ih (k + 1) _ rfl (by omega)
  have th : ∀ m u (d4 d5 d6 : Value), am_isL d4 = false → am_isL d5 = false → am_isL d6 = false → u + m = M → am_ww 40 27 [.ref 61, .ref 12, .int (d_r r (16 + 6 * u) 0 (nI 7)), .int (nI u), d4, d5, d6] [] E I J S Q := by
    intro m
    induction m with
    | zero =>
      intro u d4 d5 d6 h4 h5 h6 e
      have : u = M := by omega
      subst this
      apply g40_27_61 h4 h5 h6
      rw [e4]
      exact ⟨fun _ => ls 4 0 d6 h6 (by omega), fun q => absurd (Int32.le_refl _) q⟩
    | succ m ih =>
      intro u d4 d5 d6 h4 h5 h6 e
      apply g40_27_61 h4 h5 h6
      rw [e4]
      simp (disch := omega) only [Nat.reduceEqDiff, reduceIte, nI_mulI, nI_add, nI_clamp, nI_ltI, nI_leI, nI_eq, nI_e0, nI_n0, vt, forall_eq, true_and, and_true, true_implies, forall_const, not_true_eq_false, not_false_eq_true, false_implies, implies_true]
      refine ⟨fun q => absurd q (by omega), fun _ => ?_⟩
      have inn : ∀ m' k, k + m' = 4 → am_ww 40 33 [.ref 61, .ref 12, .int (d_r r (16 + 6 * u + k) 0 (nI 7)), .int (nI u), .int (nI k), d5, d6] [] E I J S Q := by
        intro m'
        induction m' with
        | zero =>
          intro k e'
          have : k = 4 := by omega
          subst this
          apply g40_33_61 h5 h6
          have e3 := r3 u (by omega)
          have e4' := r4 u (by omega)
          simp (disch := omega) only [Nat.reduceEqDiff, reduceIte, nI_mulI, nI_add, nI_clamp, nI_ltI, nI_leI, nI_eq, nI_e0, nI_n0, vt, forall_eq, true_and, and_true, true_implies, forall_const, not_true_eq_false, not_false_eq_true, false_implies, implies_true, i32_mc]
          refine ⟨fun _ => ?_, fun q => absurd (Nat.le_refl _) q⟩
          have es := d_r_s r (16 + 6 * u + 4) 0 (nI 7)
          have es' := d_r_s r (16 + 6 * u + 5) 0 (nI 7)
          rw [Nat.zero_add] at es es'
          rw [e3, e4', ← es, ← es']
          exact ih (u + 1) _ _ _ rfl h5 h6 (by omega)
        | succ m' ih' =>
          intro k e'
          apply g40_33_61 h5 h6
          have e2 := r2 u k (by omega) (by omega)
          simp (disch := omega) only [Nat.reduceEqDiff, reduceIte, nI_mulI, nI_add, nI_clamp, nI_ltI, nI_leI, nI_eq, nI_e0, nI_n0, vt, forall_eq, true_and, and_true, true_implies, forall_const, not_true_eq_false, not_false_eq_true, false_implies, implies_true, i32_mc]
          refine ⟨fun q => absurd q (by omega), fun _ => ?_⟩
          have es := d_r_s r (16 + 6 * u + k) 0 (nI 7)
          rw [Nat.zero_add] at es
          rw [e2, ← es]
          exact ih' (k + 1) (by omega)
      exact inn 4 0 (by omega)
  have cl : ∀ m k (d6 : Value), am_isL d6 = false → k + m = 16 → am_ww 40 10 [.ref 61, .ref 12, .int (d_r r k 0 (nI 7)), .ref 62, .int (nI 16), .int (nI k), d6] [] E I J S Q := by
    intro m
    induction m with
    | zero =>
      intro k d6 hd6 e
      have : k = 16 := by omega
      subst this
      apply g40_10_61 hd6
      exact ⟨fun _ => th M 0 _ _ d6 rfl rfl hd6 (by omega), fun q => absurd (Int32.le_refl _) q⟩
    | succ m ih =>
      intro k d6 hd6 e
      apply g40_10_61 hd6
      have e1 := r1 k (by omega)
      simp (disch := omega) only [Nat.reduceEqDiff, reduceIte, nI_mulI, nI_add, nI_clamp, nI_ltI, nI_leI, nI_eq, nI_e0, nI_n0, vt, forall_eq, true_and, and_true, true_implies, forall_const, not_true_eq_false, not_false_eq_true, false_implies, implies_true, i32_mc]
      refine ⟨fun q => absurd q (by omega), fun _ => ?_⟩
      have es := d_r_s r k 0 (nI 7)
      rw [Nat.zero_add] at es
      rw [e1, ← es]
      exact ih (k + 1) _ rfl (by omega)
  apply g40_0_61
  exact cl 16 0 _ rfl (by omega)
theorem c40_69 {E : am_Ev} {I : Nat → Nat → Int32} {J : Nat → Nat → Int64} {S : Nat → Nat → Option Nat} {Q : am_Qt} {r : Nat → Int32} (hp : p_in I) (hc : p_cl I) (hr : rm I 69 r) (h : Q (.inl (some (.int (dg (I 103 4).toNatClampNeg r)))) E I J S) : am_cl 40 [.ref 69, .ref 12] E I J S Q := by
  show am_ww 40 0 [.ref 69, .ref 12, am_U, am_U, am_U, am_U, am_U] [] E I J S Q
  have hm := vb hp.1
  have e4 : I 12 5 = nI (I 103 4).toNatClampNeg := hc.1.trans (vc hp.1)
  obtain ⟨r1, r2, r3, r4, r5, r6, r7⟩ := hr
  generalize hM : (I 103 4).toNatClampNeg = M at *
  have ls : ∀ m k (d6 : Value), am_isL d6 = false → k + m = 4 → am_ww 40 79 [.ref 69, .ref 12, .int (d_r r k 40 (d_r r (16 + 6 * M) 0 (nI 7))), .ref 74, .int (nI 4), .int (nI k), d6] [] E I J S Q := by
    intro m
    induction m with
    | zero =>
      intro k d6 hd6 e
      have : k = 4 := by omega
      subst this
      apply g40_79_69 rfl hd6
      refine ⟨fun _ => ?_, fun q => absurd (Int32.le_refl _) q⟩
      unfold dg at h
      rw [d_r_s] at h
      rw [i32_mc, r6]
      exact h
    | succ m ih =>
      intro k d6 hd6 e
      apply g40_79_69 rfl hd6
      have e5 := r5 k (by omega)
      simp (disch := omega) only [Nat.reduceEqDiff, reduceIte, nI_mulI, nI_add, nI_clamp, nI_ltI, nI_leI, nI_eq, nI_e0, nI_n0, vt, forall_eq, true_and, and_true, true_implies, forall_const, not_true_eq_false, not_false_eq_true, false_implies, implies_true, i32_mc]
      refine ⟨fun q => absurd q (by omega), fun _ => ?_⟩
      rw [e5, ← d_r_s]
      exact ih (k + 1) _ rfl (by omega)
  have th : ∀ m u (d4 d5 d6 : Value), am_isL d4 = false → am_isL d5 = false → am_isL d6 = false → u + m = M → am_ww 40 27 [.ref 69, .ref 12, .int (d_r r (16 + 6 * u) 0 (nI 7)), .int (nI u), d4, d5, d6] [] E I J S Q := by
    intro m
    induction m with
    | zero =>
      intro u d4 d5 d6 h4 h5 h6 e
      have : u = M := by omega
      subst this
      apply g40_27_69 h4 h5 h6
      rw [e4]
      exact ⟨fun _ => ls 4 0 d6 h6 (by omega), fun q => absurd (Int32.le_refl _) q⟩
    | succ m ih =>
      intro u d4 d5 d6 h4 h5 h6 e
      apply g40_27_69 h4 h5 h6
      rw [e4]
      simp (disch := omega) only [Nat.reduceEqDiff, reduceIte, nI_mulI, nI_add, nI_clamp, nI_ltI, nI_leI, nI_eq, nI_e0, nI_n0, vt, forall_eq, true_and, and_true, true_implies, forall_const, not_true_eq_false, not_false_eq_true, false_implies, implies_true]
      refine ⟨fun q => absurd q (by omega), fun _ => ?_⟩
      have inn : ∀ m' k, k + m' = 4 → am_ww 40 33 [.ref 69, .ref 12, .int (d_r r (16 + 6 * u + k) 0 (nI 7)), .int (nI u), .int (nI k), d5, d6] [] E I J S Q := by
        intro m'
        induction m' with
        | zero =>
          intro k e'
          have : k = 4 := by omega
          subst this
          apply g40_33_69 h5 h6
          have e3 := r3 u (by omega)
          have e4' := r4 u (by omega)
          simp (disch := omega) only [Nat.reduceEqDiff, reduceIte, nI_mulI, nI_add, nI_clamp, nI_ltI, nI_leI, nI_eq, nI_e0, nI_n0, vt, forall_eq, true_and, and_true, true_implies, forall_const, not_true_eq_false, not_false_eq_true, false_implies, implies_true, i32_mc]
          refine ⟨fun _ => ?_, fun q => absurd (Nat.le_refl _) q⟩
          have es := d_r_s r (16 + 6 * u + 4) 0 (nI 7)
          have es' := d_r_s r (16 + 6 * u + 5) 0 (nI 7)
          rw [Nat.zero_add] at es es'
          rw [e3, e4', ← es, ← es']
          exact ih (u + 1) _ _ _ rfl h5 h6 (by omega)
        | succ m' ih' =>
          intro k e'
          apply g40_33_69 h5 h6
          have e2 := r2 u k (by omega) (by omega)
          simp (disch := omega) only [Nat.reduceEqDiff, reduceIte, nI_mulI, nI_add, nI_clamp, nI_ltI, nI_leI, nI_eq, nI_e0, nI_n0, vt, forall_eq, true_and, and_true, true_implies, forall_const, not_true_eq_false, not_false_eq_true, false_implies, implies_true, i32_mc]
          refine ⟨fun q => absurd q (by omega), fun _ => ?_⟩
          have es := d_r_s r (16 + 6 * u + k) 0 (nI 7)
          rw [Nat.zero_add] at es
          rw [e2, ← es]
          exact ih' (k + 1) (by omega)
      exact inn 4 0 (by omega)
  have cl : ∀ m k (d6 : Value), am_isL d6 = false → k + m = 16 → am_ww 40 10 [.ref 69, .ref 12, .int (d_r r k 0 (nI 7)), .ref 70, .int (nI 16), .int (nI k), d6] [] E I J S Q := by
    intro m
    induction m with
    | zero =>
      intro k d6 hd6 e
      have : k = 16 := by omega
      subst this
      apply g40_10_69 hd6
      exact ⟨fun _ => th M 0 _ _ d6 rfl rfl hd6 (by omega), fun q => absurd (Int32.le_refl _) q⟩
    | succ m ih =>
      intro k d6 hd6 e
      apply g40_10_69 hd6
      have e1 := r1 k (by omega)
      simp (disch := omega) only [Nat.reduceEqDiff, reduceIte, nI_mulI, nI_add, nI_clamp, nI_ltI, nI_leI, nI_eq, nI_e0, nI_n0, vt, forall_eq, true_and, and_true, true_implies, forall_const, not_true_eq_false, not_false_eq_true, false_implies, implies_true, i32_mc]
      refine ⟨fun q => absurd q (by omega), fun _ => ?_⟩
      have es := d_r_s r k 0 (nI 7)
      rw [Nat.zero_add] at es
      rw [e1, ← es]
      exact ih (k + 1) _ rfl (by omega)
  apply g40_0_69
  exact cl 16 0 _ rfl (by omega)
