/-! the reference's token -/
def txr (I : Nat → Nat → Int32) (c : Nat → Nat) (n : Nat) : Prop := n ≤ 700 ∧ I 99 17 = nI n ∧ ∀ k, k < n → c k < 256 ∧ I 111 k = nI (c k)
/-- a number's worth with a cap -/
def rvn (c : Nat → Nat) (b : Nat) : Nat → Nat
  | 0 => 0
  | k + 1 => if 10 * rvn c b k + c (b + k) - 48 < 100000 then 10 * rvn c b k + c (b + k) - 48 else 100000
theorem rvn_s {c : Nat → Nat} {b k : Nat} : rvn c b (k + 1) = if 10 * rvn c b k + c (b + k) - 48 < 100000 then 10 * rvn c b k + c (b + k) - 48 else 100000 := rfl
theorem rvn_le {c : Nat → Nat} {b : Nat} : ∀ k, rvn c b k ≤ 100000
  | 0 => by show 0 ≤ 100000; omega
  | k + 1 => by unfold rvn; split <;> omega
theorem rvn_dgv {c : Nat → Nat} {b : Nat} : ∀ k, k ≤ 4 → (∀ i, i < k → isD c (b + i) = true) → rvn c b k = dgv c b k := by
  intro k
  induction k with
  | zero => intro _ _; rfl
  | succ k ih =>
    intro hk h
    have h1 := ih (by omega) (fun i hi => h i (by omega))
    have h2 := dgv_lt k (fun i hi => h i (by omega))
    have h3 := of_decide_eq_true (h k (by omega))
    have h4 : 10 ^ k ≤ 10 ^ 3 := Nat.pow_le_pow_right (by omega) (by omega)
    rw [rvn_s]
    show _ = dgv c b k * 10 + (c (b + k) - 48)
    rw [h1, if_pos (by omega)]
    omega
/-- the token that begins behind p, in the reference -/
def TR (c : Nat → Nat) (n p : Nat) (I I' : Nat → Nat → Int32) : Prop :=
  fr I I' [99] ∧ (∀ k, k ≠ 16 → k ≠ 18 → k ≠ 19 → k ≠ 20 → k ≠ 21 → I' 99 k = I 99 k) ∧ I' 99 20 = nI (scn (isB c) n p) ∧
  ((scn (isB c) n p = n ∧ I' 99 18 = nI 0 ∧ I' 99 21 = nI n ∧ I' 99 16 = nI n) ∨
   (scn (isB c) n p < n ∧ isL c (scn (isB c) n p) = true ∧ I' 99 18 = nI 1 ∧ I' 99 21 = nI (scn (isL c) n (scn (isB c) n p)) ∧ I' 99 16 = nI (scn (isL c) n (scn (isB c) n p))) ∨
   (scn (isB c) n p < n ∧ isD c (scn (isB c) n p) = true ∧ I' 99 18 = nI 2 ∧ I' 99 21 = nI (scn (isD c) n (scn (isB c) n p)) ∧ I' 99 16 = nI (scn (isD c) n (scn (isB c) n p)) ∧ I' 99 19 = nI (rvn c (scn (isB c) n p) (scn (isD c) n (scn (isB c) n p) - scn (isB c) n p))) ∨
   (scn (isB c) n p < n ∧ isL c (scn (isB c) n p) = false ∧ isD c (scn (isB c) n p) = false ∧ I' 99 18 = nI (if sg (c (scn (isB c) n p)) = 1 then 4 else 3) ∧ I' 99 21 = nI (scn (isB c) n p + 1) ∧ I' 99 16 = nI (scn (isB c) n p + 1)))
theorem sg_r {x : Nat} (h : x < 256) : (if nI x = nI 59 then nI 3 else (if nI x = nI 44 then nI 3 else (if nI x = nI 58 then nI 3 else (if nI x = nI 45 then nI 3 else nI 4)))) = nI (if sg x = 1 then 4 else 3) := by
  unfold sg
  simp only [nI_eq (show x < 2 ^ 31 by omega) (show 59 < 2 ^ 31 by decide), nI_eq (show x < 2 ^ 31 by omega) (show 44 < 2 ^ 31 by decide), nI_eq (show x < 2 ^ 31 by omega) (show 58 < 2 ^ 31 by decide), nI_eq (show x < 2 ^ 31 by omega) (show 45 < 2 ^ 31 by decide)]
  by_cases a : x = 59
  · subst a; rfl
  · by_cases b : x = 44
    · subst b; rfl
    · by_cases d : x = 58
      · subst d; rfl
      · by_cases e : x = 45
        · subst e; rfl
        · rw [if_neg a, if_neg b, if_neg d, if_neg e, if_neg (show ¬ (x = 59 ∨ x = 44 ∨ x = 58 ∨ x = 45) by omega)]; rfl
theorem nI_m1n {m : Nat} (h : m < 2 ^ 31) : ¬ nI m = -1 := nI_nm h
theorem m190_38 {E : am_Ev} {I : Nat → Nat → Int32} {J : Nat → Nat → Int64} {S : Nat → Nat → Option Nat} {Q : am_Qt} {c : Nat → Nat} {n : Nat} {d : Value} (hd : am_isL d = false) (ht : txr I c n) : ∀ m q, n - q = m → q ≤ n → Q (.inl none) E (u_I I 99 (upd (upd (upd (I 99) 16 (nI (scn (isL c) n q))) 18 (nI 1)) 21 (nI (scn (isL c) n q)))) J S → am_ww 190 38 [.ref 99, d] [] E (u_I I 99 (upd (I 99) 16 (nI q))) J S Q := by
  obtain ⟨hn, h17, ht⟩ := ht
  intro m
  induction m with
  | zero =>
    intro q e hq h
    rw [scn_e (by omega)] at h
    apply g190_38 hd
    rw [u_I_eq, upd_eq, upd_ne (show (17 : Nat) ≠ 16 by decide), h17]
    have hle : nI n ≤ nI q ↔ n ≤ q := nI_leI (by omega) (by omega)
    refine ⟨⟨fun _ => trivial, fun z => absurd (hle.mpr (by omega)) z⟩, ?_⟩
    intro w ew
    rw [if_pos (hle.mpr (by omega))] at ew
    subst ew
    rw [uI_0]
    exact ⟨fun _ => h, fun z => absurd (by decide) z⟩
  | succ m ih =>
    intro q e hq h
    obtain ⟨t1, t2⟩ := ht q (by omega)
    apply g190_38 hd
    rw [u_I_eq, upd_eq, upd_ne (show (17 : Nat) ≠ 16 by decide), h17]
    have hle : nI n ≤ nI q ↔ n ≤ q := nI_leI (by omega) (by omega)
    refine ⟨⟨fun _ => trivial, fun z => ⟨vp_in_nI (by omega) (by omega), trivial⟩⟩, ?_⟩
    intro w ew
    rw [if_neg (fun z => absurd (hle.mp z) (by omega)), nI_clamp (by omega), u_I_ne (by decide), t2] at ew
    subst ew
    rw [uI_0, uI_0, upd_upd, nI_ltI (by omega) (by omega), nI_ltI (by omega) (by omega), nI_add]
    refine ⟨fun z => ?_, fun z => ⟨fun z2 => ?_, fun z2 => ?_⟩⟩
    · rw [scn_n (decide_eq_false (by omega))] at h; exact h
    · rw [scn_n (decide_eq_false (by omega))] at h; exact h
    · rw [scn_y (by omega) (decide_eq_true (by omega))] at h
      exact ih (q + 1) (by omega) (by omega) h
theorem m190_61 {E : am_Ev} {I : Nat → Nat → Int32} {J : Nat → Nat → Int64} {S : Nat → Nat → Option Nat} {Q : am_Qt} {c : Nat → Nat} {n b : Nat} {d : Value} (hd : am_isL d = false) (ht : txr I c n) : ∀ m q, n - q = m → b ≤ q → q ≤ n → Q (.inl none) E (u_I I 99 (upd (upd (upd (upd (I 99) 19 (nI (rvn c b (scn (isD c) n q - b)))) 16 (nI (scn (isD c) n q))) 18 (nI 2)) 21 (nI (scn (isD c) n q)))) J S → am_ww 190 61 [.ref 99, d] [] E (u_I I 99 (upd (upd (I 99) 19 (nI (rvn c b (q - b)))) 16 (nI q))) J S Q := by
  obtain ⟨hn, h17, ht⟩ := ht
  intro m
  induction m with
  | zero =>
    intro q e hbq hq h
    rw [scn_e (by omega)] at h
    apply g190_61 hd
    rw [u_I_eq, upd_eq, upd_ne (show (17 : Nat) ≠ 16 by decide), upd_ne (show (17 : Nat) ≠ 19 by decide), h17]
    have hle : nI n ≤ nI q ↔ n ≤ q := nI_leI (by omega) (by omega)
    refine ⟨⟨fun _ => trivial, fun z => absurd (hle.mpr (by omega)) z⟩, ?_⟩
    intro w ew
    rw [if_pos (hle.mpr (by omega))] at ew
    subst ew
    rw [uI_0]
    exact ⟨fun _ => h, fun z => absurd (by decide) z⟩
  | succ m ih =>
    intro q e hbq hq h
    obtain ⟨t1, t2⟩ := ht q (by omega)
    apply g190_61 hd
    rw [u_I_eq, upd_eq, upd_ne (show (17 : Nat) ≠ 16 by decide), upd_ne (show (17 : Nat) ≠ 19 by decide), h17]
    have hle : nI n ≤ nI q ↔ n ≤ q := nI_leI (by omega) (by omega)
    refine ⟨⟨fun _ => trivial, fun z => ⟨vp_in_nI (by omega) (by omega), trivial⟩⟩, ?_⟩
    intro w ew
    rw [if_neg (fun z => absurd (hle.mp z) (by omega)), nI_clamp (by omega), u_I_ne (by decide), t2] at ew
    subst ew
    rw [uI_0, nI_ltI (by omega) (by omega), nI_ltI (by omega) (by omega)]
    refine ⟨fun z => ?_, fun z => ⟨fun z2 => ?_, fun z2 => ⟨⟨fun _ => trivial, fun z => ⟨vp_in_nI (by omega) (by omega), trivial⟩⟩, ?_⟩⟩⟩
    · rw [scn_n (decide_eq_false (by omega))] at h; exact h
    · rw [scn_n (decide_eq_false (by omega))] at h; exact h
    · intro w ew
      rw [if_neg (fun z => absurd (hle.mp z) (by omega)), nI_clamp (by omega), u_I_ne (by decide), t2] at ew
      subst ew
      have l := rvn_le (c := c) (b := b) (q - b)
      rw [scn_y (by omega) (decide_eq_true (by omega))] at h
      have r := ih (q + 1) (by omega) (by omega) (by omega) h
      have ev : (if nI 10 * nI (rvn c b (q - b)) + nI (c q) - nI 48 < nI 100000 then nI 10 * nI (rvn c b (q - b)) + nI (c q) - nI 48 else nI 100000) = nI (rvn c b (q + 1 - b)) := by
        rw [nI_mulI, nI_add, nI_subI (by omega), show q + 1 - b = (q - b) + 1 by omega]
        rw [rvn_s, show b + (q - b) = q by omega]
        by_cases cc : 10 * rvn c b (q - b) + c q - 48 < 100000
        · rw [if_pos ((nI_ltI (by omega) (by omega)).mpr cc), if_pos cc]
        · rw [if_neg (fun z => cc ((nI_ltI (by omega) (by omega)).mp z)), if_neg cc]
      rw [upd_ne (show (19 : Nat) ≠ 16 by decide), upd_eq, ev, uI_0, nI_add]
      have eh : upd (upd (upd (upd (I 99) 19 (nI (rvn c b (q - b)))) 16 (nI q)) 19 (nI (rvn c b (q + 1 - b)))) 16 (nI (q + 1)) = upd (upd (I 99) 19 (nI (rvn c b (q + 1 - b)))) 16 (nI (q + 1)) := by
        funext k
        unfold upd
        by_cases k5 : k = 16
        · simp only [k5, if_true]
        · by_cases k7 : k = 19
          · simp only [k7, if_true, if_neg (show ¬ (19 : Nat) = 16 by decide)]
          · simp only [if_neg k5, if_neg k7]
      rw [eh]
      exact r
theorem m190_0 {E : am_Ev} {I : Nat → Nat → Int32} {J : Nat → Nat → Int64} {S : Nat → Nat → Option Nat} {Q : am_Qt} {c : Nat → Nat} {n : Nat} (ht : txr I c n) : ∀ m q, n - q = m → q ≤ n → (∀ I', TR c n q I I' → Q (.inl none) E I' J S) → am_ww 190 0 [.ref 99, am_U] [] E (u_I I 99 (upd (I 99) 16 (nI q))) J S Q := by
  intro m
  induction m with
  | zero =>
    intro q e hq h
    obtain ⟨hn, h17, ht⟩ := ht
    unfold TR at h
    rw [scn_e (by omega)] at h
    apply g190_0
    rw [u_I_eq, upd_eq, upd_ne (show (17 : Nat) ≠ 16 by decide), h17]
    have hle : nI n ≤ nI q ↔ n ≤ q := nI_leI (by omega) (by omega)
    have en : n = q := by omega
    refine ⟨⟨fun _ => trivial, fun z => absurd (hle.mpr (by omega)) z⟩, fun w ew => ?_⟩
    rw [if_pos (hle.mpr (by omega))] at ew
    subst ew
    refine ⟨fun z => absurd z (by decide), fun _ => ⟨⟨fun _ => trivial, fun z => absurd (hle.mpr (by omega)) z⟩, fun w ew => ?_⟩⟩
    rw [if_pos (hle.mpr (by omega))] at ew
    subst ew
    refine ⟨fun z => absurd z (by decide), fun _ => ⟨⟨fun _ => trivial, fun z => absurd (hle.mpr (by omega)) z⟩, fun w ew => ?_⟩⟩
    rw [if_pos (hle.mpr (by omega))] at ew
    subst ew
    refine ⟨fun _ => ?_, fun z => absurd rfl z⟩
    rw [uI_0]
    refine h _ ⟨fr_u, fun k k1 k2 k3 k4 k5 => ?_, ?_, Or.inl ⟨en.symm, ?_, ?_, ?_⟩⟩
    · rw [u_I_eq, upd_ne k5, upd_ne k2, upd_ne k4, upd_ne k1]
    · rw [u_I_eq, upd_ne (by decide), upd_ne (by decide), upd_eq]
    · rw [u_I_eq, upd_ne (by decide), upd_eq]
    · rw [u_I_eq, upd_eq, en]
    · rw [u_I_eq, upd_ne (by decide), upd_ne (by decide), upd_ne (by decide), upd_eq, en]
  | succ m ih =>
    intro q e hq h
    have ht0 := ht
    obtain ⟨hn, h17, ht⟩ := ht
    obtain ⟨t1, t2⟩ := ht q (by omega)
    apply g190_0
    rw [u_I_eq, upd_eq, upd_ne (show (17 : Nat) ≠ 16 by decide), h17]
    have hle : nI n ≤ nI q ↔ n ≤ q := nI_leI (by omega) (by omega)
    have pre : (nI n ≤ nI q → True) ∧ (¬ nI n ≤ nI q → vp_in (nI q) 700 ∧ True) := ⟨fun _ => trivial, fun z => ⟨vp_in_nI (by omega) (by omega), trivial⟩⟩
    have ev : (if nI n ≤ nI q then (-1 : Int32) else u_I I 99 (upd (I 99) 16 (nI q)) 111 (nI q).toNatClampNeg) = nI (c q) := by
      rw [if_neg (fun z => absurd (hle.mp z) (by omega)), nI_clamp (by omega), u_I_ne (by decide), t2]
    have again : isB c q = true → am_ww 190 0 [.ref 99, am_U] [] E (u_I (u_I I 99 (upd (I 99) 16 (nI q))) 99 (upd (upd (I 99) 16 (nI q)) 16 (nI q + nI 1))) J S Q := by
      intro z
      rw [uI_0, upd_upd, nI_add]
      refine ih (q + 1) (by omega) (by omega) (fun I' hI => h I' ?_)
      unfold TR at hI ⊢
      rw [scn_y (by omega) z]
      exact hI
    refine ⟨pre, fun w ew => ?_⟩
    rw [ev] at ew
    subst ew
    refine ⟨fun z => again (decide_eq_true (Or.inl ((nI_eq (by omega) (by omega)).mp z))), fun z32 => ⟨pre, fun w ew => ?_⟩⟩
    rw [ev] at ew
    subst ew
    refine ⟨fun z => again (decide_eq_true (Or.inr ((nI_eq (by omega) (by omega)).mp z))), fun z10 => ⟨pre, fun w ew => ?_⟩⟩
    rw [ev] at ew
    subst ew
    rw [nI_eq (by omega) (by omega)] at z32 z10
    have nb : isB c q = false := decide_eq_false (by omega)
    unfold TR at h
    rw [scn_n nb] at h
    refine ⟨fun z => absurd z (nI_nm (by omega)), fun _ => ?_⟩
    have sgn : isL c q = false → isD c q = false → ∀ w, w = (if nI (c q) = nI 59 then nI 3 else (if nI (c q) = nI 44 then nI 3 else (if nI (c q) = nI 58 then nI 3 else (if nI (c q) = nI 45 then nI 3 else nI 4)))) → Q (.inl none) E (u_I (u_I I 99 (upd (I 99) 16 (nI q))) 99 (upd (upd (upd (upd (upd (I 99) 16 (nI q)) 20 (nI q)) 16 (nI q + nI 1)) 18 w) 21 (nI q + nI 1))) J S := by
      intro zl zd w ew
      rw [sg_r t1] at ew
      rw [uI_0, ew, nI_add]
      refine h _ ⟨fr_u, fun k k1 k2 k3 k4 k5 => ?_, ?_, Or.inr (Or.inr (Or.inr ⟨by omega, zl, zd, ?_, ?_, ?_⟩))⟩
      · rw [u_I_eq, upd_ne k5, upd_ne k2, upd_ne k1, upd_ne k4, upd_ne k1]
      · rw [u_I_eq, upd_ne (by decide), upd_ne (by decide), upd_ne (by decide), upd_eq]
      · rw [u_I_eq, upd_ne (by decide), upd_eq]
      · rw [u_I_eq, upd_eq]
      · rw [u_I_eq, upd_ne (by decide), upd_ne (by decide), upd_eq]
    have dig : isD c q = true → am_ww 190 61 [.ref 99, .int (nI (c q))] [] E (u_I (u_I I 99 (upd (I 99) 16 (nI q))) 99 (upd (upd (upd (I 99) 16 (nI q)) 20 (nI q)) 19 (nI 0))) J S Q := by
      intro zd
      rw [uI_0]
      have r := m190_61 (E := E) (J := J) (S := S) (Q := Q) (I := u_I I 99 (upd (I 99) 20 (nI q))) (c := c) (n := n) (b := q) (d := .int (nI (c q))) rfl ⟨hn, by rw [u_I_eq, upd_ne (by decide)]; exact h17, fun k hk => by rw [u_I_ne (by decide)]; exact ht k hk⟩ (n - q) q rfl (Nat.le_refl _) (by omega)
      rw [uI_0, u_I_eq, Nat.sub_self, uI_0] at r
      have eh : upd (upd (upd (I 99) 16 (nI q)) 20 (nI q)) 19 (nI 0) = upd (upd (upd (I 99) 20 (nI q)) 19 (nI (rvn c q 0))) 16 (nI q) := by
        funext k
        unfold upd
        by_cases k5 : k = 16
        · simp only [k5, if_true, if_neg (show ¬ (16 : Nat) = 19 by decide), if_neg (show ¬ (16 : Nat) = 20 by decide)]
        · simp only [if_neg k5]; rfl
      rw [eh]
      refine r (h _ ⟨fr_u, fun k k1 k2 k3 k4 k5 => ?_, ?_, Or.inr (Or.inr (Or.inl ⟨by omega, zd, ?_, ?_, ?_, ?_⟩))⟩)
      · rw [u_I_eq, upd_ne k5, upd_ne k2, upd_ne k1, upd_ne k3, upd_ne k4]
      · rw [u_I_eq, upd_ne (by decide), upd_ne (by decide), upd_ne (by decide), upd_ne (by decide), upd_eq]
      · rw [u_I_eq, upd_ne (by decide), upd_eq]
      · rw [u_I_eq, upd_eq]
      · rw [u_I_eq, upd_ne (by decide), upd_ne (by decide), upd_eq]
      · rw [u_I_eq, upd_ne (by decide), upd_ne (by decide), upd_ne (by decide), upd_eq]
    have wor : isL c q = true → am_ww 190 38 [.ref 99, .int (nI (c q))] [] E (u_I (u_I I 99 (upd (I 99) 16 (nI q))) 99 (upd (upd (I 99) 16 (nI q)) 20 (nI q))) J S Q := by
      intro zd
      rw [uI_0]
      have r := m190_38 (E := E) (J := J) (S := S) (Q := Q) (I := u_I I 99 (upd (I 99) 20 (nI q))) (c := c) (n := n) (d := .int (nI (c q))) rfl ⟨hn, by rw [u_I_eq, upd_ne (by decide)]; exact h17, fun k hk => by rw [u_I_ne (by decide)]; exact ht k hk⟩ (n - q) q rfl (by omega)
      rw [uI_0, u_I_eq, uI_0] at r
      have eh : upd (upd (I 99) 16 (nI q)) 20 (nI q) = upd (upd (I 99) 20 (nI q)) 16 (nI q) := by
        funext k
        unfold upd
        by_cases k5 : k = 16
        · simp only [k5, if_true, if_neg (show ¬ (16 : Nat) = 20 by decide)]
        · simp only [if_neg k5]
      rw [eh]
      refine r (h _ ⟨fr_u, fun k k1 k2 k3 k4 k5 => ?_, ?_, Or.inr (Or.inl ⟨by omega, zd, ?_, ?_, ?_⟩)⟩)
      · rw [u_I_eq, upd_ne k5, upd_ne k2, upd_ne k1, upd_ne k4]
      · rw [u_I_eq, upd_ne (by decide), upd_ne (by decide), upd_ne (by decide), upd_eq]
      · rw [u_I_eq, upd_ne (by decide), upd_eq]
      · rw [u_I_eq, upd_eq]
      · rw [u_I_eq, upd_ne (by decide), upd_ne (by decide), upd_eq]
    rw [nI_ltI (by omega) (by omega), nI_ltI (by omega) (by omega), nI_ltI (by omega) (by omega), nI_ltI (by omega) (by omega)]
    refine ⟨fun q1 => ⟨fun q2 => sgn (decide_eq_false (by omega)) (decide_eq_false (by omega)), fun q2 => ⟨fun q3 => sgn (decide_eq_false (by omega)) (decide_eq_false (by omega)), fun q3 => dig (decide_eq_true (by omega))⟩⟩, fun q1 => ⟨fun q2 => ⟨fun q3 => sgn (decide_eq_false (by omega)) (decide_eq_false (by omega)), fun q3 => ⟨fun q4 => sgn (decide_eq_false (by omega)) (decide_eq_false (by omega)), fun q4 => dig (decide_eq_true (by omega))⟩⟩, fun q2 => wor (decide_eq_true (by omega))⟩⟩
theorem m190 {E : am_Ev} {I : Nat → Nat → Int32} {J : Nat → Nat → Int64} {S : Nat → Nat → Option Nat} {Q : am_Qt} {c : Nat → Nat} {n p : Nat} (ht : txr I c n) (hp : I 99 16 = nI p) (hpn : p ≤ n) (h : ∀ I', TR c n p I I' → Q (.inl none) E I' J S) : am_cl 190 [.ref 99] E I J S Q := by
  show am_ww 190 0 [.ref 99, am_U] [] E I J S Q
  have r := m190_0 (E := E) (J := J) (S := S) (Q := Q) ht (n - p) p rfl hpn h
  rw [← hp, upd_id rfl, u_I_id] at r
  exact r
