/-! the reading of a text: bytes, scanning, the class's tokens -/
/-- a byte as the class holds it -/
def sb (x : Nat) : Int32 := (nI x).toInt8.toInt32
theorem sb_lo : ∀ x, x < 128 → sb x = nI x := by decide +kernel
theorem sb_hi0 : ∀ x, x < 128 → sb (128 + x) < 0 := by decide +kernel
theorem sb_hi {x : Nat} (h : 128 ≤ x) (h2 : x < 256) : sb x < 0 := by
  have := sb_hi0 (x - 128) (by omega)
  rwa [show 128 + (x - 128) = x by omega] at this
theorem nI_nneg {m : Nat} (hm : m < 2 ^ 31) : ¬ nI m < 0 := by
  rw [show (0 : Int32) = nI 0 from rfl, nI_ltI hm (by omega)]; omega
theorem sb_eq {x m : Nat} (hx : x < 256) (hm : m < 128) : sb x = nI m ↔ x = m := by
  by_cases c : x < 128
  · rw [sb_lo x c, nI_eq (by omega) (by omega)]
  · constructor
    · intro q
      have := sb_hi (by omega) hx
      rw [q] at this
      exact absurd this (nI_nneg (by omega))
    · intro q; omega
theorem sb_lt {x m : Nat} (hx : x < 256) (hm : m < 128) : sb x < nI m ↔ (x < m ∨ 128 ≤ x) := by
  by_cases c : x < 128
  · rw [sb_lo x c, nI_ltI (by omega) (by omega)]; omega
  · have h := sb_hi (by omega) hx
    constructor
    · intro _; omega
    · intro _
      rw [Int32.lt_iff_toInt_lt] at h ⊢
      have e0 : (0 : Int32).toInt = 0 := rfl
      rw [nI_toInt (by omega)]
      omega
theorem sb_gt {x m : Nat} (hx : x < 256) (hm : m < 128) : nI m < sb x ↔ (m < x ∧ x < 128) := by
  by_cases c : x < 128
  · rw [sb_lo x c, nI_ltI (by omega) (by omega)]; omega
  · have h := sb_hi (by omega) hx
    constructor
    · intro q
      rw [Int32.lt_iff_toInt_lt] at h q
      have e0 : (0 : Int32).toInt = 0 := rfl
      rw [nI_toInt (by omega)] at q
      omega
    · intro _; omega
/-- the first place from p on that is the end or does not hold -/
def sc (P : Nat → Bool) : Nat → Nat → Nat
  | 0, p => p
  | m + 1, p => if P p = true then sc P m (p + 1) else p
def scn (P : Nat → Bool) (n p : Nat) : Nat := sc P (n - p) p
theorem scn_e {P : Nat → Bool} {n p : Nat} (h : n ≤ p) : scn P n p = p := by
  unfold scn
  rw [show n - p = 0 by omega]
  rfl
theorem scn_y {P : Nat → Bool} {n p : Nat} (h : p < n) (hp : P p = true) : scn P n p = scn P n (p + 1) := by
  unfold scn
  rw [show n - p = (n - (p + 1)) + 1 by omega]
  show (if P p = true then sc P (n - (p + 1)) (p + 1) else p) = _
  rw [if_pos hp]
theorem scn_n {P : Nat → Bool} {n p : Nat} (hp : P p = false) : scn P n p = p := by
  unfold scn
  cases n - p with
  | zero => rfl
  | succ m =>
    show (if P p = true then sc P m (p + 1) else p) = p
    rw [hp]; rfl
theorem scn_ge {P : Nat → Bool} {n : Nat} : ∀ m p, n - p = m → p ≤ scn P n p ∧ (p ≤ n → scn P n p ≤ n) ∧ (∀ q, p ≤ q → q < scn P n p → P q = true) ∧ (scn P n p < n → P (scn P n p) = false) := by
  intro m
  induction m with
  | zero =>
    intro p e
    rw [scn_e (by omega)]
    exact ⟨Nat.le_refl _, fun h => h, fun q a b => by omega, fun h => by omega⟩
  | succ m ih =>
    intro p e
    cases hp : P p with
    | true =>
      rw [scn_y (by omega) hp]
      obtain ⟨h1, h2, h3, h4⟩ := ih (p + 1) (by omega)
      refine ⟨by omega, fun _ => h2 (by omega), fun q a b => ?_, h4⟩
      by_cases c : q = p
      · rw [c]; exact hp
      · exact h3 q (by omega) b
    | false =>
      rw [scn_n hp]
      exact ⟨Nat.le_refl _, fun h => h, fun q a b => by omega, fun _ => hp⟩
def isB (c : Nat → Nat) (k : Nat) : Bool := decide (c k = 32 ∨ c k = 10)
def isL (c : Nat → Nat) (k : Nat) : Bool := decide (97 ≤ c k ∧ c k ≤ 122)
def isD (c : Nat → Nat) (k : Nat) : Bool := decide (48 ≤ c k ∧ c k ≤ 57)
/-- the text, as the class holds it -/
def txc (I : Nat → Nat → Int32) (c : Nat → Nat) (n : Nat) : Prop := n ≤ 700 ∧ ∀ k, k < n → c k < 256 ∧ I 2 k = sb (c k)
theorem c63_4 {E : am_Ev} {I : Nat → Nat → Int32} {J : Nat → Nat → Int64} {S : Nat → Nat → Option Nat} {Q : am_Qt} {c : Nat → Nat} {n : Nat} {d : Value} (hd : am_isL d = false) (ht : txc I c n) : ∀ m q, n - q = m → q ≤ n → am_ww 63 29 [.ref 1, .int (nI n), d] [] E (u_I I 1 (upd (I 1) 4 (nI (scn (isB c) n q)))) J S Q → am_ww 63 4 [.ref 1, .int (nI n), d] [] E (u_I I 1 (upd (I 1) 4 (nI q))) J S Q := by
  obtain ⟨hn, ht⟩ := ht
  intro m
  induction m with
  | zero =>
    intro q e hq h
    rw [scn_e (by omega)] at h
    apply g63_4 hd
    rw [u_I_eq, upd_eq, nI_leI (by omega) (by omega)]
    exact ⟨fun _ => h, fun z => absurd (by omega) z⟩
  | succ m ih =>
    intro q e hq h
    apply g63_4 hd
    obtain ⟨t1, t2⟩ := ht q (by omega)
    rw [u_I_eq, upd_eq, nI_leI (by omega) (by omega), nI_clamp (by omega), u_I_ne (show 2 ≠ 1 by decide), t2, uI_0, upd_upd, nI_add]
    refine ⟨fun z => absurd z (by omega), fun _ => ⟨vp_in_nI (by omega) (by omega), ?_⟩⟩
    rw [sb_eq t1 (by omega), sb_eq t1 (by omega)]
    refine ⟨fun z => ?_, fun z => ⟨fun z2 => ?_, fun z2 => ?_⟩⟩
    · rw [scn_y (by omega) (decide_eq_true (Or.inl z))] at h
      exact ih (q + 1) (by omega) (by omega) h
    · rw [scn_y (by omega) (decide_eq_true (Or.inr z2))] at h
      exact ih (q + 1) (by omega) (by omega) h
    · rw [scn_n (decide_eq_false (by rintro (a | a) <;> contradiction))] at h
      exact h
/-- a number's worth: of its digits, from b up to e -/
def dgv (c : Nat → Nat) (b : Nat) : Nat → Nat
  | 0 => 0
  | k + 1 => dgv c b k * 10 + (c (b + k) - 48)
theorem dgv_lt {c : Nat → Nat} {b : Nat} : ∀ k, (∀ i, i < k → isD c (b + i) = true) → dgv c b k + 1 ≤ 10 ^ k := by
  intro k
  induction k with
  | zero => intro _; exact Nat.le_refl _
  | succ k ih =>
    intro h
    have h1 := ih (fun i hi => h i (by omega))
    have h2 := of_decide_eq_true (h k (by omega))
    show dgv c b k * 10 + (c (b + k) - 48) + 1 ≤ 10 ^ k * 10
    omega
/-- what the class holds of it -/
def cv (c : Nat → Nat) (b k : Nat) : Int32 := if k ≤ 4 then nI (dgv c b k) else -1
theorem c76 {E : am_Ev} {I : Nat → Nat → Int32} {J : Nat → Nat → Int64} {S : Nat → Nat → Option Nat} {Q : am_Qt} {c : Nat → Nat} {n b : Nat} (ht : txc I c n) (hb : I 1 4 = nI b) (hbn : b < n) (hD : isD c b = true) (h : Q (.inl none) E (u_I I 1 (upd (upd (upd (I 1) 6 (nI 3)) 7 (cv c b (scn (isD c) n b - b))) 5 (nI (scn (isD c) n b)))) J S) : am_cl 76 [.ref 1, .int (nI n)] E I J S Q := by
  obtain ⟨hn, ht⟩ := ht
  show am_ww 76 0 [.ref 1, .int (nI n)] [] E I J S Q
  apply g76_0
  rw [hb]
  have key : ∀ m q, n - q = m → b ≤ q → q ≤ n → scn (isD c) n q = scn (isD c) n b → (∀ i, b ≤ i → i < q → isD c i = true) → am_ww 76 10 [.ref 1, .int (nI n)] [] E (u_I I 1 (upd (upd (upd (I 1) 6 (nI 3)) 7 (cv c b (q - b))) 5 (nI q))) J S Q := by
    intro m
    induction m with
    | zero =>
      intro q e hq hqn es hd
      apply g76_10
      rw [u_I_eq, upd_eq, nI_leI (by omega) (by omega)]
      refine ⟨fun _ => ?_, fun z => absurd (by omega) z⟩
      rw [scn_e (by omega)] at es
      rw [← es] at h
      exact h
    | succ m ih =>
      intro q e hq hqn es hd
      obtain ⟨t1, t2⟩ := ht q (by omega)
      apply g76_10
      rw [u_I_eq, upd_eq, nI_leI (by omega) (by omega), nI_clamp (by omega), u_I_ne (show 2 ≠ 1 by decide), t2, upd_ne (show (4 : Nat) ≠ 5 by decide), upd_ne (show (4 : Nat) ≠ 7 by decide), upd_ne (show (4 : Nat) ≠ 6 by decide), hb, upd_ne (show (7 : Nat) ≠ 5 by decide), upd_eq]
      refine ⟨fun z => absurd z (by omega), fun _ => ⟨vp_in_nI (by omega) (by omega), ?_⟩⟩
      intro w ew
      subst ew
      have out : isD c q = false → Q (.inl none) E (u_I I 1 (upd (upd (upd (I 1) 6 (nI 3)) 7 (cv c b (q - b))) 5 (nI q))) J S := by
        intro z
        rw [scn_n z] at es
        rw [← es] at h
        exact h
      rw [sb_lt t1 (by omega), sb_gt t1 (by omega)]
      refine ⟨fun z => out (decide_eq_false (by omega)), fun z => ⟨fun z2 => out (decide_eq_false (by omega)), fun z2 => ?_⟩⟩
      have hq1 : 48 ≤ c q ∧ c q ≤ 57 := by omega
      have hD' : isD c q = true := decide_eq_true hq1
      have hd' : ∀ i, b ≤ i → i < q + 1 → isD c i = true := by
        intro i a a2
        by_cases cc : i = q
        · rw [cc]; exact hD'
        · exact hd i a (by omega)
      intro w ew
      have ew' : w = cv c b (q + 1 - b) := by
        rw [ew, nI_subI hq]
        unfold cv
        by_cases c4 : q - b < 4
        · rw [if_neg (by rw [nI_leI (by omega) (by omega)]; omega), if_pos (by omega), if_pos (by omega), sb_lo _ (by omega), nI_mulI, nI_add, nI_subI (by omega), show q + 1 - b = (q - b) + 1 by omega]
          show _ = nI (dgv c b (q - b) * 10 + (c (b + (q - b)) - 48))
          rw [show b + (q - b) = q by omega]
          exact congrArg nI (by omega)
        · rw [if_pos (by rw [nI_leI (by omega) (by omega)]; omega), if_neg (by omega)]
      have eh : upd (upd (upd (upd (upd (I 1) 6 (nI 3)) 7 (cv c b (q - b))) 5 (nI q)) 7 w) 5 (nI q + nI 1) = upd (upd (upd (I 1) 6 (nI 3)) 7 (cv c b (q + 1 - b))) 5 (nI (q + 1)) := by
        rw [ew', nI_add]
        funext k
        unfold upd
        by_cases k5 : k = 5
        · simp only [k5, if_true]
        · by_cases k7 : k = 7
          · simp only [k7, if_true, if_false, if_neg (show ¬ (7 : Nat) = 5 by decide)]
          · simp only [if_neg k5, if_neg k7]
      rw [uI_0, eh]
      exact ih (q + 1) (by omega) (by omega) (by omega) (by rw [← es, scn_y (by omega) hD']) hd'
  have k0 := key (n - b) b rfl (Nat.le_refl _) (by omega) rfl (fun i a a2 => by omega)
  rw [Nat.sub_self] at k0
  exact k0
