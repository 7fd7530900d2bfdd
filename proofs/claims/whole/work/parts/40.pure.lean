/-! pure pictures of rows -/
theorem vt {a n : Nat} (h : a < n) (hn : n < 2 ^ 31) : vp_in (nI a) n = True := eq_true (vp_in_nI h hn)
theorem nI_e0 {a : Nat} (h : a < 2 ^ 31) : (nI a = 0) = (a = 0) := propext (by rw [← nI_0]; exact nI_eq h (by omega))
theorem nI_n0 {a : Nat} (h : a < 2 ^ 31) : (nI a < 0) = False := eq_false (nI_pos h)
theorem i32_nle {x y : Int32} : (¬ x ≤ y) = (y < x) := propext Int32.not_le
theorem i32_nlt {x y : Int32} : (¬ x < y) = (y ≤ x) := propext Int32.not_lt
theorem upd_eq {f : Nat → Int32} {k : Nat} {x : Int32} : upd f k x k = x := if_pos rfl
theorem upd_ne {f : Nat → Int32} {k j : Nat} {x : Int32} (h : j ≠ k) : upd f k x j = f j := if_neg h
theorem u_I_eq {I : Nat → Nat → Int32} {k : Nat} {f : Nat → Int32} : u_I I k f k = f := if_pos rfl
theorem u_I_ne {I : Nat → Nat → Int32} {k j : Nat} {f : Nat → Int32} (h : j ≠ k) : u_I I k f j = I j := if_neg h
def bI (b : Bool) : Int32 := if b then nI 1 else nI 0
theorem bI_0 {b : Bool} : (bI b = 0) = (b = false) := by cases b <;> decide
theorem bI_1 {b : Bool} : (bI b = 0 ∨ bI b = 1) = True := by cases b <;> decide
def m_i (r : Nat → Int32) (t : Nat) : Nat := 16 * t + (r (16 + 6 * t + 4)).toNatClampNeg
/-- a thread can go; G: how many inputs there are of each source -/
def m_can (P : Nat → Nat → Int32) (G r : Nat → Int32) (t : Nat) : Bool :=
  decide (r (16 + 6 * t + 4) < P 105 t) &&
    (if P 106 (m_i r t) = nI 7 then decide (r (40 + (P 107 (m_i r t)).toNatClampNeg) = -1)
     else if P 106 (m_i r t) = nI 6 then decide (r (48 + (P 108 (m_i r t)).toNatClampNeg) < G (P 108 (m_i r t)).toNatClampNeg) else true)
/-- an instruction does what it does -/
def m_val (P : Nat → Nat → Int32) (r : Nat → Int32) (t : Nat) (x : Int32) : Nat → Int32 :=
  let i := m_i r t
  let a := 16 + 6 * t + (P 107 i).toNatClampNeg
  let b := 16 + 6 * t + (P 108 i).toNatClampNeg
  if P 106 i = nI 0 then upd r a (P 108 i)
  else if P 106 i = nI 1 then upd r a (r (P 108 i).toNatClampNeg)
  else if P 106 i = nI 2 then upd r (P 107 i).toNatClampNeg (r b)
  else if P 106 i = nI 3 then upd r a (r a + r b)
  else if P 106 i = nI 4 then upd r a (r a - r b)
  else if P 106 i = nI 5 then upd r a (r a * r b)
  else if P 106 i = nI 6 then upd (upd r a x) (48 + (P 108 i).toNatClampNeg) (r (48 + (P 108 i).toNatClampNeg) + nI 1)
  else if P 106 i = nI 7 then upd r (40 + (P 107 i).toNatClampNeg) (nI t)
  else if P 106 i = nI 8 then upd r (40 + (P 107 i).toNatClampNeg) (if r (40 + (P 107 i).toNatClampNeg) = nI t then -1 else r (40 + (P 107 i).toNatClampNeg))
  else r
def m_to (P : Nat → Nat → Int32) (r : Nat → Int32) (t : Nat) : Int32 :=
  let i := m_i r t
  let a := 16 + 6 * t + (P 107 i).toNatClampNeg
  let b := 16 + 6 * t + (P 108 i).toNatClampNeg
  if P 106 i = nI 9 then P 109 i
  else if P 106 i = nI 10 then (if r a = 0 then P 109 i else r (16 + 6 * t + 4) + nI 1)
  else if P 106 i = nI 11 then (if r a < r b then P 109 i else r (16 + 6 * t + 4) + nI 1)
  else r (16 + 6 * t + 4) + nI 1
def m_isB (P : Nat → Nat → Int32) (i : Nat) : Bool := decide (P 106 i = nI 9) || decide (P 106 i = nI 10) || decide (P 106 i = nI 11)
def m_do (P : Nat → Nat → Int32) (r : Nat → Int32) (t : Nat) (x : Int32) : Nat → Int32 :=
  upd (upd (m_val P r t x) (16 + 6 * t + 5) (r (16 + 6 * t + 5) + bI (m_isB P (m_i r t)))) (16 + 6 * t + 4) (m_to P r t)
/-- what an instruction's numbers may be; n: how long its thread is -/
def p_ok (P : Nat → Nat → Int32) (i n : Nat) : Prop := ∃ o, o < 13 ∧ P 106 i = nI o ∧ (o = 2 → vp_in (P 107 i) 16) ∧ (o ≠ 2 → o ≠ 9 → o < 12 → vp_in (P 107 i) 4) ∧ (o = 1 → vp_in (P 108 i) 16) ∧ (o = 2 ∨ o = 3 ∨ o = 4 ∨ o = 5 ∨ o = 11 → vp_in (P 108 i) 4) ∧ (o = 6 → vp_in (P 108 i) 3) ∧ (o = 9 ∨ o = 10 ∨ o = 11 → vp_in (P 109 i) n)
def p_in (P : Nat → Nat → Int32) : Prop := vp_in (P 103 4) 5 ∧ ∀ t, t < (P 103 4).toNatClampNeg → vp_in (P 105 t) 17 ∧ ∀ l, l < (P 105 t).toNatClampNeg → p_ok P (16 * t + l) (P 105 t).toNatClampNeg
def r_ok (P : Nat → Nat → Int32) (r : Nat → Int32) : Prop :=
  (∀ t, t < (P 103 4).toNatClampNeg → vp_in (r (16 + 6 * t + 4)) ((P 105 t).toNatClampNeg + 1)) ∧ (∀ l, l < 4 → r (40 + l) = -1 ∨ vp_in (r (40 + l)) (P 103 4).toNatClampNeg) ∧ (r 44 = -1 ∨ vp_in (r 44) (P 103 4).toNatClampNeg) ∧ (∀ s, s < 3 → vp_in (r (48 + s)) 31)
/-- a thread that has not ended: its place, its instruction -/
theorem r_at {P : Nat → Nat → Int32} {r : Nat → Int32} {t : Nat} (hp : p_in P) (hr : r_ok P r) (ht : t < (P 103 4).toNatClampNeg) : ∃ p n, r (16 + 6 * t + 4) = nI p ∧ P 105 t = nI n ∧ p ≤ n ∧ n ≤ 16 ∧ m_i r t = 16 * t + p ∧ t < 4 ∧ (p < n → p_ok P (16 * t + p) n) := by
  have h1 := vb hp.1
  obtain ⟨h2, h3⟩ := hp.2 t ht
  have h4 := hr.1 t ht
  have h5 := vb h2
  have h6 := vb h4
  refine ⟨_, _, vc h4, vc h2, by omega, by omega, rfl, by omega, fun h => h3 _ h⟩
/-- a row that is the same but for places 45, 46, 47 -/
def c_eq (r s : Nat → Int32) : Prop := ∀ k, k < 45 ∨ 48 ≤ k ∧ k < 51 → r k = s k
