/-! the reference: a live step -/
def fr (I I' : Nat → Nat → Int32) (L : List Nat) : Prop := ∀ k, k ∉ L → I' k = I k
theorem upd_upd {f : Nat → Int32} {k : Nat} {x y : Int32} : upd (upd f k x) k y = upd f k y := by
  funext j
  unfold upd
  by_cases h : j = k
  · rw [if_pos h, if_pos h]
  · rw [if_neg h, if_neg h, if_neg h]
theorem upd_comm {f : Nat → Int32} {k l : Nat} {x y : Int32} (h : k ≠ l) : upd (upd f k x) l y = upd (upd f l y) k x := by
  funext j
  unfold upd
  by_cases h1 : j = l
  · rw [if_pos h1, if_neg (by omega), if_pos h1]
  · rw [if_neg h1]
    by_cases h2 : j = k
    · rw [if_pos h2, if_pos h2]
    · rw [if_neg h2, if_neg h2, if_neg h1]
/-- how many of t, t + 1 .. (n of them) -/
def m_cnt (f : Nat → Bool) : Nat → Nat → Nat
  | 0, _ => 0
  | n + 1, t => (if f t then 1 else 0) + m_cnt f n (t + 1)
/-- the k-th of them -/
def m_sel (f : Nat → Bool) : Nat → Nat → Nat → Nat
  | 0, _, _ => 0
  | n + 1, t, k => if f t then (if k = 0 then t else m_sel f n (t + 1) (k - 1)) else m_sel f n (t + 1) k
theorem m_cnt_le (f : Nat → Bool) : ∀ n t, m_cnt f n t ≤ n := by
  intro n
  induction n with
  | zero => intro t; exact Nat.le_refl _
  | succ n ih =>
    intro t
    have := ih (t + 1)
    unfold m_cnt
    split <;> omega
theorem m_sel_lt (f : Nat → Bool) : ∀ n t k, k < m_cnt f n t → t ≤ m_sel f n t k ∧ m_sel f n t k < t + n ∧ f (m_sel f n t k) = true := by
  intro n
  induction n with
  | zero => intro t k h; exact absurd h (Nat.not_lt_zero _)
  | succ n ih =>
    intro t k h
    unfold m_cnt at h
    unfold m_sel
    by_cases c : f t = true
    · rw [if_pos c] at h ⊢
      by_cases c2 : k = 0
      · rw [if_pos c2]
        exact ⟨Nat.le_refl _, by omega, c⟩
      · rw [if_neg c2]
        obtain ⟨h1, h2, h3⟩ := ih (t + 1) (k - 1) (by omega)
        exact ⟨by omega, by omega, h3⟩
    · rw [if_neg c] at h ⊢
      obtain ⟨h1, h2, h3⟩ := ih (t + 1) k (by omega)
      exact ⟨by omega, by omega, h3⟩
theorem m_cnt_congr {f g : Nat → Bool} : ∀ n t, (∀ j, t ≤ j → j < t + n → f j = g j) → m_cnt f n t = m_cnt g n t := by
  intro n
  induction n with
  | zero => intro t h; rfl
  | succ n ih =>
    intro t h
    unfold m_cnt
    rw [h t (by omega) (by omega), ih (t + 1) (fun j h1 h2 => h j (by omega) (by omega))]
theorem m_sel_congr {f g : Nat → Bool} : ∀ n t k, (∀ j, t ≤ j → j < t + n → f j = g j) → m_sel f n t k = m_sel g n t k := by
  intro n
  induction n with
  | zero => intro t k h; rfl
  | succ n ih =>
    intro t k h
    unfold m_sel
    rw [h t (by omega) (by omega), ih (t + 1) (k - 1) (fun j h1 h2 => h j (by omega) (by omega)), ih (t + 1) k (fun j h1 h2 => h j (by omega) (by omega))]
/-- what canGo looks at -/
theorem m_can_c {P : Nat → Nat → Int32} {G r s : Nat → Int32} {t : Nat} (hp : p_in P) (hr : r_ok P r) (ht : t < (P 103 4).toNatClampNeg) (hc : c_eq r s) : m_can P G r t = m_can P G s t := by
  obtain ⟨p, n, ep, en, hpn, hn, hi, ht4, hok⟩ := r_at hp hr ht
  have e1 := hc (16 + 6 * t + 4) (by omega)
  have hi' : m_i s t = 16 * t + p := by unfold m_i; rw [← e1, ep, nI_clamp (by omega)]
  unfold m_can
  rw [hi, hi', ← e1, ep, en]
  by_cases c : p < n
  · obtain ⟨o, ho, eo, h1, h2, h3, h4, h5, h6⟩ := hok c
    rw [eo]
    simp (disch := omega) only [nI_eq]
    by_cases c7 : o = 7
    · have b := vb (h2 (by omega) (by omega) (by omega))
      rw [if_pos c7, if_pos c7, hc (40 + (P 107 (16 * t + p)).toNatClampNeg) (by omega)]
    · rw [if_neg c7, if_neg c7]
      by_cases c6 : o = 6
      · have b := vb (h5 c6)
        rw [if_pos c6, if_pos c6, hc (48 + (P 108 (16 * t + p)).toNatClampNeg) (by omega)]
      · rw [if_neg c6, if_neg c6]
  · have c' : ¬ nI p < nI n := by rw [nI_ltI (by omega) (by omega)]; exact c
    rw [decide_eq_false c', Bool.false_and, Bool.false_and]
theorem r_ok_c {P : Nat → Nat → Int32} {r s : Nat → Int32} (hp : p_in P) (hr : r_ok P r) (hc : c_eq r s) : r_ok P s := by
  have h1 := vb hp.1
  obtain ⟨a, b, c, d⟩ := hr
  refine ⟨fun t ht => ?_, fun l hl => ?_, ?_, fun q hq => ?_⟩
  · rw [← hc _ (by omega)]; exact a t ht
  · rw [← hc _ (by omega)]; exact b l hl
  · rw [← hc _ (by omega)]; exact c
  · rw [← hc _ (by omega)]; exact d q hq
/-- drawn numbers -/
def m_d (d : Int32) : Int32 := d * nI 1103515245 + nI 12345
def m_b (d : Int32) : Nat := ((d >>> (nI 16 &&& 31)) &&& nI 32767).toNatClampNeg
theorem m_b_eq (d : Int32) : (d >>> (nI 16 &&& 31)) &&& nI 32767 = nI (m_b d) ∧ m_b d < 32768 := by
  have h := pk_andIn (d >>> (nI 16 &&& 31)) (m := nI 32767) 15 rfl (by omega)
  exact ⟨vc h, vb h⟩
/-- who comes next, and for how long -/
def m_ch (P : Nat → Nat → Int32) (G : Nat → Int32) (q : Nat) (r : Nat → Int32) : Nat → Int32 :=
  let n := m_cnt (m_can P G r) (P 103 4).toNatClampNeg 0
  let t := m_sel (m_can P G r) (P 103 4).toNatClampNeg 0 (m_b (m_d (r 46)) % n)
  let s := upd (upd r 46 (m_d (m_d (r 46)))) 45 (nI (m_b (m_d (m_d (r 46))) % q + 1))
  if nI t = r 44 then s else upd (upd s 47 (r 47 + nI 1)) 44 (nI t)
/-- what a switch puts down of the row that is left -/
def m_lb (r : Nat → Int32) : Int32 := if r 44 = -1 then nI 0 else r (16 + 6 * (r 44).toNatClampNeg + 5)
def m_lp (r : Nat → Int32) : Int32 := if r 44 = -1 then nI 0 else r (16 + 6 * (r 44).toNatClampNeg + 4)
def m_rec (b : Bool) (r s A : Nat → Int32) (v : Int32) : Nat → Int32 := if b && !decide (s 44 = r 44) then upd A (r 47).toNatClampNeg v else A
theorem m219_l {E : am_Ev} {I : Nat → Nat → Int32} {J : Nat → Nat → Int64} {S : Nat → Nat → Option Nat} {Q : am_Qt} (hp : p_in I) (hr : r_ok I (I 116)) : ∀ n t c, t + n = (I 103 4).toNatClampNeg → c ≤ t → Q (.inl (some (.int (nI (c + m_cnt (m_can I (I 124) (I 116)) n t))))) E I J S → am_ww 219 4 [.ref 99, .int (nI c), .int (nI t)] [] E I J S Q := by
  have hm := vb hp.1
  intro n
  induction n with
  | zero =>
    intro t c e hc h
    apply g219_4
    rw [vc hp.1]
    simp (disch := omega) only [Nat.reduceEqDiff, reduceIte, nI_mulI, nI_add, nI_clamp, nI_ltI, nI_leI, nI_eq, nI_e0, nI_n0, vt, forall_eq, true_and, and_true, true_implies, forall_const, not_true_eq_false, not_false_eq_true, false_implies, implies_true]
    exact ⟨fun _ => h, fun q => absurd (by omega) q⟩
  | succ n ih =>
    intro t c e hc h
    apply g219_4
    rw [vc hp.1]
    simp (disch := omega) only [Nat.reduceEqDiff, reduceIte, nI_mulI, nI_add, nI_clamp, nI_ltI, nI_leI, nI_eq, nI_e0, nI_n0, vt, forall_eq, true_and, and_true, true_implies, forall_const, not_true_eq_false, not_false_eq_true, false_implies, implies_true]
    refine ⟨fun q => absurd q (by omega), fun _ => ?_⟩
    refine m220 hp hr (by omega) (q_mkI ?_)
    unfold m_cnt at h
    by_cases c1 : m_can I (I 124) (I 116) t = true
    · rw [if_pos c1, ← Nat.add_assoc] at h
      rw [c1]
      show am_ww 219 4 [.ref 99, .int (nI c + nI 1), .int (nI (t + 1))] [] E I J S Q
      rw [nI_add]
      exact ih (t + 1) (c + 1) (by omega) (by omega) h
    · rw [if_neg c1, Nat.zero_add] at h
      rw [Bool.eq_false_iff.mpr c1]
      show am_ww 219 4 [.ref 99, .int (nI c + nI 0), .int (nI (t + 1))] [] E I J S Q
      rw [nI_add]
      exact ih (t + 1) c (by omega) (by omega) h
theorem m219 {E : am_Ev} {I : Nat → Nat → Int32} {J : Nat → Nat → Int64} {S : Nat → Nat → Option Nat} {Q : am_Qt} (hp : p_in I) (hr : r_ok I (I 116)) (h : Q (.inl (some (.int (nI (m_cnt (m_can I (I 124) (I 116)) (I 103 4).toNatClampNeg 0))))) E I J S) : am_cl 219 [.ref 99] E I J S Q := by
  show am_ww 219 0 [.ref 99, am_U, am_U] [] E I J S Q
  apply g219_0
  exact m219_l hp hr _ 0 0 (Nat.zero_add _) (by omega) (by rw [Nat.zero_add]; exact h)
theorem m237_l {E : am_Ev} {I : Nat → Nat → Int32} {J : Nat → Nat → Int64} {S : Nat → Nat → Option Nat} {Q : am_Qt} {d1 : Value} {x2 x3 : Int32} {w : Nat → Bool} (hd1 : am_isL d1 = false) (hp : p_in I) (hr : r_ok I (I 116)) (hw : ∀ t, t < (I 103 4).toNatClampNeg → m_can I (I 124) (I 116) t = w t) : ∀ n t k, t + n = (I 103 4).toNatClampNeg → k < m_cnt w n t → k < 4 → (∀ a b : Int32, am_ww 237 29 [.ref 99, d1, .int x2, .int x3, .int a, .int (nI (m_sel w n t k)), .int b] [] E I J S Q) → am_ww 237 8 [.ref 99, d1, .int x2, .int x3, .int (nI k), .int (-1), .int (nI t)] [] E I J S Q := by
  have hm := vb hp.1
  intro n
  induction n with
  | zero => intro t k e hk; exact absurd hk (Nat.not_lt_zero _)
  | succ n ih =>
    intro t k e hk hk4 h
    apply g237_8 hd1
    rw [vc hp.1]
    simp (disch := omega) only [Nat.reduceEqDiff, reduceIte, nI_mulI, nI_add, nI_clamp, nI_ltI, nI_leI, nI_eq, nI_e0, nI_n0, vt, forall_eq, true_and, and_true, true_implies, forall_const, not_true_eq_false, not_false_eq_true, false_implies, implies_true]
    refine ⟨fun q => absurd q (by omega), fun _ => ?_⟩
    refine m220 hp hr (t := t) (by omega) (q_mkI ?_)
    rw [hw t (by omega), bI_0]
    unfold m_cnt at hk
    unfold m_sel at h
    refine ⟨fun c => ?_, fun c => ?_⟩
    · rw [c] at h hk
      exact ih (t + 1) k (by omega) (by simp at hk; omega) hk4 h
    · rw [Bool.not_eq_false] at c
      rw [c] at h hk
      rw [if_pos rfl] at h hk
      by_cases c0 : k = 0
      · subst c0
        rw [if_pos rfl] at h
        rw [if_pos rfl]
        apply g237_8 hd1
        refine ⟨fun _ => h _ _, fun _ => ⟨fun q => ?_, fun _ => h _ _⟩⟩
        exfalso
        have : nI t = nI t := rfl
        have h2 : (nI t).toInt = -1 := by rw [q]; rfl
        rw [nI_toInt (by omega)] at h2
        omega
      · rw [if_neg c0] at h
        rw [if_neg c0, nI_subI (by omega)]
        exact ih (t + 1) (k - 1) (by omega) (by omega) (by omega) h
