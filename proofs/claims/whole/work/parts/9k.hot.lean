/-! hot -/
def incr (c : Nat → Nat) (x : Nat) (j : Nat) : Nat := if j = x then c j + 1 else c j
def put1 (o : Nat → Nat) (k x : Nat) (j : Nat) : Nat := if j = k then x else o j
def hs (D : Nat → Nat) : Nat → Nat → Nat → (Nat → Nat) → (Nat → Nat) → Nat × (Nat → Nat) × (Nat → Nat)
  | 0, _, k, o, c => (k, o, c)
  | m + 1, t, k, o, c => if c (D t) = 0 then hs D m (t + 1) (k + 1) (put1 o k (D t)) (incr c (D t)) else hs D m (t + 1) k o (incr c (D t))
def nz (c : Nat → Nat) (x : Nat) : Bool := !decide (c x = 0)
def HI (t k : Nat) (o c : Nat → Nat) : Prop := (∀ j, j < k → o j < 64 ∧ 1 ≤ c (o j)) ∧ (∀ x, x < 64 → 1 ≤ c x → ∃ j, j < k ∧ o j = x) ∧ (∀ a, a < k → ∀ b, b < k → o a = o b → a = b) ∧ k = m_cnt (nz c) 64 0 ∧ (∀ x, c x < t)
theorem cnt_lt {f : Nat → Bool} {x : Nat} (hx : f x = false) : ∀ n t, t ≤ x → x < t + n → m_cnt f n t < n := by
  intro n
  induction n with
  | zero => intro t a b; omega
  | succ n ih =>
    intro t a b
    unfold m_cnt
    by_cases c : x = t
    · rw [← c, hx, if_neg Bool.false_ne_true]
      have := m_cnt_le f n (x + 1)
      omega
    · have := ih (t + 1) (by omega) (by omega)
      split <;> omega
theorem cnt_up {f g : Nat → Bool} {x : Nat} (hf : f x = false) (hg : g x = true) (h : ∀ j, j ≠ x → g j = f j) : ∀ n t, t ≤ x → x < t + n → m_cnt g n t = m_cnt f n t + 1 := by
  intro n
  induction n with
  | zero => intro t a b; omega
  | succ n ih =>
    intro t a b
    unfold m_cnt
    by_cases c : x = t
    · subst c
      rw [hf, hg, if_neg Bool.false_ne_true, if_pos rfl, m_cnt_congr n (x + 1) (fun j a _ => h j (by omega))]
      omega
    · rw [ih (t + 1) (by omega) (by omega), h t (by omega)]
      omega
theorem HI_0 : HI 1 0 (fun _ => 0) (fun _ => 0) := by
  refine ⟨fun j hj => absurd hj (by omega), fun x _ h => absurd (show (1 : Nat) ≤ 0 from h) (by omega), fun a ha => absurd ha (by omega), ?_, fun x => show (0 : Nat) < 1 by omega⟩
  decide
theorem HI_n {t k x : Nat} {o c : Nat → Nat} (h : HI t k o c) (hx : x < 64) (h0 : c x = 0) : k < 64 ∧ HI (t + 1) (k + 1) (put1 o k x) (incr c x) := by
  obtain ⟨h1, h2, h3, h4, h5⟩ := h
  have nzx : nz c x = false := by unfold nz; rw [h0]; rfl
  have lt : k < 64 := by rw [h4]; exact cnt_lt nzx 64 0 (by omega) (by omega)
  have ne : ∀ j, j < k → o j ≠ x := fun j hj e => by
    have := (h1 j hj).2
    rw [e, h0] at this
    omega
  refine ⟨lt, fun j hj => ?_, fun y hy hc => ?_, fun a ha b hb e => ?_, ?_, fun y => ?_⟩
  · unfold put1
    by_cases c1 : j = k
    · rw [if_pos c1]
      refine ⟨hx, ?_⟩
      unfold incr
      rw [if_pos rfl]
      omega
    · rw [if_neg c1]
      refine ⟨(h1 j (by omega)).1, ?_⟩
      unfold incr
      rw [if_neg (ne j (by omega))]
      exact (h1 j (by omega)).2
  · by_cases c1 : y = x
    · exact ⟨k, by omega, by unfold put1; rw [if_pos rfl, c1]⟩
    · unfold incr at hc
      rw [if_neg c1] at hc
      obtain ⟨j, hj, e⟩ := h2 y hy hc
      exact ⟨j, by omega, by unfold put1; rw [if_neg (by omega)]; exact e⟩
  · unfold put1 at e
    by_cases c1 : a = k
    · by_cases c2 : b = k
      · omega
      · rw [if_pos c1, if_neg c2] at e
        exact absurd e.symm (ne b (by omega))
    · by_cases c2 : b = k
      · rw [if_neg c1, if_pos c2] at e
        exact absurd e (ne a (by omega))
      · rw [if_neg c1, if_neg c2] at e
        exact h3 a (by omega) b (by omega) e
  · rw [h4]
    refine (cnt_up nzx ?_ (fun j hj => ?_) 64 0 (by omega) (by omega)).symm
    · unfold nz incr
      rw [if_pos rfl, decide_eq_false (by omega)]
      rfl
    · unfold nz incr
      rw [if_neg hj]
  · unfold incr
    have := h5 y
    split <;> omega
theorem HI_o {t k x : Nat} {o c : Nat → Nat} (h : HI t k o c) (hx : x < 64) (h0 : ¬ c x = 0) : HI (t + 1) k o (incr c x) := by
  obtain ⟨h1, h2, h3, h4, h5⟩ := h
  refine ⟨fun j hj => ⟨(h1 j hj).1, ?_⟩, fun y hy hc => ?_, h3, ?_, fun y => ?_⟩
  · have := (h1 j hj).2
    unfold incr
    split <;> omega
  · refine h2 y hy ?_
    unfold incr at hc
    by_cases c1 : y = x
    · rw [c1]; omega
    · rw [if_neg c1] at hc; exact hc
  · rw [h4]
    refine m_cnt_congr 64 0 (fun j _ _ => ?_)
    unfold nz incr
    by_cases c1 : j = x
    · subst c1
      rw [if_pos rfl, decide_eq_false h0, decide_eq_false (by omega)]
    · rw [if_neg c1]
  · unfold incr
    have := h5 y
    split <;> omega
theorem c165_l {E : am_Ev} {J : Nat → Nat → Int64} {S : Nat → Nat → Option Nat} {Q : am_Qt} {I : Nat → Nat → Int32} {D : Nat → Nat} {T : Nat} (hT : T ≤ 400) (eT : I 18 10 = nI T) (hD : ∀ t, 1 ≤ t → t ≤ T → I 33 t = nI (D t) ∧ D t < 64) : ∀ m t k o c (I1 : Nat → Nat → Int32) (d3 : Value), am_isL d3 = false → t + m = T + 1 → 1 ≤ t → HI t k o c → fr I I1 [96, 97, 98] → I1 96 2 = nI k → (∀ j, j < k → I1 97 j = nI (o j)) → (∀ x, x < 64 → I1 98 x = nI (c x)) → (∀ I', fr I I' [96, 97, 98] → I' 96 2 = nI (hs D m t k o c).1 → (∀ j, j < (hs D m t k o c).1 → I' 97 j = nI ((hs D m t k o c).2.1 j)) → (∀ x, x < 64 → I' 98 x = nI ((hs D m t k o c).2.2 x)) → HI (T + 1) (hs D m t k o c).1 (hs D m t k o c).2.1 (hs D m t k o c).2.2 → Q (.inl none) E I' J S) → am_ww 165 9 [.ref 96, .ref 18, .int (nI t), d3] [] E I1 J S Q := by
  intro m
  induction m with
  | zero =>
    intro t k o c I1 d3 hd3 et t1 hI f1 e96 e97 e98 h
    apply g165_9 hd3
    rw [f1 18 (by decide), eT, nI_ltI (by omega) (by omega)]
    have : t = T + 1 := by omega
    subst this
    exact ⟨fun _ => h I1 f1 e96 e97 e98 hI, fun q => absurd (by omega) q⟩
  | succ m ih =>
    intro t k o c I1 d3 hd3 et t1 hI f1 e96 e97 e98 h
    apply g165_9 hd3
    obtain ⟨d1, d2⟩ := hD t t1 (by omega)
    rw [f1 18 (by decide), eT, nI_ltI (by omega) (by omega), nI_clamp (by omega), f1 33 (by decide), d1, nI_clamp (by omega), e98 _ d2, e96]
    have cb := hI.2.2.2.2 (D t)
    refine ⟨fun q => absurd q (by omega), fun _ => ⟨vp_in_nI (by omega) (by omega), vp_in_nI (by omega) (by omega), ?_⟩⟩
    rw [nI_e0 (by omega)]
    refine ⟨fun c0 => ?_, fun c0 => ?_⟩
    · obtain ⟨k64, hI'⟩ := HI_n hI d2 c0
      have hh : hs D (m + 1) t k o c = hs D m (t + 1) (k + 1) (put1 o k (D t)) (incr c (D t)) := by
        show (if c (D t) = 0 then hs D m (t + 1) (k + 1) (put1 o k (D t)) (incr c (D t)) else hs D m (t + 1) k o (incr c (D t))) = _
        rw [if_pos c0]
      rw [hh] at h
      rw [nI_clamp (by omega), nI_add, nI_add, nI_add]
      refine ⟨vp_in_nI (by omega) (by omega), ih (t + 1) (k + 1) _ _ _ _ rfl (by omega) (by omega) hI' (fun j hj => ?_) ?_ (fun j hj => ?_) (fun x hx => ?_) h⟩
      · simp only [List.mem_cons, List.not_mem_nil, or_false, not_or] at hj
        rw [u_I_ne hj.2.2, u_I_ne hj.1, u_I_ne hj.2.1]
        exact f1 j (by simp [hj.1, hj.2.1, hj.2.2])
      · rw [u_I_ne (by decide), u_I_eq, upd_eq]
      · rw [u_I_ne (by decide), u_I_ne (by decide), u_I_eq]
        unfold put1
        by_cases cj : j = k
        · rw [cj, upd_eq, if_pos rfl]
        · rw [upd_ne cj, if_neg cj, e97 j (by omega)]
      · rw [u_I_eq]
        unfold incr
        by_cases cx : x = D t
        · rw [cx, upd_eq, if_pos rfl]
        · rw [upd_ne cx, if_neg cx, e98 x hx]
    · have hI' := HI_o hI d2 c0
      have hh : hs D (m + 1) t k o c = hs D m (t + 1) k o (incr c (D t)) := by
        show (if c (D t) = 0 then hs D m (t + 1) (k + 1) (put1 o k (D t)) (incr c (D t)) else hs D m (t + 1) k o (incr c (D t))) = _
        rw [if_neg c0]
      rw [hh] at h
      rw [nI_add, nI_add]
      refine ih (t + 1) k _ _ _ _ rfl (by omega) (by omega) hI' (fun j hj => ?_) ?_ (fun j hj => ?_) (fun x hx => ?_) h
      · simp only [List.mem_cons, List.not_mem_nil, or_false, not_or] at hj
        rw [u_I_ne hj.2.2]
        exact f1 j (by simp [hj.1, hj.2.1, hj.2.2])
      · rw [u_I_ne (by decide)]; exact e96
      · rw [u_I_ne (by decide)]; exact e97 j hj
      · rw [u_I_eq]
        unfold incr
        by_cases cx : x = D t
        · rw [cx, upd_eq, if_pos rfl]
        · rw [upd_ne cx, if_neg cx, e98 x hx]
theorem m273_l {E : am_Ev} {J : Nat → Nat → Int64} {S : Nat → Nat → Option Nat} {Q : am_Qt} {I : Nat → Nat → Int32} {D : Nat → Nat} {T : Nat} (hT : T ≤ 400) (eT : I 99 12 = nI T) (hD : ∀ t, 1 ≤ t → t ≤ T → I 119 t = nI (D t) ∧ D t < 64) : ∀ m t k o c (I1 : Nat → Nat → Int32) (d3 : Value), am_isL d3 = false → t + m = T + 1 → 1 ≤ t → HI t k o c → fr I I1 [131, 132] → (∀ j, j < k → I1 131 j = nI (o j)) → (∀ j, j < k → I1 132 j = nI (c (o j))) → (∀ I', fr I I' [131, 132] → (∀ j, j < (hs D m t k o c).1 → I' 131 j = nI ((hs D m t k o c).2.1 j) ∧ I' 132 j = nI ((hs D m t k o c).2.2 ((hs D m t k o c).2.1 j))) → Q (.inl (some (.int (nI (hs D m t k o c).1)))) E I' J S) → am_ww 273 4 [.ref 99, .int (nI k), .int (nI t), d3] [] E I1 J S Q := by
  intro m
  induction m with
  | zero =>
    intro t k o c I1 d3 hd3 et t1 hI f1 e131 e132 h
    apply g273_4 hd3
    rw [f1 99 (by decide), eT, nI_ltI (by omega) (by omega)]
    exact ⟨fun _ => h I1 f1 (fun j hj => ⟨e131 j hj, e132 j hj⟩), fun q => absurd (by omega) q⟩
  | succ m ih =>
    intro t k o c I1 d3 hd3 et t1 hI f1 e131 e132 h
    apply g273_4 hd3
    obtain ⟨d1, d2⟩ := hD t t1 (by omega)
    have k64 : k ≤ 64 := by rw [hI.2.2.2.1]; exact m_cnt_le _ _ _
    rw [f1 99 (by decide), eT, nI_ltI (by omega) (by omega)]
    refine ⟨fun q => absurd q (by omega), fun _ => ?_⟩
    have e119 : I1 119 t = nI (D t) := by rw [f1 119 (by decide)]; exact d1
    -- the search
    have sr : ∀ n j, j + n = k → (∀ i, i < j → ¬ o i = D t) → (∀ j, j ≤ k → (∀ i, i < j → ¬ o i = D t) → (j < k → o j = D t) → am_ww 273 24 [.ref 99, .int (nI k), .int (nI t), .int (nI j)] [] E I1 J S Q) → am_ww 273 10 [.ref 99, .int (nI k), .int (nI t), .int (nI j)] [] E I1 J S Q := by
      intro n
      induction n with
      | zero =>
        intro j ej hj hc
        apply g273_10
        rw [nI_leI (by omega) (by omega)]
        exact ⟨fun _ => hc j (by omega) hj (fun q => absurd q (by omega)), fun q => absurd (by omega) q⟩
      | succ n ihn =>
        intro j ej hj hc
        apply g273_10
        have b := (hI.1 j (by omega)).1
        rw [nI_leI (by omega) (by omega), nI_clamp (by omega), nI_clamp (by omega), e131 j (by omega), e119, nI_eq (by omega) (by omega), nI_add]
        refine ⟨fun q => absurd q (by omega), fun _ => ⟨vp_in_nI (by omega) (by omega), vp_in_nI (by omega) (by omega), fun y => hc j (by omega) hj (fun _ => y), fun y => ihn (j + 1) (by omega) (fun i hi => ?_) hc⟩⟩
        by_cases ci : i = j
        · rw [ci]; exact y
        · exact hj i (by omega)
    refine sr k 0 (by omega) (fun i hi => absurd hi (by omega)) (fun j jk hj hjk => ?_)
    apply g273_24
    rw [nI_clamp (by omega), nI_clamp (by omega), e119, nI_eq (by omega) (by omega)]
    refine ⟨fun cj => ?_, fun cj => ?_⟩
    · subst cj
      have c0 : c (D t) = 0 := by
        rcases Nat.eq_zero_or_pos (c (D t)) with z | z
        · exact z
        · obtain ⟨i, hi, e⟩ := hI.2.1 (D t) d2 z
          exact absurd e (hj i hi)
      obtain ⟨k64', hI'⟩ := HI_n hI d2 c0
      have hh : hs D (m + 1) t j o c = hs D m (t + 1) (j + 1) (put1 o j (D t)) (incr c (D t)) := by
        show (if c (D t) = 0 then hs D m (t + 1) (j + 1) (put1 o j (D t)) (incr c (D t)) else hs D m (t + 1) j o (incr c (D t))) = _
        rw [if_pos c0]
      rw [hh] at h
      rw [upd_eq, upd_upd, nI_add, nI_add, nI_add]
      refine ⟨vp_in_nI (by omega) (by omega), vp_in_nI (by omega) (by omega), ih (t + 1) (j + 1) _ _ _ _ rfl (by omega) (by omega) hI' (fun i hi => ?_) (fun i hi => ?_) (fun i hi => ?_) h⟩
      · simp only [List.mem_cons, List.not_mem_nil, or_false, not_or] at hi
        rw [u_I_ne hi.2, u_I_ne hi.1]
        exact f1 i (by simp [hi.1, hi.2])
      · rw [u_I_ne (by decide), u_I_eq]
        unfold put1
        by_cases ci : i = j
        · rw [ci, upd_eq, if_pos rfl]
        · rw [upd_ne ci, if_neg ci, e131 i (by omega)]
      · rw [u_I_eq]
        unfold put1
        by_cases ci : i = j
        · rw [ci, upd_eq, if_pos rfl]
          unfold incr
          rw [if_pos rfl, c0]
        · rw [upd_ne ci, if_neg ci, e132 i (by omega)]
          unfold incr
          rw [if_neg (hj i (by omega))]
    · have ej := hjk (by omega)
      have c0 : ¬ c (D t) = 0 := by
        have := (hI.1 j (by omega)).2
        rw [ej] at this
        omega
      have hI' := HI_o hI d2 c0
      have hh : hs D (m + 1) t k o c = hs D m (t + 1) k o (incr c (D t)) := by
        show (if c (D t) = 0 then hs D m (t + 1) (k + 1) (put1 o k (D t)) (incr c (D t)) else hs D m (t + 1) k o (incr c (D t))) = _
        rw [if_neg c0]
      rw [hh] at h
      rw [e132 j (by omega), ej, nI_add, nI_add]
      refine ⟨vp_in_nI (by omega) (by omega), ih (t + 1) k _ _ _ _ rfl (by omega) (by omega) hI' (fun i hi => ?_) (fun i hi => ?_) (fun i hi => ?_) h⟩
      · simp only [List.mem_cons, List.not_mem_nil, or_false, not_or] at hi
        rw [u_I_ne hi.2]
        exact f1 i (by simp [hi.1, hi.2])
      · rw [u_I_ne (by decide)]; exact e131 i hi
      · rw [u_I_eq]
        unfold incr
        by_cases ci : i = j
        · rw [ci, upd_eq, ej, if_pos rfl]
        · rw [upd_ne ci, e132 i hi, if_neg (fun q => ci (hI.2.2.1 i hi j (by omega) (by rw [q, ej])))]
