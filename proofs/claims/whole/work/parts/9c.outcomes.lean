/-! outcomes -/
def AF (I : Nat → Nat → Int32) (q n j : Nat) : Int32 := tr I q n (m_first I (nI (j / 16))) (j % 16)
def LK (A : Nat → Int32) (a b : Nat) : Prop := ∀ c, c < 16 → A (16 * a + c) = A (16 * b + c)
def nw (A : Nat → Int32) (s : Nat) : Prop := ∀ o, o < s → ¬ LK A o s
noncomputable def cn (A : Nat → Int32) : Nat → Nat → Nat
  | 0, _ => 0
  | m + 1, s => @ite _ (nw A s) (Classical.propDecidable _) 1 0 + cn A m (s + 1)
noncomputable def fi (A : Nat → Int32) : Nat → Nat → Int32
  | 0, _ => -1
  | m + 1, s => @ite _ (LK A 0 s) (Classical.propDecidable _) (fi A m (s + 1)) (nI s)
theorem cn_y {A : Nat → Int32} {m s : Nat} (h : nw A s) : cn A (m + 1) s = 1 + cn A m (s + 1) := by
  show @ite _ (nw A s) (Classical.propDecidable _) 1 0 + cn A m (s + 1) = _
  rw [if_pos h]
theorem cn_n {A : Nat → Int32} {m s : Nat} (h : ¬ nw A s) : cn A (m + 1) s = cn A m (s + 1) := by
  show @ite _ (nw A s) (Classical.propDecidable _) 1 0 + cn A m (s + 1) = _
  rw [if_neg h, Nat.zero_add]
theorem fi_y {A : Nat → Int32} {m s : Nat} (h : LK A 0 s) : fi A (m + 1) s = fi A m (s + 1) := by
  show @ite _ (LK A 0 s) (Classical.propDecidable _) (fi A m (s + 1)) (nI s) = _
  rw [if_pos h]
theorem fi_n {A : Nat → Int32} {m s : Nat} (h : ¬ LK A 0 s) : fi A (m + 1) s = nI s := by
  show @ite _ (LK A 0 s) (Classical.propDecidable _) (fi A m (s + 1)) (nI s) = _
  rw [if_neg h]
theorem cn_le {A : Nat → Int32} : ∀ m s, cn A m s ≤ m := by
  intro m
  induction m with
  | zero => intro s; exact Nat.le_refl _
  | succ m ih =>
    intro s
    have := ih (s + 1)
    by_cases c : nw A s
    · rw [cn_y c]; omega
    · rw [cn_n c]; omega
theorem cpy_at {f g : Nat → Int32} {b n j : Nat} : va_cpy f g 0 b n j = if b ≤ j ∧ j < b + n then f (j - b) else g j := by
  unfold va_cpy
  by_cases c : b ≤ j ∧ j < b + n
  · rw [if_pos c, if_pos (by omega), Nat.zero_add]
  · rw [if_neg c, if_neg (by omega)]
theorem c177_a {E : am_Ev} {J : Nat → Nat → Int64} {S : Nat → Nat → Option Nat} {Q : am_Qt} {I0 : Nat → Nat → Int32} {n q : Nat} {w : Int32} {d4 d5 d6 : Value} (hd4 : am_isL d4 = false) (hd5 : am_isL d5 = false) (hd6 : am_isL d6 = false) (hp : p_in I0) (hc : p_cl I0) (hg : gq I0) (hr : ∀ x, r_ok I0 (m_first I0 x)) (eq : I0 103 0 = nI q) (hq : 0 < q) (hq9 : q < 10) (hn : n ≤ 400) (h : ∀ I', fb I0 I' 76 84 → (∀ j, j < 112 → I' 84 j = AF I0 q n j) → am_ww 177 39 [.ref 0, .int (nI n), .int w, .int (nI 1), .int (-1), .int (nI 1), d6] [] E I' J S Q) : ∀ m s (I1 : Nat → Nat → Int32), s + m = 7 → fb I0 I1 76 84 → (∀ j, j < 16 * s → I1 84 j = AF I0 q n j) → am_ww 177 6 [.ref 0, .int (nI n), .int w, .int (nI s), d4, d5, d6] [] E I1 J S Q := by
  intro m
  induction m with
  | zero =>
    intro s I1 es f1 a1
    apply g177_6 hd4 hd5 hd6
    rw [nI_leI (by omega) (by omega)]
    exact ⟨fun _ => h I1 f1 (fun j hj => a1 j (by omega)), fun z => absurd (by omega) z⟩
  | succ m ih =>
    intro s I1 es f1 a1
    apply g177_6 hd4 hd5 hd6
    rw [nI_leI (by omega) (by omega)]
    refine ⟨fun z => absurd z (by omega), fun _ => ?_⟩
    have hpe : p_eq I0 I1 := p_eq_fb f1 (by omega)
    have hpq : p_q I0 I1 := p_q_fb f1 (by omega)
    have e17 : I1 17 0 = nI q := by rw [f1 17 (by omega), ← eq]; exact hc.2.2.2 0 (by omega)
    rw [e17]
    have ef : m_first I1 (nI s) = m_first I0 (nI s) := first_e hpe
    have et : tr I1 q n (m_first I1 (nI s)) = tr I0 q n (m_first I0 (nI s)) := by rw [ef, tr_e hpe (f1 123 (by omega)) (f1 124 (by omega))]
    refine c179 ((p_in_e hpe).mpr hp) ((p_cl_e hpq).mpr hc) ((gq_e (fun k hk => f1 k (by omega))).mpr hg) (by rw [ef]; exact (r_ok_e hpe).mpr (hr _)) hq hq9 hn (fun I2 m2 f2 => q_mkI ?_)
    rw [et] at m2
    rw [nI_mulI, nI_add]
    refine ⟨⟨nI_pos (by omega), nI_pos (by omega), nI_pos (by omega), ?_, ?_⟩, ?_⟩
    · rw [nI_clamp (by omega), nI_clamp (by omega)]; omega
    · rw [nI_clamp (by omega), nI_clamp (by omega)]; omega
    rw [nI_clamp (by omega)]
    refine ih (s + 1) _ (by omega) (fb_u (fb_tr f1 (fb_le f2 (by omega) (by omega))) (by omega) (by omega)) (fun j hj => ?_)
    rw [u_I_eq, cpy_at]
    by_cases c : s * 16 ≤ j ∧ j < s * 16 + 16
    · rw [if_pos c, m2.1 _ (by omega)]
      unfold AF
      rw [show j / 16 = s by omega, show j % 16 = j - s * 16 by omega]
    · rw [if_neg c, f2 84 (by omega), a1 j (by omega)]
theorem c180 {E : am_Ev} {I : Nat → Nat → Int32} {J : Nat → Nat → Int64} {S : Nat → Nat → Option Nat} {Q : am_Qt} {A : Nat → Int32} {s : Nat} (hA : ∀ j, j < 112 → I 84 j = A j) (hs : s < 7) (h : ∀ v, v ≤ s → (∀ o, o < v → ¬ LK A o s) → (v < s → LK A v s) → Q (.inl (some (.int (nI v)))) E I J S) : am_cl 180 [.ref 0, .int (nI s)] E I J S Q := by
  show am_ww 180 0 [.ref 0, .int (nI s), am_U, am_U, am_U] [] E I J S Q
  apply g180_0
  have inner : ∀ o, o < s → (LK A o s → Q (.inl (some (.int (nI o)))) E I J S) → (∀ v4 : Int32, ¬ LK A o s → am_ww 180 2 [.ref 0, .int (nI s), .int (nI (o + 1)), .int (nI 0), .int v4] [] E I J S Q) → ∀ m i (x : Int32), i + m = 16 → (x = nI 1 ∧ (∀ c, c < i → A (16 * o + c) = A (16 * s + c)) ∨ x = nI 0 ∧ ¬ LK A o s) → am_ww 180 9 [.ref 0, .int (nI s), .int (nI o), .int x, .int (nI i)] [] E I J S Q := by
    intro o ho hy hn m
    induction m with
    | zero =>
      intro i x ei hx
      apply g180_9
      rw [nI_leI (by omega) (by omega)]
      refine ⟨fun _ => ?_, fun z => absurd (by omega) z⟩
      rcases hx with ⟨rfl, h1⟩ | ⟨rfl, h1⟩
      · exact ⟨fun z => absurd z (by decide), fun _ => hy (fun c hc => h1 c (by omega))⟩
      · refine ⟨fun _ => ?_, fun z => absurd nI_0 z⟩
        rw [nI_add]
        exact hn _ h1
    | succ m ih =>
      intro i x ei hx
      apply g180_9
      rw [nI_leI (by omega) (by omega)]
      refine ⟨fun z => absurd z (by omega), fun _ => ?_⟩
      rw [nI_mulI, nI_mulI, nI_add, nI_add, nI_add, nI_clamp (by omega), nI_clamp (by omega), hA _ (by omega), hA _ (by omega)]
      refine ⟨⟨fun _ => trivial, fun _ => ⟨vp_in_nI (by omega) (by omega), vp_in_nI (by omega) (by omega), trivial⟩⟩, fun w3 e3 => ih (i + 1) w3 (by omega) ?_⟩
      rw [show o * 16 + i = 16 * o + i by omega, show s * 16 + i = 16 * s + i by omega] at e3
      rcases hx with ⟨rfl, h1⟩ | ⟨rfl, h1⟩
      · rw [if_neg (by decide)] at e3
        by_cases c : A (16 * o + i) = A (16 * s + i)
        · rw [if_pos c] at e3
          refine Or.inl ⟨e3, fun c' hc' => ?_⟩
          by_cases cc : c' = i
          · rw [cc]; exact c
          · exact h1 c' (by omega)
        · rw [if_neg c] at e3
          exact Or.inr ⟨e3, fun z => c (z i (by omega))⟩
      · rw [if_pos nI_0] at e3
        exact Or.inr ⟨e3, h1⟩
  have outer : ∀ m o (v3 v4 : Value), am_isL v3 = false → am_isL v4 = false → o + m = s → (∀ o', o' < o → ¬ LK A o' s) → am_ww 180 2 [.ref 0, .int (nI s), .int (nI o), v3, v4] [] E I J S Q := by
    intro m
    induction m with
    | zero =>
      intro o v3 v4 hv3 hv4 eo ho
      apply g180_2 hv3 hv4
      rw [nI_leI (by omega) (by omega)]
      have : o = s := by omega
      subst this
      exact ⟨fun _ => h o (Nat.le_refl _) ho (fun z => absurd z (by omega)), fun z => absurd (by omega) z⟩
    | succ m ih =>
      intro o v3 v4 hv3 hv4 eo ho
      apply g180_2 hv3 hv4
      rw [nI_leI (by omega) (by omega)]
      refine ⟨fun z => absurd z (by omega), fun _ => inner o (by omega) (fun z => h o (by omega) ho (fun _ => z)) (fun v4' z => ih (o + 1) _ _ rfl rfl (by omega) (fun o' ho' => ?_)) 16 0 (nI 1) (by omega) (Or.inl ⟨rfl, fun c hc => absurd hc (by omega)⟩)⟩
      by_cases c : o' = o
      · rw [c]; exact z
      · exact ho o' (by omega)
  exact outer s 0 _ _ rfl rfl (by omega) (fun o ho => absurd ho (by omega))
theorem c177_b {E : am_Ev} {I : Nat → Nat → Int32} {J : Nat → Nat → Int64} {S : Nat → Nat → Option Nat} {Q : am_Qt} {A : Nat → Int32} {w : Int32} {d1 : Value} (hd1 : am_isL d1 = false) (hA : ∀ j, j < 112 → I 84 j = A j) : ∀ m s a (l : Int32) (d6 : Value), am_isL d6 = false → s + m = 7 → 1 ≤ s → a ≤ s → Q (.inl (some (.int (if w = 0 then nI (a + cn A m s) else if l = -1 then fi A m s else l)))) E I J S → am_ww 177 39 [.ref 0, d1, .int w, .int (nI a), .int l, .int (nI s), d6] [] E I J S Q := by
  intro m
  induction m with
  | zero =>
    intro s a l d6 hd6 es s1 ha h
    apply g177_39 hd1 hd6
    rw [nI_leI (by omega) (by omega)]
    refine ⟨fun _ => ?_, fun z => absurd (by omega) z⟩
    have e1 : cn A 0 s = 0 := rfl
    have e2 : fi A 0 s = -1 := rfl
    rw [e1, e2, Nat.add_zero] at h
    have e3 : (if l = -1 then (-1 : Int32) else l) = l := by
      by_cases c : l = -1
      · rw [if_pos c, c]
      · rw [if_neg c]
    rw [e3] at h
    exact h
  | succ m ih =>
    intro s a l d6 hd6 es s1 ha h
    apply g177_39 hd1 hd6
    rw [nI_leI (by omega) (by omega)]
    refine ⟨fun z => absurd z (by omega), fun _ => ?_⟩
    refine c180 hA (by omega) (fun v hv v1 v2 => q_mkI ?_)
    rw [nI_eq (by omega) (by omega), nI_add]
    -- the least unlike
    have least : ∀ w8 : Int32, w8 = (if nI v = 0 then l else (if l = (-1) then nI s else l)) → (if w8 = -1 then fi A m (s + 1) else w8) = (if l = -1 then fi A (m + 1) s else l) := by
      intro w8 e8
      by_cases c : v = 0
      · subst c
        rw [if_pos nI_0] at e8
        rw [e8, fi_y (v2 (by omega))]
      · rw [if_neg (nI_ne0 (by omega) (by omega))] at e8
        by_cases c2 : l = -1
        · rw [if_pos c2] at e8 ⊢
          rw [e8, if_neg (nI_nm (by omega)), fi_n (v1 0 (by omega))]
        · rw [if_neg c2] at e8 ⊢
          rw [e8, if_neg c2]
    refine ⟨fun c => ?_, fun c => ?_⟩
    · intro w8 e8
      rw [nI_add]
      refine ih (s + 1) (a + 1) w8 _ rfl (by omega) (by omega) (by omega) ?_
      rw [least w8 e8]
      rw [cn_y (fun o ho => v1 o (by omega))] at h
      rw [show a + 1 + cn A m (s + 1) = a + (1 + cn A m (s + 1)) by omega]
      exact h
    · intro w5 e5
      rw [nI_add]
      refine ih (s + 1) a w5 _ rfl (by omega) (by omega) (by omega) ?_
      rw [least w5 e5]
      rw [cn_n (fun z => z v (by omega) (v2 (by omega)))] at h
      exact h
theorem m286 {E : am_Ev} {I : Nat → Nat → Int32} {J : Nat → Nat → Int64} {S : Nat → Nat → Option Nat} {Q : am_Qt} {A : Nat → Int32} {a b : Nat} (hA : ∀ j, j < 16 * (b + 1) → I 133 j = A j) (ha : a ≤ b) (hb : b < 7) (h1 : LK A a b → Q (.inl (some (.int (nI 1)))) E I J S) (h0 : ¬ LK A a b → Q (.inl (some (.int (nI 0)))) E I J S) : am_cl 286 [.ref 99, .int (nI a), .int (nI b)] E I J S Q := by
  show am_ww 286 0 [.ref 99, .int (nI a), .int (nI b), am_U] [] E I J S Q
  apply g286_0
  have l : ∀ m i, i + m = 16 → (∀ c, c < i → A (16 * a + c) = A (16 * b + c)) → am_ww 286 2 [.ref 99, .int (nI a), .int (nI b), .int (nI i)] [] E I J S Q := by
    intro m
    induction m with
    | zero =>
      intro i ei hi
      apply g286_2
      rw [nI_leI (by omega) (by omega)]
      exact ⟨fun _ => h1 (fun c hc => hi c (by omega)), fun z => absurd (by omega) z⟩
    | succ m ih =>
      intro i ei hi
      apply g286_2
      rw [nI_leI (by omega) (by omega)]
      refine ⟨fun z => absurd z (by omega), fun _ => ?_⟩
      rw [nI_mulI, nI_mulI, nI_add, nI_add, nI_add, nI_clamp (by omega), nI_clamp (by omega), hA _ (by omega), hA _ (by omega)]
      refine ⟨vp_in_nI (by omega) (by omega), vp_in_nI (by omega) (by omega), fun c => ih (i + 1) (by omega) (fun c' hc' => ?_), fun c => h0 (fun z => c (z i (by omega)))⟩
      by_cases cc : c' = i
      · rw [cc]; exact c
      · exact hi c' (by omega)
  exact l 16 0 (by omega) (fun c hc => absurd hc (by omega))
