/-! races: the call -/
def bc32 (x : Int32) : Int32 :=
  let w1 := x - (((x.toUInt32 >>> ((nI 1).toUInt32 &&& Int32.toUInt32 31)).toInt32) &&& (nI 1431655765))
  let w2 := (w1 &&& (nI 858993459)) + (((w1.toUInt32 >>> ((nI 2).toUInt32 &&& Int32.toUInt32 31)).toInt32) &&& (nI 858993459))
  let w3 := (w2 + ((w2.toUInt32 >>> ((nI 4).toUInt32 &&& Int32.toUInt32 31)).toInt32)) &&& (nI 252645135)
  let w4 := w3 + ((w3.toUInt32 >>> ((nI 8).toUInt32 &&& Int32.toUInt32 31)).toInt32)
  let w5 := w4 + ((w4.toUInt32 >>> ((nI 16).toUInt32 &&& Int32.toUInt32 31)).toInt32)
  w5 &&& (nI 63)
theorem c153 {E : am_Ev} {I : Nat → Nat → Int32} {J : Nat → Nat → Int64} {S : Nat → Nat → Option Nat} {Q : am_Qt} {x : Int32} (h : Q (.inl (some (.int (bc32 x)))) E I J S) : am_cl 153 [.int x] E I J S Q := by
  show am_ww 153 0 [.int x] [] E I J S Q
  apply g153_0
  intro w1 e1 w2 e2 w3 e3 w4 e4 w5 e5
  subst e1 e2 e3 e4 e5
  exact h
def smc (f : Nat → Nat → Bool) : Nat → Nat → Nat
  | 0, _ => 0
  | m + 1, a => m_cnt (f a) 64 0 + smc f m (a + 1)
theorem smc_c {f g : Nat → Nat → Bool} : ∀ m a, (∀ j, a ≤ j → j < a + m → ∀ b, b < 64 → f j b = g j b) → smc f m a = smc g m a := by
  intro m
  induction m with
  | zero => intro a _; rfl
  | succ m ih =>
    intro a h
    show m_cnt (f a) 64 0 + smc f m (a + 1) = m_cnt (g a) 64 0 + smc g m (a + 1)
    rw [ih (a + 1) (fun j x y b hb => h j (by omega) (by omega) b hb), m_cnt_congr 64 0 (fun j _ hj => h a (Nat.le_refl _) (by omega) j (by omega))]
theorem smc_up {f g : Nat → Nat → Bool} {a0 b0 : Nat} (hb0 : b0 < 64) (hf : f a0 b0 = false) (hg : g a0 b0 = true) (h : ∀ a b, ¬ (a = a0 ∧ b = b0) → g a b = f a b) : ∀ m a, a ≤ a0 → a0 < a + m → smc g m a = smc f m a + 1 := by
  intro m
  induction m with
  | zero => intro a h1 h2; omega
  | succ m ih =>
    intro a h1 h2
    show m_cnt (g a) 64 0 + smc g m (a + 1) = m_cnt (f a) 64 0 + smc f m (a + 1) + 1
    by_cases c : a = a0
    · subst c
      rw [cnt_up (f := f a) (g := g a) hf hg (fun j hj => h a j (fun q => hj q.2)) 64 0 (by omega) (by omega), smc_c m (a + 1) (fun j x y b hb => h j b (fun q => by omega))]
      omega
    · rw [ih (a + 1) (by omega) (by omega), m_cnt_congr 64 0 (fun j _ hj => h a j (fun q => c q.1))]
      omega
theorem smc_le {f : Nat → Nat → Bool} : ∀ m a, smc f m a ≤ 64 * m := by
  intro m
  induction m with
  | zero => intro a; exact Nat.le_refl _
  | succ m ih =>
    intro a
    show m_cnt (f a) 64 0 + smc f m (a + 1) ≤ _
    have := ih (a + 1)
    have := m_cnt_le (f a) 64 0
    omega
/-- how many couples there are -/
def KC (x : Nat × Int32 × (Nat → Nat → Bool) × Nat) : Prop := x.2.2.2 = smc x.2.2.1 64 0
theorem KC_stp {I : Nat → Nat → Int32} {T e l : Nat} {x : Nat × Int32 × (Nat → Nat → Bool) × Nat} (hF : FT I T) (e1 : 1 ≤ e) (eT : e ≤ T) (l1 : 1 ≤ l) (lT' : l ≤ T) (h : KC x) : KC (stp I e l x) := by
  by_cases c : rc I e l
  · have ae := (hF e e1 eT).1
    have al := (hF l l1 lT').1
    rw [stp_y c]
    unfold KC at h ⊢
    dsimp only
    by_cases cc : x.2.2.1 (aT I e) (aT I l) = true
    · rw [if_pos cc, h]
      refine smc_c 64 0 (fun j _ _ b _ => ?_)
      by_cases q : j = aT I e ∧ b = aT I l
      · rw [if_pos q, q.1, q.2]; exact cc
      · rw [if_neg q]
    · rw [if_neg cc, h]
      exact (smc_up al (by simpa using cc) (by rw [if_pos ⟨rfl, rfl⟩]) (fun a b q => by rw [if_neg q]) 64 0 (by omega) (by omega)).symm
  · rw [stp_n c]; exact h
theorem KC_inE {I : Nat → Nat → Int32} {T l : Nat} (hF : FT I T) (l1 : 1 ≤ l) (lT' : l ≤ T) : ∀ m e x, 1 ≤ e → e + m ≤ l → KC x → KC (inE I l m e x) := by
  intro m
  induction m with
  | zero => intro e x _ _ h; exact h
  | succ m ih => intro e x e1 em h; exact ih (e + 1) _ (by omega) (by omega) (KC_stp hF e1 (by omega) l1 lT' h)
theorem KC_ouL {I : Nat → Nat → Int32} {T : Nat} (hF : FT I T) : ∀ m l x, 1 ≤ l → l + m ≤ T + 1 → KC x → KC (ouL I m l x) := by
  intro m
  induction m with
  | zero => intro l x _ _ h; exact h
  | succ m ih => intro l x l1 lm h; exact ih (l + 1) _ (by omega) (by omega) (KC_inE hF l1 (by omega) (l - 1) 1 x (by omega) (by omega) h)
theorem KC_0 : KC x0 := by
  show 0 = smc (fun _ _ => false) 64 0
  have : ∀ m a, smc (fun _ _ => false) m a = 0 := by
    intro m
    induction m with
    | zero => intro a; rfl
    | succ m ih =>
      intro a
      show m_cnt (fun _ => false) 64 0 + smc (fun _ _ => false) m (a + 1) = 0
      rw [ih]
      decide
  exact (this 64 0).symm
/-- the printed row, of any fifth place -/
theorem g154_10b {d0 : Value} {x1 : Int32} {x3 : Int32} {x4 : Int32} {d5 : Value} {d6 : Value} {E : am_Ev} {I : Nat → Nat → Int32} {J : Nat → Nat → Int64} {S : Nat → Nat → Option Nat} {Q : am_Qt} (hd0 : am_isL d0 = false) (h : (x3 ≤ x4 → (Q (.inl (some (.int x1))) E I J S)) ∧ (¬ x3 ≤ x4 → (vp_in x4 64 ∧ (am_cl 155 [.long ((J 95) x4.toNatClampNeg)] E I J S (q_I fun v2 E2 I2 J2 S2 => am_ww 154 10 [d0, .int (x1 + v2), .ref 95, .int x3, .int (x4 + nI 1), .long ((J 95) x4.toNatClampNeg), am_U] [] E2 I2 J2 S2 Q))))) : am_ww 154 10 [d0, .int x1, .ref 95, .int x3, .int x4, d5, d6] [] E I J S Q := by
  refine w_st (i' := 11) (ls' := [d0, .int x1, .ref 95, .int x3, .int x4, d5, d6]) (st' := [.int x4]) (E' := E) (I' := I) (J' := J) (S' := S) am_e154 rfl rfl rfl rfl ?_
  refine w_st (i' := 12) (ls' := [d0, .int x1, .ref 95, .int x3, .int x4, d5, d6]) (st' := [.int x3, .int x4]) (E' := E) (I' := I) (J' := J) (S' := S) am_e154 rfl rfl rfl rfl ?_
  refine w_if2 am_e154 rfl rfl (fun c => ?_) (fun c => ?_)
  · replace h := h.1 (of_decide_eq_true c)
    refine w_st (i' := 25) (ls' := [d0, .int x1, .ref 95, .int x3, .int x4, d5, d6]) (st' := [.int x1]) (E' := E) (I' := I) (J' := J) (S' := S) am_e154 rfl rfl rfl rfl ?_
    exact w_ri am_e154 rfl rfl h
  · replace h := h.2 (of_decide_eq_false c)
    refine w_st (i' := 14) (ls' := [d0, .int x1, .ref 95, .int x3, .int x4, d5, d6]) (st' := [.ref 95]) (E' := E) (I' := I) (J' := J) (S' := S) am_e154 rfl rfl rfl rfl ?_
    refine w_st (i' := 15) (ls' := [d0, .int x1, .ref 95, .int x3, .int x4, d5, d6]) (st' := [.int x4, .ref 95]) (E' := E) (I' := I) (J' := J) (S' := S) am_e154 rfl rfl rfl rfl ?_
    have hf1 := h.1
    replace h := h.2
    refine w_la (k := 95) (n := 64) (jn := x4.toNatClampNeg) am_e154 rfl rfl (by decide) hf1 rfl ?_
    refine w_st (i' := 17) (ls' := [d0, .int x1, .ref 95, .int x3, .int x4, .long ((J 95) x4.toNatClampNeg), am_U]) (st' := []) (E' := E) (I' := I) (J' := J) (S' := S) am_e154 rfl rfl rfl rfl ?_
    refine w_st (i' := 18) (ls' := [d0, .int x1, .ref 95, .int x3, .int x4, .long ((J 95) x4.toNatClampNeg), am_U]) (st' := [.int x1]) (E' := E) (I' := I) (J' := J) (S' := S) am_e154 rfl rfl rfl rfl ?_
    refine w_st (i' := 19) (ls' := [d0, .int x1, .ref 95, .int x3, .int x4, .long ((J 95) x4.toNatClampNeg), am_U]) (st' := [.long ((J 95) x4.toNatClampNeg), .int x1]) (E' := E) (I' := I) (J' := J) (S' := S) am_e154 rfl rfl rfl rfl ?_
    refine w_cI am_e154 rfl rfl (as := [.long ((J 95) x4.toNatClampNeg)]) (rest := [.int x1]) rfl rfl (am_ww.mono h ?_)
    rintro _ E2 I2 J2 S2 ⟨v2, rfl, h⟩
    refine q_mkI ?_
    refine w_st (i' := 21) (ls' := [d0, .int x1, .ref 95, .int x3, .int x4, .long ((J 95) x4.toNatClampNeg), am_U]) (st' := [.int (x1 + v2)]) (E' := E2) (I' := I2) (J' := J2) (S' := S2) am_e154 rfl rfl rfl rfl ?_
    refine w_st (i' := 22) (ls' := [d0, .int (x1 + v2), .ref 95, .int x3, .int x4, .long ((J 95) x4.toNatClampNeg), am_U]) (st' := []) (E' := E2) (I' := I2) (J' := J2) (S' := S2) am_e154 rfl rfl rfl (by simp [am_step, am_sto, hd0]) ?_
    refine w_st (i' := 23) (ls' := [d0, .int (x1 + v2), .ref 95, .int x3, .int (x4 + nI 1), .long ((J 95) x4.toNatClampNeg), am_U]) (st' := []) (E' := E2) (I' := I2) (J' := J2) (S' := S2) am_e154 rfl rfl rfl rfl ?_
    refine w_st (i' := 10) (ls' := [d0, .int (x1 + v2), .ref 95, .int x3, .int (x4 + nI 1), .long ((J 95) x4.toNatClampNeg), am_U]) (st' := []) (E' := E2) (I' := I2) (J' := J2) (S' := S2) am_e154 rfl rfl rfl rfl ?_
    exact h
theorem c154 {E : am_Ev} {I : Nat → Nat → Int32} {J : Nat → Nat → Int64} {S : Nat → Nat → Option Nat} {Q : am_Qt} (h : Q (.inl (some (.int (nI (smc (fun a => bl (J 95 a)) 64 0))))) E I J S) : am_cl 154 [.ref 89] E I J S Q := by
  show am_ww 154 0 [.ref 89, am_U, am_U, am_U, am_U, am_U, am_U] [] E I J S Q
  apply g154_0
  have l : ∀ m a s (d5 d6 : Value), a + m = 64 → Q (.inl (some (.int (nI (s + smc (fun a => bl (J 95 a)) m a))))) E I J S → am_ww 154 10 [.ref 89, .int (nI s), .ref 95, .int (nI 64), .int (nI a), d5, d6] [] E I J S Q := by
    intro m
    induction m with
    | zero =>
      intro a s d5 d6 ea h
      apply g154_10b rfl
      rw [nI_leI (by omega) (by omega)]
      exact ⟨fun _ => h, fun q => absurd (by omega) q⟩
    | succ m ih =>
      intro a s d5 d6 ea h
      apply g154_10b rfl
      rw [nI_leI (by omega) (by omega), nI_clamp (by omega), nI_add]
      refine ⟨fun q => absurd q (by omega), fun _ => ⟨vp_in_nI (by omega) (by omega), c155 (q_mkI ?_)⟩⟩
      rw [nI_add]
      refine ih (a + 1) _ _ _ (by omega) ?_
      have h' : Q (.inl (some (.int (nI (s + (m_cnt (bl (J 95 a)) 64 0 + smc (fun a => bl (J 95 a)) m (a + 1))))))) E I J S := h
      rw [← Nat.add_assoc] at h'
      exact h'
  exact l 64 0 0 _ _ (by omega) (by rw [Nat.zero_add]; exact h)
/-- the reference's couples -/
def RC (I1 : Nat → Nat → Int32) (f : Nat → Nat → Bool) : Prop := ∀ a, a < 64 → ∀ b, b < 64 → I1 130 (64 * a + b) = bI (f a b)
theorem m264_42 {E : am_Ev} {S : Nat → Nat → Option Nat} {Q : am_Qt} {I : Nat → Nat → Int32} {J : Nat → Nat → Int64} {T l : Nat} {w : Int32} (hT : T ≤ 400) (hF : FT I T) (l1 : 1 ≤ l) (lT' : l ≤ T) (hB : BI I J l) : ∀ m e (I1 : Nat → Nat → Int32) x (d7 : Value), am_isL d7 = false → e + m = l → 1 ≤ e → x.1 ≤ 400 * l + e → fr I I1 [99, 129, 130] → (∀ t, 1 ≤ t → t ≤ T → I1 129 t = tc I t) → RC I1 x.2.2.1 → KC x → (∀ I' (v6 : Int32) (d7 : Value), am_isL d7 = false → (∀ k, k ≠ 130 → I' k = I1 k) → RC I' (inE I l m e x).2.2.1 → am_ww 264 36 [.ref 99, .int w, .int (nI (inE I l m e x).1), .int (nI (inE I l m e x).2.2.2), .int (inE I l m e x).2.1, .int (nI (l + 1)), .int v6, d7] [] E I' J S Q) → am_ww 264 42 [.ref 99, .int w, .int (nI x.1), .int (nI x.2.2.2), .int x.2.1, .int (nI l), .int (nI e), d7] [] E I1 J S Q := by
  obtain ⟨l2, l3, l4, l5, l6, _, l8⟩ := hF l l1 lT'
  intro m
  induction m with
  | zero =>
    intro e I1 x d7 hd7 ee e1 hx f1 t1 r1 kc h
    apply g264_42 hd7
    rw [nI_leI (by omega) (by omega), nI_add]
    exact ⟨fun _ => h I1 _ _ hd7 (fun _ _ => rfl) r1, fun q => absurd (by omega) q⟩
  | succ m ih =>
    intro e I1 x d7 hd7 ee e1 hx f1 t1 r1 kc h
    obtain ⟨s2, s3, s4, s5, s6, _, s8⟩ := hF e e1 (by omega)
    have kc' := KC_stp (x := x) hF e1 (by omega) l1 lT' kc
    have xb : x.2.2.2 ≤ 4096 := by rw [kc]; exact smc_le 64 0
    apply g264_42 hd7
    rw [nI_leI (by omega) (by omega), show nI e + nI 1 = nI (e + 1) from nI_add e 1]
    refine ⟨fun q => absurd q (by omega), fun _ => ?_⟩
    have h' : ∀ I' (v6 : Int32) (d7 : Value), am_isL d7 = false → (∀ k, k ≠ 130 → I' k = I1 k) → RC I' (inE I l m (e + 1) (stp I e l x)).2.2.1 → am_ww 264 36 [.ref 99, .int w, .int (nI (inE I l m (e + 1) (stp I e l x)).1), .int (nI (inE I l m (e + 1) (stp I e l x)).2.2.2), .int (inE I l m (e + 1) (stp I e l x)).2.1, .int (nI (l + 1)), .int v6, d7] [] E I' J S Q := h
    refine m268 hT hF e1 (by omega) lT' f1 t1 hB (fun yr => q_mkI ⟨fun q => absurd q (by decide), fun _ => ?_⟩) (fun nr => q_mkI ⟨fun _ => ?_, fun q => absurd nI_0 q⟩)
    · have ff : ∀ k, k ≠ 99 → k ≠ 129 → k ≠ 130 → I1 k = I k := fun k a b c => f1 k (by simp [a, b, c])
      rw [nI_clamp (by omega), nI_clamp (by omega), t1 l l1 lT', ff 119 (by omega) (by omega) (by omega), s4, l4, nI_mulI, nI_add]
      refine ⟨vp_in_nI (by omega) (by omega), fun w3 e3 => ⟨vp_in_nI (by omega) (by omega), fun w5 e5 => ?_⟩⟩
      subst e5
      rw [nI_clamp (by omega), r1 _ s2 _ l2, nI_add]
      refine ⟨vp_in_nI (by omega) (by omega), fun w8 e8 => ?_⟩
      rw [stp_y yr] at h' kc'
      have ek : nI x.2.2.2 + w8 = nI (if x.2.2.1 (aT I e) (aT I l) = true then x.2.2.2 else x.2.2.2 + 1) := by
        rw [e8]
        by_cases c : x.2.2.1 (aT I e) (aT I l) = true
        · rw [c, if_neg (by decide), if_pos rfl, nI_add, Nat.add_zero]
        · rw [if_neg c]
          have c' : x.2.2.1 (aT I e) (aT I l) = false := by simpa using c
          rw [c', if_pos (by decide), nI_add]
      rw [ek, e3]
      refine ih (e + 1) _ _ _ rfl (by omega) (by omega) (by show x.1 + 1 ≤ _; omega) (fun k hk => ?_) (fun t a b => ?_) (fun a ha b hb => ?_) kc' (fun I' v6 d7' hd7' q1 q2 => h' I' v6 d7' hd7' (fun k hk => by rw [q1 k hk, u_I_ne hk]) q2)
      · have hk' := hk
        simp only [List.mem_cons, List.not_mem_nil, or_false, not_or] at hk'
        rw [u_I_ne hk'.2.2]; exact f1 k hk
      · rw [u_I_ne (by decide)]; exact t1 t a b
      · rw [u_I_eq]
        show upd (I1 130) (64 * aT I e + aT I l) (nI 1) (64 * a + b) = bI (if a = aT I e ∧ b = aT I l then true else x.2.2.1 a b)
        by_cases q : a = aT I e ∧ b = aT I l
        · rw [if_pos q, q.1, q.2, upd_eq]; rfl
        · rw [if_neg q, upd_ne (by omega)]; exact r1 a ha b hb
    · rw [stp_n nr] at h'
      exact ih (e + 1) I1 x d7 hd7 (by omega) (by omega) (by omega) f1 t1 r1 kc h'
theorem m264_36 {E : am_Ev} {S : Nat → Nat → Option Nat} {Q : am_Qt} {I : Nat → Nat → Int32} {J : Nat → Nat → Int64} {T w : Nat} (hT : T ≤ 400) (hF : FT I T) (hw : w < 3) (hB : ∀ s, 1 ≤ s → s ≤ T → BI I J s) : ∀ m l (I1 : Nat → Nat → Int32) x (d6 d7 : Value), am_isL d6 = false → am_isL d7 = false → l + m = T + 1 → 1 ≤ l → x.1 ≤ 400 * l → fr I I1 [99, 129, 130] → I1 99 12 = nI T → (∀ t, 1 ≤ t → t ≤ T → I1 129 t = tc I t) → RC I1 x.2.2.1 → KC x → (∀ I', (∀ k, k ≠ 130 → I' k = I1 k) → Q (.inl (some (.int (if w = 0 then nI (ouL I m l x).1 else if w = 1 then bc32 (ouL I m l x).2.1 else nI (ouL I m l x).2.2.2)))) E I' J S) → am_ww 264 36 [.ref 99, .int (nI w), .int (nI x.1), .int (nI x.2.2.2), .int x.2.1, .int (nI l), d6, d7] [] E I1 J S Q := by
  intro m
  induction m with
  | zero =>
    intro l I1 x d6 d7 hd6 hd7 el l1 hx f1 e12 t1 r1 kc h
    apply g264_36 hd6 hd7
    rw [e12, nI_ltI (by omega) (by omega), nI_e0 (by omega), nI_eq (by omega) (by omega)]
    have h0 := h I1 (fun _ _ => rfl)
    refine ⟨fun _ => ⟨fun c => ?_, fun c => ⟨fun c1 => ?_, fun c1 => ?_⟩⟩, fun q => absurd (by omega) q⟩
    · rw [if_pos c] at h0; exact h0
    · rw [if_neg c, if_pos c1] at h0; exact c153 (q_mkI h0)
    · rw [if_neg c, if_neg c1] at h0; exact h0
  | succ m ih =>
    intro l I1 x d6 d7 hd6 hd7 el l1 hx f1 e12 t1 r1 kc h
    apply g264_36 hd6 hd7
    rw [e12, nI_ltI (by omega) (by omega)]
    refine ⟨fun q => absurd q (by omega), fun _ => ?_⟩
    refine m264_42 hT hF l1 (by omega) (hB l l1 (by omega)) (l - 1) 1 I1 x d7 hd7 (by omega) (by omega) (by omega) f1 t1 r1 kc (fun I2 v6 d7' hd7' f2 r2 => ?_)
    refine ih (l + 1) I2 _ _ _ rfl hd7' (by omega) (by omega) ?_ (fun k hk => ?_) (by rw [f2 99 (by omega)]; exact e12) (fun t a b => by rw [f2 129 (by omega)]; exact t1 t a b) r2 (KC_inE hF l1 (by omega) (l - 1) 1 x (by omega) (by omega) kc) (fun I' q => h I' (fun k hk => by rw [q k hk, f2 k hk]))
    · rw [inE_n]
      have := nc_le (P := fun e => rc I e l) (l - 1) 1
      omega
    · have hk' := hk
      simp only [List.mem_cons, List.not_mem_nil, or_false, not_or] at hk'
      rw [f2 k hk'.2.2]; exact f1 k hk
