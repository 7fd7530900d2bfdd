/-! races: all pairs, one behind another -/
/-- n, the cells' bits, the couples, how many -/
noncomputable def stp (I : Nat → Nat → Int32) (e l : Nat) (x : Nat × Int32 × (Nat → Nat → Bool) × Nat) : Nat × Int32 × (Nat → Nat → Bool) × Nat := @ite _ (rc I e l) (Classical.propDecidable _) (x.1 + 1, x.2.1 ||| (nI 1 <<< (tc I l &&& 31)), (fun a b => if a = aT I e ∧ b = aT I l then true else x.2.2.1 a b), if x.2.2.1 (aT I e) (aT I l) = true then x.2.2.2 else x.2.2.2 + 1) x
noncomputable def inE (I : Nat → Nat → Int32) (l : Nat) : Nat → Nat → (Nat × Int32 × (Nat → Nat → Bool) × Nat) → Nat × Int32 × (Nat → Nat → Bool) × Nat
  | 0, _, x => x
  | m + 1, e, x => inE I l m (e + 1) (stp I e l x)
noncomputable def ouL (I : Nat → Nat → Int32) : Nat → Nat → (Nat × Int32 × (Nat → Nat → Bool) × Nat) → Nat × Int32 × (Nat → Nat → Bool) × Nat
  | 0, _, x => x
  | m + 1, l, x => ouL I m (l + 1) (inE I l (l - 1) 1 x)
def x0 : Nat × Int32 × (Nat → Nat → Bool) × Nat := (0, nI 0, (fun _ _ => false), 0)
noncomputable def nc (P : Nat → Prop) : Nat → Nat → Nat
  | 0, _ => 0
  | m + 1, e => @ite _ (P e) (Classical.propDecidable _) 1 0 + nc P m (e + 1)
theorem nc_y {P : Nat → Prop} {m e : Nat} (h : P e) : nc P (m + 1) e = 1 + nc P m (e + 1) := by
  show @ite _ (P e) (Classical.propDecidable _) 1 0 + nc P m (e + 1) = _
  rw [if_pos h]
theorem nc_n {P : Nat → Prop} {m e : Nat} (h : ¬ P e) : nc P (m + 1) e = nc P m (e + 1) := by
  show @ite _ (P e) (Classical.propDecidable _) 1 0 + nc P m (e + 1) = _
  rw [if_neg h, Nat.zero_add]
theorem nc_le {P : Nat → Prop} : ∀ m e, nc P m e ≤ m := by
  intro m
  induction m with
  | zero => intro e; exact Nat.le_refl _
  | succ m ih =>
    intro e
    have := ih (e + 1)
    by_cases c : P e
    · rw [nc_y c]; omega
    · rw [nc_n c]; omega
theorem nc_0 {P : Nat → Prop} : ∀ m e, (∀ j, e ≤ j → j < e + m → ¬ P j) → nc P m e = 0 := by
  intro m
  induction m with
  | zero => intro e _; rfl
  | succ m ih =>
    intro e h
    rw [nc_n (h e (Nat.le_refl _) (by omega))]
    exact ih (e + 1) (fun j a b => h j (by omega) (by omega))
/-- how many races has a later step -/
noncomputable def cnR (I : Nat → Nat → Int32) (l : Nat) : Nat := nc (fun e => rc I e l) (l - 1) 1
theorem stp_y {I : Nat → Nat → Int32} {e l : Nat} {x : Nat × Int32 × (Nat → Nat → Bool) × Nat} (h : rc I e l) : stp I e l x = (x.1 + 1, x.2.1 ||| (nI 1 <<< (tc I l &&& 31)), (fun a b => if a = aT I e ∧ b = aT I l then true else x.2.2.1 a b), if x.2.2.1 (aT I e) (aT I l) = true then x.2.2.2 else x.2.2.2 + 1) := if_pos h
theorem stp_n {I : Nat → Nat → Int32} {e l : Nat} {x : Nat × Int32 × (Nat → Nat → Bool) × Nat} (h : ¬ rc I e l) : stp I e l x = x := if_neg h
theorem inE_n {I : Nat → Nat → Int32} {l : Nat} : ∀ m e x, (inE I l m e x).1 = x.1 + nc (fun e => rc I e l) m e := by
  intro m
  induction m with
  | zero => intro e x; rfl
  | succ m ih =>
    intro e x
    show (inE I l m (e + 1) (stp I e l x)).1 = _
    rw [ih]
    by_cases c : rc I e l
    · rw [stp_y c, nc_y (P := fun e => rc I e l) c]
      show x.1 + 1 + _ = _
      omega
    · rw [stp_n c, nc_n (P := fun e => rc I e l) c]
theorem inE_id {I : Nat → Nat → Int32} {l : Nat} (h : tc I l = -1) : ∀ m e x, inE I l m e x = x := by
  intro m
  induction m with
  | zero => intro e x; rfl
  | succ m ih =>
    intro e x
    show inE I l m (e + 1) (stp I e l x) = x
    rw [stp_n (fun q => q.2.1 h)]
    exact ih _ _
/-- what the class has of it -/
def CS (I1 : Nat → Nat → Int32) (J : Nat → Nat → Int64) (x : Nat × Int32 × (Nat → Nat → Bool) × Nat) : Prop := I1 89 6 = nI x.1 ∧ I1 89 7 = x.2.1 ∧ ∀ a, a < 64 → ∀ b, b < 64 → bl (J 95 a) b = x.2.2.1 a b
theorem c152 {E : am_Ev} {J : Nat → Nat → Int64} {S : Nat → Nat → Option Nat} {Q : am_Qt} {I I1 : Nat → Nat → Int32} {T e l : Nat} (hT : T ≤ 400) (hF : FT I T) (e1 : 1 ≤ e) (el : e < l) (lT' : l ≤ T) (ff : ∀ k, k < 88 ∨ 95 < k → I1 k = I k) (hl : ¬ tc I l = -1) (t1 : ∀ t, 1 ≤ t → t ≤ l → I1 91 t = tc I t) (v1 : ∀ i, i < 4 → I1 92 (4 * l + i) = nI (V I l i)) (h1 : rc I e l → Q (.inl (some (.int (nI 1)))) E I1 J S) (h0 : ¬ rc I e l → Q (.inl (some (.int (nI 0)))) E I1 J S) : am_cl 152 [.ref 89, .int (nI e), .int (nI l), .ref 12, .ref 18] E I1 J S Q := by
  show am_ww 152 0 [.ref 89, .int (nI e), .int (nI l), .ref 12, .ref 18, am_U, am_U] [] E I1 J S Q
  obtain ⟨s2, s3, s4, s5, s6, _, s8⟩ := hF e e1 (by omega)
  obtain ⟨l2, l3, l4, l5, l6, _, l8⟩ := hF l (by omega) lT'
  have st : ∀ t, p_op I (aT I t) → ((I 13 (aT I t) = nI 8) = (I 106 (aT I t) = nI 2)) := by
    intro t ⟨o, o1, o2, o3, _⟩
    rw [o2, o3, nI_eq (by omega) (by omega), nI_eq (by omega) (by omega)]
    exact propext (by omega)
  have ec : aT I e / 16 = cT I e := rfl
  apply g152_0
  rw [nI_clamp (by omega), nI_clamp (by omega), t1 e e1 (by omega), t1 l (by omega) (Nat.le_refl _), ff 33 (by omega), s5, l5, nI_clamp (by omega), nI_clamp (by omega), ff 13 (by omega), nI_divI (by omega) (by omega), ec, nI_mulI, nI_add, nI_clamp (by omega), show l * 4 + cT I e = 4 * l + cT I e by omega, v1 _ s3]
  have vl := V_le (I := I) (t := l) (i := cT I e) (by omega)
  refine ⟨vp_in_nI (by omega) (by omega), vp_in_nI (by omega) (by omega), fun c => ⟨vp_in_nI (by omega) (by omega), ⟨fun _ => trivial, fun _ => ⟨vp_in_nI (by omega) (by omega), trivial⟩⟩, fun w6 e6 => ?_⟩, fun c => h0 (fun q => c q.1)⟩
  have hst : (w6 = 0) ↔ ¬ (I 106 (aT I e) = nI 2 ∨ I 106 (aT I l) = nI 2) := by
    rw [e6]
    by_cases a : I 106 (aT I e) = nI 2
    · rw [if_pos ((st e s8).mpr a)]
      exact ⟨fun q => absurd q (by decide), fun q => absurd (Or.inl a) q⟩
    · rw [if_neg (fun q => a ((st e s8).mp q))]
      by_cases b : I 106 (aT I l) = nI 2
      · rw [if_pos ((st l l8).mpr b)]
        exact ⟨fun q => absurd q (by decide), fun q => absurd (Or.inr b) q⟩
      · rw [if_neg (fun q => b ((st l l8).mp q))]
        exact ⟨fun _ q => q.elim a b, fun _ => nI_0⟩
  refine ⟨fun c6 => h0 (fun q => hst.mp c6 q.2.2.1), fun c6 => ⟨vp_in_nI (by omega) (by omega), ?_⟩⟩
  have hst' : I 106 (aT I e) = nI 2 ∨ I 106 (aT I l) = nI 2 := Classical.not_not.mp (fun q => c6 (hst.mpr q))
  rw [nI_leI (by omega) (by omega)]
  exact ⟨fun y => h0 (fun q => by have := q.2.2.2; omega), fun y => h1 ⟨c, hl, hst', by omega⟩⟩
/-- the frame of countAt -/
def fc (I1 I' : Nat → Nat → Int32) : Prop := ∀ k, k ≠ 89 → k ≠ 90 → I' k = I1 k
theorem c151 {E : am_Ev} {J : Nat → Nat → Int64} {S : Nat → Nat → Option Nat} {Q : am_Qt} {I : Nat → Nat → Int32} {T l : Nat} (hT : T ≤ 400) (hF : FT I T) (l1 : 1 ≤ l) (lT' : l ≤ T) (hl : ¬ tc I l = -1) {I0 : Nat → Nat → Int32} (ff : ∀ k, k < 88 ∨ 95 < k → I0 k = I k) (t1 : ∀ t, 1 ≤ t → t ≤ l → I0 91 t = tc I t) (v1 : ∀ i, i < 4 → I0 92 (4 * l + i) = nI (V I l i)) {x : Nat × Int32 × (Nat → Nat → Bool) × Nat} (hx : x.1 ≤ 400 * l) (hS : CS I0 J x) (h90 : I0 90 l = nI 0) (h : ∀ I' J', fc I0 I' → (∀ f, f ≠ 6 → f ≠ 7 → I' 89 f = I0 89 f) → (∀ k, k ≠ 95 → J' k = J k) → CS I' J' (inE I l (l - 1) 1 x) → I' 90 = upd (I0 90) l (nI (cnR I l)) → Q (.inl none) E I' J' S) : am_cl 151 [.ref 89, .int (nI l), .ref 12, .ref 18] E I0 J S Q := by
  show am_ww 151 0 [.ref 89, .int (nI l), .ref 12, .ref 18, am_U] [] E I0 J S Q
  apply g151_0
  obtain ⟨l2, l3, l4, l5, l6, _, l8⟩ := hF l l1 lT'
  have lp : ∀ m e (I1 : Nat → Nat → Int32) (J1 : Nat → Nat → Int64) y c, e + m = l → 1 ≤ e → c ≤ e → y.1 ≤ 400 * l + e → fc I0 I1 → (∀ f, f ≠ 6 → f ≠ 7 → I1 89 f = I0 89 f) → (∀ k, k ≠ 95 → J1 k = J k) → CS I1 J1 y → I1 90 = upd (I0 90) l (nI c) → (∀ I' J', fc I0 I' → (∀ f, f ≠ 6 → f ≠ 7 → I' 89 f = I0 89 f) → (∀ k, k ≠ 95 → J' k = J k) → CS I' J' (inE I l m e y) → I' 90 = upd (I0 90) l (nI (c + nc (fun e => rc I e l) m e)) → Q (.inl none) E I' J' S) → am_ww 151 2 [.ref 89, .int (nI l), .ref 12, .ref 18, .int (nI e)] [] E I1 J1 S Q := by
    intro m
    induction m with
    | zero =>
      intro e I1 J1 y c ee e1 ce hy f1 g1 j1 s1 e90 h
      apply g151_2
      rw [nI_leI (by omega) (by omega)]
      exact ⟨fun _ => h I1 J1 f1 g1 j1 s1 e90, fun q => absurd (by omega) q⟩
    | succ m ih =>
      intro e I1 J1 y c ee e1 ce hy f1 g1 j1 s1 e90 h
      obtain ⟨s2, s3, s4, s5, s6, _, s8⟩ := hF e e1 (by omega)
      apply g151_2
      rw [nI_leI (by omega) (by omega), show nI e + nI 1 = nI (e + 1) from nI_add e 1]
      refine ⟨fun q => absurd q (by omega), fun _ => ?_⟩
      refine c152 hT hF e1 (by omega) lT' (fun k hk => by rw [f1 k (by omega) (by omega)]; exact ff k hk) hl (fun t a b => by rw [f1 91 (by omega) (by omega)]; exact t1 t a b) (fun i hi => by rw [f1 92 (by omega) (by omega)]; exact v1 i hi) (fun yr => q_mkI ⟨fun q => absurd q (by decide), fun _ => ?_⟩) (fun nr => q_mkI ⟨fun _ => ?_, fun q => absurd nI_0 q⟩)
      · rw [nI_clamp (by omega), nI_clamp (by omega), f1 33 (by omega) (by omega), ff 33 (by omega), s5, l5, nI_clamp (by omega), e90, upd_eq, upd_upd, f1 91 (by omega) (by omega), t1 l l1 (Nat.le_refl _), s1.1, s1.2.1, show nI c + nI 1 = nI (c + 1) from nI_add c 1, show nI y.1 + nI 1 = nI (y.1 + 1) from nI_add y.1 1]
        refine ⟨vp_in_nI (by omega) (by omega), vp_in_nI (by omega) (by omega), vp_in_nI (by omega) (by omega), ?_⟩
        have h' : ∀ I' J', fc I0 I' → (∀ f, f ≠ 6 → f ≠ 7 → I' 89 f = I0 89 f) → (∀ k, k ≠ 95 → J' k = J k) → CS I' J' (inE I l m (e + 1) (stp I e l y)) → I' 90 = upd (I0 90) l (nI (c + nc (fun e => rc I e l) (m + 1) e)) → Q (.inl none) E I' J' S := h
        rw [stp_y yr, nc_y (P := fun e => rc I e l) yr, ← Nat.add_assoc] at h'
        refine ih (e + 1) _ _ _ (c + 1) (by omega) (by omega) (by omega) (by show y.1 + 1 ≤ _; omega) (fun k a b => ?_) (fun f a b => ?_) (fun k hk => ?_) ⟨?_, ?_, fun a ha b hb => ?_⟩ ?_ h'
        · rw [u_I_ne a, u_I_ne b]; exact f1 k a b
        · rw [u_I_eq, upd_ne b, upd_ne a]; exact g1 f a b
        · rw [u_J_ne hk]; exact j1 k hk
        · rw [u_I_eq, upd_ne (by omega), upd_eq]
        · rw [u_I_eq, upd_eq]
        · rw [u_J_eq]
          show bl (vp_updL (J1 95) (aT I e) (J1 95 (aT I e) ||| (lN 1 <<< ((nI (aT I l)).toInt64 &&& 63))) a) b = (if a = aT I e ∧ b = aT I l then true else y.2.2.1 a b)
          unfold vp_updL
          by_cases ca : a = aT I e
          · rw [if_pos ca, bl_or, bl_bit _ l2 hb, ca, s1.2.2 _ s2 b hb]
            by_cases cb : b = aT I l
            · rw [if_pos ⟨rfl, cb⟩, decide_eq_true cb, Bool.or_true]
            · rw [if_neg (fun q => cb q.2), decide_eq_false cb, Bool.or_false]
          · rw [if_neg ca, if_neg (fun q => ca q.1)]
            exact s1.2.2 a ha b hb
        · rw [u_I_ne (by decide), u_I_eq]
      · have h' : ∀ I' J', fc I0 I' → (∀ f, f ≠ 6 → f ≠ 7 → I' 89 f = I0 89 f) → (∀ k, k ≠ 95 → J' k = J k) → CS I' J' (inE I l m (e + 1) (stp I e l y)) → I' 90 = upd (I0 90) l (nI (c + nc (fun e => rc I e l) (m + 1) e)) → Q (.inl none) E I' J' S := h
        rw [stp_n nr, nc_n (P := fun e => rc I e l) nr] at h'
        exact ih (e + 1) I1 J1 y c (by omega) (by omega) (by omega) (by omega) f1 g1 j1 s1 e90 h'
  refine lp (l - 1) 1 I0 J x 0 (by omega) (by omega) (by omega) (by omega) (fun _ _ _ => rfl) (fun _ _ _ => rfl) (fun _ _ => rfl) hS (by rw [upd_id h90]) ?_
  rw [Nat.zero_add]
  exact h
