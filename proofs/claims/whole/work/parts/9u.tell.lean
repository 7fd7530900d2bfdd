/-! races: the reference tells what is ahead -/
theorem m267 {E : am_Ev} {I : Nat → Nat → Int32} {J : Nat → Nat → Int64} {S : Nat → Nat → Option Nat} {Q : am_Qt} {o s : Nat} (ho : o ≤ 400) (hs : s ≤ 400) (hos : o ≠ s) (h : ∀ J', (∀ k, k ≠ 128 → J' k = J k) → (∀ j, j < 7 * s ∨ 7 * s + 7 ≤ j → J' 128 j = J 128 j) → (∀ k, k < 7 → ∀ b, b < 64 → bl (J' 128 (7 * s + k)) b = (bl (J 128 (7 * s + k)) b || bl (J 128 (7 * o + k)) b || decide (64 * k + b = o))) → Q (.inl none) E I J' S) : am_cl 267 [.ref 99, .int (nI o), .int (nI s)] E I J S Q := by
  show am_ww 267 0 [.ref 99, .int (nI o), .int (nI s), am_U] [] E I J S Q
  apply g267_0
  have l : ∀ m k (J1 : Nat → Nat → Int64), k + m = 7 → (∀ k, k ≠ 128 → J1 k = J k) → (∀ j, j < 7 * s ∨ 7 * s + k ≤ j → J1 128 j = J 128 j) → (∀ k', k' < k → J1 128 (7 * s + k') = (J 128 (7 * s + k') ||| J 128 (7 * o + k'))) → am_ww 267 2 [.ref 99, .int (nI o), .int (nI s), .int (nI k)] [] E I J1 S Q := by
    intro m
    induction m with
    | zero =>
      intro k J1 ek f1 g1 w1
      have : k = 7 := by omega
      subst this
      apply g267_2
      refine ⟨fun _ => ?_, fun q => absurd (Int32.le_refl _) q⟩
      rw [nI_remI (by omega) (by omega), nI_divI (by omega) (by omega), nI_mulI, nI_add, nI_clamp (by omega)]
      refine ⟨vp_in_nI (by omega) (by omega), h _ (fun k hk => by rw [u_J_ne hk]; exact f1 k hk) (fun j hj => ?_) (fun k hk b hb => ?_)⟩
      · rw [u_J_eq]
        unfold vp_updL
        rw [if_neg (by omega)]
        exact g1 j (by omega)
      · rw [u_J_eq]
        unfold vp_updL
        by_cases c : 7 * s + k = 7 * s + o / 64
        · have ek : k = o / 64 := by omega
          rw [if_pos c, bl_or, ← c, w1 k hk, bl_or, bl_bit (o % 64) (by omega) hb]
          congr 1
          exact decide_eq_decide.mpr (by omega)
        · rw [if_neg c, w1 k hk, bl_or, decide_eq_false (by omega), Bool.or_false]
    | succ m ih =>
      intro k J1 ek f1 g1 w1
      apply g267_2
      rw [nI_leI (by omega) (by omega), nI_mulI, nI_mulI, nI_add, nI_add, nI_add, nI_clamp (by omega), nI_clamp (by omega)]
      refine ⟨fun q => absurd q (by omega), fun _ => ⟨vp_in_nI (by omega) (by omega), vp_in_nI (by omega) (by omega), ih (k + 1) _ (by omega) (fun k hk => by rw [u_J_ne hk]; exact f1 k hk) (fun j hj => ?_) (fun k' hk' => ?_)⟩⟩
      · rw [u_J_eq]
        unfold vp_updL
        rw [if_neg (by omega)]
        exact g1 j (by omega)
      · rw [u_J_eq]
        unfold vp_updL
        by_cases c : k' = k
        · subst c
          rw [if_pos rfl, g1 (7 * s + k') (by omega), g1 (7 * o + k') (by omega)]
        · rw [if_neg (by omega)]
          exact w1 k' (by omega)
  exact l 7 0 J (by omega) (fun _ _ => rfl) (fun _ _ => rfl) (fun k' hk' => absurd hk' (by omega))
/-- the steps that were done: their numbers -/
def FT (I : Nat → Nat → Int32) (T : Nat) : Prop := ∀ t, 1 ≤ t → t ≤ T → aT I t < 64 ∧ cT I t < 4 ∧ I 119 t = nI (aT I t) ∧ I 33 t = nI (aT I t) ∧ I 118 t = nI (cT I t) ∧ (∃ n', p_ok I (aT I t) n') ∧ p_op I (aT I t)
theorem FT_of {I : Nat → Nat → Int32} {T n : Nat} (hp : p_in I) (hcl : p_cl I) (hR : RW I T n) (hd : ∀ t, 1 ≤ t → t ≤ T → dn I t) : FT I T := by
  intro t a b
  obtain ⟨C, p, n', d1, d2, d3, d4, d5, d6, d7, d8, d9⟩ := own_step hp hcl hR (hd t a b) a b
  have ea : aT I t = 16 * C + p := by unfold aT; rw [d5, nI_clamp (by omega)]
  have ec : cT I t = C := by unfold cT; rw [ea]; omega
  rw [ec, ea]
  exact ⟨by omega, d2, d5, d4, d6, ⟨n', d7⟩, d8⟩
def BI (I : Nat → Nat → Int32) (J : Nat → Nat → Int64) (s : Nat) : Prop := ∀ e, 1 ≤ e → e < 448 → (bl (J 128 (7 * s + e / 64)) (e % 64) = true ↔ e < s ∧ e ≤ V I s (cT I e))
def tc (I : Nat → Nat → Int32) (t : Nat) : Int32 := ct I (aT I t)
/-- in the middle of a step's own list -/
def BM (I : Nat → Nat → Int32) (J : Nat → Nat → Int64) (s o : Nat) : Prop := ∀ e, 1 ≤ e → e < 448 → (bl (J 128 (7 * s + e / 64)) (e % 64) = true ↔ ∃ o', 1 ≤ o' ∧ o' < o ∧ bef I o' s ∧ e ≤ o' ∧ e ≤ V I o' (cT I e))
theorem BI_e {I : Nat → Nat → Int32} {J J' : Nat → Nat → Int64} {s : Nat} (h : ∀ k, k < 7 → J' 128 (7 * s + k) = J 128 (7 * s + k)) (hb : BI I J s) : BI I J' s := by
  intro e a b
  rw [h (e / 64) (by omega)]
  exact hb e a b
theorem m265_56 {E : am_Ev} {S : Nat → Nat → Option Nat} {Q : am_Qt} {I I1 : Nat → Nat → Int32} {T s : Nat} (hT : T ≤ 400) (hF : FT I T) (s1 : 1 ≤ s) (sT : s ≤ T) (f1 : fr I I1 [99, 129]) : ∀ m o (J : Nat → Nat → Int64) (d4 : Value), am_isL d4 = false → o + m = s → 1 ≤ o → BM I J s o → (∀ s', 1 ≤ s' → s' < s → BI I J s') → (∀ J' (x3 : Int32) (d4 : Value), am_isL d4 = false → (∀ k, k ≠ 128 → J' k = J k) → BM I J' s s → (∀ s', 1 ≤ s' → s' < s → BI I J' s') → am_ww 265 2 [.ref 99, .int (nI (s + 1)), .int (nI (aT I s)), .int x3, d4] [] E I1 J' S Q) → am_ww 265 56 [.ref 99, .int (nI s), .int (nI (aT I s)), .int (nI o), d4] [] E I1 J S Q := by
  obtain ⟨s2, s3, s4, s5, s6, ⟨sn', s7⟩, s8⟩ := hF s s1 sT
  have ff : ∀ k, k ≠ 99 → k ≠ 129 → I1 k = I k := fun k a b => f1 k (by simp [a, b])
  intro m
  induction m with
  | zero =>
    intro o J d4 hd4 eo o1 hM hB h
    apply g265_56 hd4
    rw [nI_leI (by omega) (by omega), nI_add]
    have : o = s := by omega
    subst this
    exact ⟨fun _ => h J _ _ hd4 (fun _ _ => rfl) hM hB, fun q => absurd (by omega) q⟩
  | succ m ih =>
    intro o J d4 hd4 eo o1 hM hB h
    obtain ⟨o2, o3, o4, o5, o6, ⟨on', o7⟩, o8⟩ := hF o o1 (by omega)
    apply g265_56 hd4
    rw [nI_leI (by omega) (by omega), show nI s + nI 1 = nI (s + 1) from nI_add s 1, show nI o + nI 1 = nI (o + 1) from nI_add o 1, nI_clamp (by omega), nI_clamp (by omega), nI_clamp (by omega), ff 118 (by omega) (by omega), o6, s6, nI_eq (by omega) (by omega), ff 119 (by omega) (by omega), o4, nI_clamp (by omega), ff 106 (by omega) (by omega), ff 107 (by omega) (by omega), ff 117 (by omega) (by omega)]
    refine ⟨fun q => absurd q (by omega), fun _ => ⟨vp_in_nI (by omega) (by omega), vp_in_nI (by omega) (by omega), ?_⟩⟩
    -- it is before
    have yes : bef I o s → am_cl 267 [.ref 99, .int (nI o), .int (nI s)] E I1 J S (q_V fun E3 I3 J3 S3 => am_ww 265 56 [.ref 99, .int (nI s), .int (nI (aT I s)), .int (nI (o + 1)), .int (nI 1)] [] E3 I3 J3 S3 Q) := by
      intro hb
      refine m267 (by omega) (by omega) (by omega) (fun J' g1 g2 g3 => q_mkV ?_)
      refine ih (o + 1) J' _ rfl (by omega) (by omega) (fun e e1 e2 => ?_) (fun s' a b => BI_e (fun k hk => g2 _ (by omega)) (hB s' a b)) (fun J'' x3 d4' hd4' q1 q2 q3 => h J'' x3 d4' hd4' (fun k hk => by rw [q1 k hk, g1 k hk]) q2 q3)
      rw [g3 (e / 64) (by omega) (e % 64) (by omega), Bool.or_eq_true, Bool.or_eq_true, hM e e1 e2, hB o o1 (by omega) e e1 e2, decide_eq_true_eq]
      constructor
      · rintro ((⟨o', a, b, c, d, f⟩ | ⟨a, b⟩) | a)
        · exact ⟨o', a, by omega, c, d, f⟩
        · exact ⟨o, o1, by omega, hb, by omega, b⟩
        · have : e = o := by omega
          subst this
          exact ⟨e, o1, by omega, hb, Nat.le_refl _, by rw [V_self e1]; exact Nat.le_refl _⟩
      · rintro ⟨o', a, b, c, d, f⟩
        by_cases co : o' = o
        · subst co
          by_cases ce : e = o'
          · exact Or.inr (by omega)
          · exact Or.inl (Or.inr ⟨by omega, f⟩)
        · exact Or.inl (Or.inl ⟨o', a, by omega, c, d, f⟩)
    have no : ∀ v : Int32, ¬ bef I o s → am_ww 265 56 [.ref 99, .int (nI s), .int (nI (aT I s)), .int (nI (o + 1)), .int v] [] E I1 J S Q := by
      intro v hb
      refine ih (o + 1) J _ rfl (by omega) (by omega) (fun e e1 e2 => ?_) hB h
      rw [hM e e1 e2]
      constructor
      · rintro ⟨o', a, b, c, d, f⟩
        exact ⟨o', a, by omega, c, d, f⟩
      · rintro ⟨o', a, b, c, d, f⟩
        by_cases co : o' = o
        · subst co
          exact absurd c hb
        · exact ⟨o', a, by omega, c, d, f⟩
    refine ⟨fun c => yes (Or.inl c), fun c => ⟨vp_in_nI (by omega) (by omega), fun c7 => ⟨vp_in_nI (by omega) (by omega), fun c8 => ⟨fun cl => ?_, fun cl => ?_⟩, fun c8 => ?_⟩, fun c7 => ?_⟩⟩
    · intro w6 e6
      obtain ⟨so, so1, so2, so3, so4, _⟩ := s7
      have so7 : so = 7 := by rw [so2, nI_eq (by omega) (by omega)] at c7; exact c7
      have v := so4 (by omega) (by omega) (by omega)
      have b := vb v
      have el : lT I o = lT I s := by unfold lT; rw [cl]
      have els : lT I s = (I 107 (aT I s)).toNatClampNeg := rfl
      rw [vc v, nI_add] at e6
      subst e6
      rw [nI_subI o1, nI_mulI, nI_add, nI_clamp (by omega)]
      refine ⟨vp_in_nI (by omega) (by omega), fun w8 e8 => ?_⟩
      have ew : w8 = rt I (o - 1) (40 + lT I o) := by rw [el, els, rt_k (by omega)]; exact e8
      subst ew
      exact ⟨fun y => yes (Or.inr ⟨c7, ⟨c8, y⟩, el⟩), fun y => no _ (fun q => by
        rcases q with q | ⟨_, q, _⟩
        · exact c q
        · exact y q.2)⟩
    · refine no _ (fun q => ?_)
      rcases q with q | ⟨_, q, ql⟩
      · exact c q
      · obtain ⟨so, so1, so2, so3, so4, _⟩ := s7
        have so7 : so = 7 := by rw [so2, nI_eq (by omega) (by omega)] at c7; exact c7
        obtain ⟨oo, oo1, oo2, oo3, oo4, _⟩ := o7
        have oo8 : oo = 8 := by rw [oo2, nI_eq (by omega) (by omega)] at c8; exact c8
        apply cl
        rw [vc (so4 (by omega) (by omega) (by omega)), vc (oo4 (by omega) (by omega) (by omega))]
        exact congrArg nI ql
    · exact no _ (fun q => by
        rcases q with q | ⟨_, q, _⟩
        · exact c q
        · exact c8 q.1)
    · exact no _ (fun q => by
        rcases q with q | ⟨q, _⟩
        · exact c q
        · exact c7 q)
theorem m265_l {E : am_Ev} {S : Nat → Nat → Option Nat} {Q : am_Qt} {I : Nat → Nat → Int32} {T : Nat} (hT : T ≤ 400) (eT : I 99 12 = nI T) (hF : FT I T) (hM : ∀ s, s ≤ T → MO I s) : ∀ m s (I1 : Nat → Nat → Int32) (J : Nat → Nat → Int64) (d2 d3 d4 : Value), am_isL d2 = false → am_isL d3 = false → am_isL d4 = false → s + m = T + 1 → 1 ≤ s → fr I I1 [99, 129] → I1 99 12 = I 99 12 → (∀ t, 1 ≤ t → t < s → I1 129 t = tc I t) → (∀ s', 1 ≤ s' → s' < s → BI I J s') → (∀ I' J', fr I I' [99, 129] → I' 99 = I1 99 → (∀ k, k ≠ 128 → J' k = J k) → (∀ t, 1 ≤ t → t ≤ T → I' 129 t = tc I t) → (∀ s', 1 ≤ s' → s' ≤ T → BI I J' s') → Q (.inl none) E I' J' S) → am_ww 265 2 [.ref 99, .int (nI s), d2, d3, d4] [] E I1 J S Q := by
  intro m
  induction m with
  | zero =>
    intro s I1 J d2 d3 d4 hd2 hd3 hd4 es s1 f1 e1 t1 hB h
    apply g265_2 hd2 hd3 hd4
    rw [e1, eT, nI_ltI (by omega) (by omega)]
    exact ⟨fun _ => h I1 J f1 rfl (fun _ _ => rfl) (fun t a b => t1 t a (by omega)) (fun s' a b => hB s' a (by omega)), fun q => absurd (by omega) q⟩
  | succ m ih =>
    intro s I1 J d2 d3 d4 hd2 hd3 hd4 es s1 f1 e1 t1 hB h
    apply g265_2 hd2 hd3 hd4
    rw [e1, eT, nI_ltI (by omega) (by omega)]
    refine ⟨fun q => absurd q (by omega), fun _ => ?_⟩
    obtain ⟨s2, s3, s4, s5, s6, ⟨sn', s7⟩, s8⟩ := hF s s1 (by omega)
    have ff : ∀ k, k ≠ 99 → k ≠ 129 → I1 k = I k := fun k a b => f1 k (by simp [a, b])
    -- the words are cleared
    have cl : ∀ n k (J1 : Nat → Nat → Int64), k + n = 7 → (∀ k, k ≠ 128 → J1 k = J k) → (∀ s', 1 ≤ s' → s' < s → BI I J1 s') → (∀ k', k' < k → J1 128 (7 * s + k') = lN 0) → am_ww 265 8 [.ref 99, .int (nI s), .int (nI k), d3, d4] [] E I1 J1 S Q := by
      intro n
      induction n with
      | zero =>
        intro k J1 ek g1 b1 z1
        apply g265_8 hd3 hd4
        rw [nI_leI (by omega) (by omega), nI_clamp (by omega), ff 119 (by omega) (by omega), s4, nI_clamp (by omega), ff 106 (by omega) (by omega), ff 107 (by omega) (by omega), ff 108 (by omega) (by omega)]
        refine ⟨fun _ => ⟨vp_in_nI (by omega) (by omega), vp_in_nI (by omega) (by omega), fun w5 e5 => ?_⟩, fun q => absurd (by omega) q⟩
        have ew : w5 = tc I s := by
          rw [e5]
          unfold tc ct
          rfl
        subst ew
        have z99 : u_I I1 129 (upd (I1 129) s (tc I s)) 99 = I1 99 := u_I_ne (by decide)
        have zt : ∀ t, 1 ≤ t → t < s + 1 → u_I I1 129 (upd (I1 129) s (tc I s)) 129 t = tc I t := fun t a b => by
          rw [u_I_eq]
          by_cases c : t = s
          · rw [c, upd_eq]
          · rw [upd_ne c]; exact t1 t a (by omega)
        have zf : fr I (u_I I1 129 (upd (I1 129) s (tc I s))) [99, 129] := fun k hk => by
          have hk' := hk
          simp only [List.mem_cons, List.not_mem_nil, or_false, not_or] at hk'
          rw [u_I_ne hk'.2]; exact f1 k hk
        generalize u_I I1 129 (upd (I1 129) s (tc I s)) = I2 at z99 zt zf ⊢
        refine m265_56 (I := I) (T := T) hT hF s1 (by omega) zf (s - 1) 1 J1 d4 hd4 (by omega) (by omega) (fun e e1 e2 => ?_) b1 (fun J' x3 d4' hd4' q1 q2 q3 => ?_)
        · rw [z1 _ (by omega), bl_0]
          exact ⟨fun q => (nomatch q), fun ⟨o', a, b, _⟩ => absurd b (by omega)⟩
        · refine ih (s + 1) I2 J' _ _ _ rfl rfl hd4' (by omega) (by omega) zf (by rw [z99]; exact e1) zt (fun s' a b => ?_) (fun I' J'' a1 a2 a3 a4 a5 => h I' J'' a1 (by rw [a2, z99]) (fun k hk => by rw [a3 k hk, q1 k hk, g1 k hk]) a4 a5)
          by_cases c : s' = s
          · subst c
            obtain ⟨r, rfl⟩ : ∃ r, s' = r + 1 := ⟨s' - 1, by omega⟩
            intro e e1 e2
            rw [q2 e e1 e2]
            exact ahead_iff (hM r (by omega)) e1
          · exact q3 s' a (by omega)
      | succ n ihn =>
        intro k J1 ek g1 b1 z1
        apply g265_8 hd3 hd4
        rw [nI_leI (by omega) (by omega), nI_mulI, nI_add, nI_add, nI_clamp (by omega), nI_clamp (by omega)]
        refine ⟨fun q => absurd q (by omega), fun _ => ⟨vp_in_nI (by omega) (by omega), ihn (k + 1) _ (by omega) (fun k hk => by rw [u_J_ne hk]; exact g1 k hk) (fun s' a b => BI_e (fun k' hk' => ?_) (b1 s' a b)) (fun k' hk' => ?_)⟩⟩
        · rw [u_J_eq]
          unfold vp_updL
          rw [if_neg (by omega)]
        · rw [u_J_eq]
          unfold vp_updL
          by_cases c : k' = k
          · rw [c, if_pos rfl]
          · rw [if_neg (by omega)]
            exact z1 k' (by omega)
    exact cl 7 0 J (by omega) (fun _ _ => rfl) hB (fun k' hk' => absurd hk' (by omega))
/-- two steps race -/
def rc (I : Nat → Nat → Int32) (e l : Nat) : Prop := tc I e = tc I l ∧ ¬ tc I l = -1 ∧ (I 106 (aT I e) = nI 2 ∨ I 106 (aT I l) = nI 2) ∧ V I l (cT I e) < e
theorem m268 {E : am_Ev} {S : Nat → Nat → Option Nat} {Q : am_Qt} {I I1 : Nat → Nat → Int32} {J : Nat → Nat → Int64} {T e l : Nat} (hT : T ≤ 400) (hF : FT I T) (e1 : 1 ≤ e) (el : e < l) (lT' : l ≤ T) (f1 : fr I I1 [99, 129, 130]) (t1 : ∀ t, 1 ≤ t → t ≤ T → I1 129 t = tc I t) (hB : BI I J l) (h1 : rc I e l → Q (.inl (some (.int (nI 1)))) E I1 J S) (h0 : ¬ rc I e l → Q (.inl (some (.int (nI 0)))) E I1 J S) : am_cl 268 [.ref 99, .int (nI e), .int (nI l)] E I1 J S Q := by
  show am_ww 268 0 [.ref 99, .int (nI e), .int (nI l), am_U] [] E I1 J S Q
  obtain ⟨s2, s3, s4, s5, s6, _, _⟩ := hF e e1 (by omega)
  obtain ⟨l2, l3, l4, l5, l6, _, _⟩ := hF l (by omega) lT'
  have ff : ∀ k, k ≠ 99 → k ≠ 129 → k ≠ 130 → I1 k = I k := fun k a b c => f1 k (by simp [a, b, c])
  apply g268_0
  rw [nI_clamp (by omega), nI_clamp (by omega), ff 119 (by omega) (by omega) (by omega), s4, l4, nI_clamp (by omega), nI_clamp (by omega), ff 106 (by omega) (by omega) (by omega), t1 e e1 (by omega), t1 l (by omega) lT', ff 118 (by omega) (by omega) (by omega), s6, l6, nI_remI (by omega) (by omega), nI_divI (by omega) (by omega), nI_mulI, nI_add, nI_clamp (by omega)]
  refine ⟨vp_in_nI (by omega) (by omega), vp_in_nI (by omega) (by omega), ⟨fun _ => trivial, fun _ => ⟨vp_in_nI (by omega) (by omega), vp_in_nI (by omega) (by omega), trivial⟩⟩, fun w5 e5 => ?_⟩
  refine ⟨fun c => h0 (fun q => q.2.1 (q.1 ▸ c)), fun c => ⟨vp_in_nI (by omega) (by omega), fun cc => ⟨fun cd => h0 (fun q => ?_), fun cd => ?_⟩, fun cc => h0 (fun q => cc q.1)⟩⟩
  · rw [nI_eq (by omega) (by omega)] at cd
    have := q.2.2.2
    rw [cd, V_self (by omega)] at this
    omega
  · have hst : (w5 = 0) ↔ ¬ (I 106 (aT I e) = nI 2 ∨ I 106 (aT I l) = nI 2) := by
      rw [e5]
      by_cases a : I 106 (aT I e) = nI 2
      · rw [if_pos a]
        exact ⟨fun q => absurd q (by decide), fun q => absurd (Or.inl a) q⟩
      · rw [if_neg a]
        by_cases b : I 106 (aT I l) = nI 2
        · rw [if_pos b]
          exact ⟨fun q => absurd q (by decide), fun q => absurd (Or.inr b) q⟩
        · rw [if_neg b]
          exact ⟨fun _ q => q.elim a b, fun _ => nI_0⟩
    refine ⟨fun c5 => h0 (fun q => hst.mp c5 q.2.2.1), fun c5 => ⟨vp_in_nI (by omega) (by omega), ?_⟩⟩
    have hst' : I 106 (aT I e) = nI 2 ∨ I 106 (aT I l) = nI 2 := Classical.not_not.mp (fun q => c5 (hst.mpr q))
    have bt := (bl_test (e % 64) (by omega) (J 128 (7 * l + e / 64))).trans (hB e e1 (by omega))
    refine ⟨fun y => h0 (fun q => ?_), fun y => h1 ⟨cc, fun z => c (cc.trans z), hst', ?_⟩⟩
    · have := (bt.mp y).2
      have := q.2.2.2
      omega
    · rcases Nat.lt_or_ge (V I l (cT I e)) e with z | z
      · exact z
      · exact absurd (bt.mpr ⟨el, z⟩) y
