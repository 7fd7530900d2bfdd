/-! race: the call -/
theorem k_race {E : am_Ev} {I : Nat → Nat → Int32} {J : Nat → Nat → Int64} {S : Nat → Nat → Option Nat} {Q : am_Qt} {T cu ac n d i : Nat} {x4 : Int32} {d5 d6 : Value} (hd5 : am_isL d5 = false) (hd6 : am_isL d6 = false) (hcr : CR I T cu ac n) (hfr : FRS I J T) (hx : x4 = nI i) (hi : i + 6 ≤ E.2.2.1) (hL : E.2.2.1 ≤ 3072) (h : Hz I S E T x4 Q) : am_ww 291 802 [.ref 1000000, .ref 0, .ref 99, .ref 145, .int x4, d5, d6] [] E I J S Q := by
  apply g291_802 hd5 hd6
  refine L2 hx hi hL ?_
  generalize E.2.2.2 (i + 1) = x
  generalize E.2.2.2 (i + 2) = y
  show am_ww 156 0 [.ref 0, .int x, .int y, .ref 145, am_U] [] E I J S _
  apply g156_0
  show am_ww 157 0 [.ref 0, .int x, .int y, am_U] [] E I J S _
  apply g157_0
  refine c145 hcr hfr (fun I1 J1 f1 j1 e8 hr => q_mkV ?_)
  have hcr1 : CR I1 T cu ac n := CR_e ⟨fun k hk => f1 k (by omega), by rw [f1 99 (by omega)], by rw [f1 99 (by omega)], by rw [f1 99 (by omega)]⟩ hcr
  obtain ⟨h1, h2, h3, h4, h5, h6, h7, h8, h9, h10, h11, h12, h13, h14⟩ := id hcr1
  have hT4 := h4.1.1
  have hF1 := FT_of h1 h2 h4 h11
  obtain ⟨r1, r2, r3, r4⟩ := id hr
  have hsm := sm_le I1 T hT4
  have e6 : I1 89 6 = nI (sm I1 T) := by rw [r4.1, tot]
  have frs : ∀ I' J', (∀ k, k ≠ 99 → k ≠ 129 → I' k = I1 k) → J' 95 = J1 95 → FRS I' J' T := fun I' J' f' j' => Or.inr ⟨by rw [f' 89 (by omega) (by omega)]; exact e8, RDV_c (sst_e (fun k hk => f' k (by omega) (by omega))) (fun k a b => f' k (by omega) (by omega)) j' hr⟩
  -- the reference, when both numbers may be
  have ref : ∀ (c : Int32) (E1 : am_Ev) (J2 : Nat → Nat → Int64) (j w : Nat), j < 2 ^ 31 → w < 3 → x = nI j → y = nI w → J2 95 = J1 95 → (∀ I' J' l e, E1 = E1 → (∀ k, k ≠ 99 → k ≠ 129 → I' k = I1 k) → I' 99 = upd (I 99) 3 (nI 0) → (∀ k, k ≠ 128 → J' k = J2 k) → 1 ≤ l → l ≤ T → PR I1 j l e → tl c (if w = 0 then nI e else if w = 1 then nI l else tc I1 l) x4 E1 I' J' S Q) → (∀ I' J', (∀ k, k ≠ 99 → k ≠ 129 → I' k = I1 k) → I' 99 = upd (upd (I 99) 3 (nI 0)) 3 (nI 1) → (∀ k, k ≠ 128 → J' k = J2 k) → sm I1 T ≤ j → tl c (nI 0) x4 E1 I' J' S Q) → am_cl 270 [.ref 99, .int x, .int y] E1 I1 J2 S (q_I fun v2 E2 I2 J2 S2 => tl c v2 x4 E2 I2 J2 S2 Q) := by
    intro c E1 J2 j w hj hw ex ey ej q1 q0
    subst ex ey
    show am_ww 270 0 [.ref 99, .int (nI j), .int (nI w), am_U, am_U, am_U] [] E1 I1 J2 S _
    apply g270_0
    refine ⟨fun q => absurd q (nI_pos hj), fun _ => ⟨fun q => absurd ((nI_ltI (by omega) (by omega)).mp q) (by omega), fun _ => ⟨fun q => absurd ((nI_ltI (by omega) (by omega)).mp q) (by omega), fun _ => ?_⟩⟩⟩
    have z99 : u_I I1 99 (upd (I1 99) 3 (nI 0)) 99 = upd (I 99) 3 (nI 0) := by rw [u_I_eq, f1 99 (by omega)]
    have zo : ∀ k, k ≠ 99 → u_I I1 99 (upd (I1 99) 3 (nI 0)) k = I1 k := fun k a => u_I_ne a
    generalize u_I I1 99 (upd (I1 99) 3 (nI 0)) = I2 at z99 zo ⊢
    have hcr2 : CR I2 T cu ac n := CR_e ⟨fun k hk => zo k (by omega), by rw [z99, upd_ne (by omega), f1 99 (by omega)], by rw [z99, upd_ne (by omega), f1 99 (by omega)], by rw [z99, upd_ne (by omega), f1 99 (by omega)]⟩ hcr1
    have hF2 : FT I2 T := FT_of hcr2.1 hcr2.2.1 hcr2.2.2.2.1 hcr2.2.2.2.2.2.2.2.2.2.2.1
    have ss : sst I1 I2 T := sst_e (fun k hk => zo k (by omega))
    have esm : ∀ l, l ≤ T → sm I2 l = sm I1 l := by
      intro l
      induction l with
      | zero => intro _; rfl
      | succ l ih =>
        intro hl
        show sm I2 l + cnR I2 (l + 1) = sm I1 l + cnR I1 (l + 1)
        rw [ih (by omega), cnR_c ss (by omega) hl]
    refine m265 hcr2 (fun I3 J3 f3 e99 j3 t3 b3 => q_mkV ?_)
    have f13 : ∀ k, k ≠ 99 → k ≠ 129 → I3 k = I1 k := fun k a b => by rw [f3 k (by simp [a, b]), zo k a]
    refine m270_l (I := I2) (I1 := I3) (J := J3) (T := T) (i := j) (w := w) hT4 hj hw hF2 f3 (by rw [e99]; exact hcr2.2.2.2.2.2.2.2.1.1) t3 b3 (fun l e a b hp => q_mkI ?_) (fun hle => q_mkI ?_) T 1 am_U rfl (by omega) (by omega) (Nat.zero_le _)
    · rw [tc_c ss a b]
      refine q1 I3 J3 l e rfl f13 (by rw [e99, z99]) j3 a b ?_
      obtain ⟨p1, p2, p3, p4⟩ := hp
      refine ⟨p1, p2, (rc_c ss p1 p2 b).mp p3, ?_⟩
      rw [← p4, esm (l - 1) (by omega), nc_c (P := fun e => rc I1 e l) (P' := fun e => rc I2 e l) (e - 1) 1 (fun u x y => rc_c ss x (by omega) b)]
    · refine q0 _ J3 (fun k a b => by rw [u_I_ne a]; exact f13 k a b) (by rw [u_I_eq, e99, z99]) j3 (by rw [← esm T (Nat.le_refl _)]; exact hle)
  -- refused
  have bad : (x < 0 ∨ (∃ j, j < 2 ^ 31 ∧ x = nI j ∧ sm I1 T ≤ j) ∨ ¬ (∃ w, w < 3 ∧ y = nI w)) → q_I (fun v1 E1 I1 J1 S1 => E1.2.2 = E.2.2 ∧ am_cl 270 [.ref 99, .int x, .int y] E1 I1 J1 S1 (q_I fun v2 E2 I2 J2 S2 => tl v1 v2 x4 E2 I2 J2 S2 Q)) (.inl (some (.int (nI 1)))) (E.1 + 1, E.2.1 + 6, E.2.2) I1 J1 S := by
    intro hb
    refine q_mkI ⟨rfl, ?_⟩
    have fin : ∀ (I' : Nat → Nat → Int32) (J' : Nat → Nat → Int64), (∀ k, k ≠ 99 → k ≠ 129 → I' k = I1 k) → I' 99 = upd (upd (I 99) 3 (nI 0)) 3 (nI 1) → J' 95 = J1 95 → tl (nI 1) (nI 0) x4 (E.1 + 1, E.2.1 + 6, E.2.2) I' J' S Q := fun I' J' f' e' j' => tl_bad (by omega) (by omega) (by rw [e', upd_eq]) (h _ _ _ (Or.inr rfl) (fun k hk => by rw [f' k (by omega) (by omega), f1 k (by omega)]) (fun f hf => by rw [e', upd_ne hf, upd_ne hf]) (frs I' J' f' j'))
    have gone : (x < 0 ∨ ¬ (∃ w, w < 3 ∧ y = nI w)) → am_cl 270 [.ref 99, .int x, .int y] (E.1 + 1, E.2.1 + 6, E.2.2) I1 J1 S (q_I fun v2 E2 I2 J2 S2 => tl (nI 1) v2 x4 E2 I2 J2 S2 Q) := by
      intro hg
      show am_ww 270 0 [.ref 99, .int x, .int y, am_U, am_U, am_U] [] _ I1 J1 S _
      apply g270_0
      have tb : q_I (fun v2 E2 I2 J2 S2 => tl (nI 1) v2 x4 E2 I2 J2 S2 Q) (.inl (some (.int (nI 0)))) (E.1 + 1, E.2.1 + 6, E.2.2) (u_I I1 99 (upd (upd (I1 99) 3 (nI 0)) 3 (nI 1))) J1 S := q_mkI (fin _ _ (fun k a b => u_I_ne a) (by rw [u_I_eq, f1 99 (by omega)]) rfl)
      refine ⟨fun _ => tb, fun q0 => ?_⟩
      have ny := hg.resolve_left q0
      have := tst' (x := y) (n := 3) (by omega) (A := am_cl 265 [.ref 99] (E.1 + 1, E.2.1 + 6, E.2.2) (u_I I1 99 (upd (I1 99) 3 (nI 0))) J1 S (q_V fun E1 I1 J1 S1 => am_ww 270 20 [.ref 99, .int x, .int y, .int (nI 0), .int (nI 1), am_U] [] E1 I1 J1 S1 (q_I fun v2 E2 I2 J2 S2 => tl (nI 1) v2 x4 E2 I2 J2 S2 Q))) (fun q => absurd q ny) (fun _ => tb)
      rw [nI_subI (by omega)] at this
      exact this
    rcases rng' y 3 (by omega) with ⟨w, hw, ew⟩ | ⟨ny, _⟩
    · rcases hb with hb | ⟨j, hj, ej, hle⟩ | hb
      · exact gone (Or.inl hb)
      · refine ref (nI 1) _ J1 j w hj hw ej ew rfl (fun I' J' l e _ f' e99 j' a b hp => ?_) (fun I' J' f' e99 j' _ => fin I' J' f' e99 (j' 95 (by omega)))
        exfalso
        have p := PR_lt hp
        have mo := sm_mono I1 (T - l) l
        rw [show l + (T - l) = T by omega] at mo
        omega
      · exact absurd ⟨w, hw, ew⟩ hb
    · exact gone (Or.inr ny)
  rw [e6, f1 18 (by omega)]
  have eT18 : I 18 10 = nI T := hcr.2.2.2.2.2.2.2.1.2
  rw [eT18]
  by_cases x0' : x < 0
  · have t := bad (Or.inl x0')
    exact ⟨fun _ => ⟨1, rfl, t⟩, fun q => absurd x0' q⟩
  obtain ⟨j, hj, ej⟩ := nI_of x0'
  refine ⟨fun q => absurd q x0', fun _ => ?_⟩
  rw [ej, nI_leI (by omega) hj, ← ej]
  refine ⟨fun c => ⟨1, rfl, bad (Or.inr (Or.inl ⟨j, hj, ej, c⟩))⟩, fun c => ?_⟩
  rcases rng' y 3 (by omega) with ⟨w, hw, ew⟩ | ⟨ny, hb⟩
  · rw [ew]
    refine ⟨fun q => absurd q (nI_pos (by omega)), fun _ => ⟨fun _ => ?_, fun q => absurd ((nI_leI (by omega) (by omega)).mpr (by omega)) q⟩⟩
    rw [ej]
    refine c158 (I0 := I1) hT4 r1 (by omega) (fun L L1 LT hL1 hL2 => q_mkI ?_)
    -- a race, with its later step
    have good : ∀ (v : Int32) (e : Nat), PR I1 j L e → v = (if w = 0 then nI e else if w = 1 then nI L else tc I1 L) → q_I (fun v1 E1 I1 J1 S1 => E1.2.2 = E.2.2 ∧ am_cl 270 [.ref 99, .int (nI j), .int (nI w)] E1 I1 J1 S1 (q_I fun v2 E2 I2 J2 S2 => tl v1 v2 x4 E2 I2 J2 S2 Q)) (.inl (some (.int (nI 0)))) E I1 (u_J J1 145 (vp_updL (J1 145) 0 v.toInt64)) S := by
      intro v e hp ev
      refine q_mkI ⟨rfl, ?_⟩
      rw [← ej, ← ew]
      refine ref (nI 0) E _ j w hj hw ej ew (u_J_ne (by omega)) (fun I' J' l e' _ f' e99 j' a b hp' => ?_) (fun I' J' f' e99 j' hle => absurd hle (by omega))
      obtain ⟨el, ee⟩ := PR_u hp hp'
      subst el ee
      rw [← ev]
      refine tl_ok (by rw [e99, upd_eq]) (by rw [j' 145 (by omega), u_J_eq]; exact if_pos rfl) (h _ _ _ (Or.inl rfl) (fun k hk => by rw [f' k (by omega) (by omega), f1 k (by omega)]) (fun f hf => by rw [e99, upd_ne hf]) (frs I' J' f' (by rw [j' 95 (by omega), u_J_ne (by omega)])))
    -- there is an earlier step
    have exi : ∃ e, PR I1 j L e := by
      have eL := sm_s I1 L1
      have key : ∀ m e, e + m = L → 1 ≤ e → sm I1 (L - 1) + nc (fun e => rc I1 e L) (e - 1) 1 ≤ j → ∃ e, PR I1 j L e := by
        intro m
        induction m with
        | zero =>
          intro e ee e1 hle
          exfalso
          have : cnR I1 L = nc (fun e => rc I1 e L) (e - 1) 1 := by rw [show e - 1 = L - 1 by omega]; rfl
          omega
        | succ m ih =>
          intro e ee e1 hle
          have a := nc_add (P := fun e => rc I1 e L) (e - 1) 1 1
          rw [show e - 1 + 1 = e by omega, show 1 + (e - 1) = e by omega] at a
          by_cases c : rc I1 e L
          · have a' : nc (fun e => rc I1 e L) 1 e = 1 := by
              rw [show (1 : Nat) = 0 + 1 from rfl, nc_y (P := fun e => rc I1 e L) c]; rfl
            by_cases cj : sm I1 (L - 1) + nc (fun e => rc I1 e L) (e - 1) 1 = j
            · exact ⟨e, e1, by omega, c, cj⟩
            · exact ih (e + 1) (by omega) (by omega) (by rw [Nat.add_sub_cancel, a, a']; omega)
          · have a' : nc (fun e => rc I1 e L) 1 e = 0 := by
              rw [show (1 : Nat) = 0 + 1 from rfl, nc_n (P := fun e => rc I1 e L) c]; rfl
            exact ih (e + 1) (by omega) (by omega) (by rw [Nat.add_sub_cancel, a, a']; omega)
      exact key (L - 1) 1 (by omega) (by omega) (by show sm I1 (L - 1) + 0 ≤ j; omega)
    obtain ⟨e, hp⟩ := exi
    refine ⟨fun q => absurd q (nI_nm (by omega)), fun _ => ⟨fun w1 => ?_, fun w1 => ⟨fun w0 => ?_, fun w0 => ?_⟩⟩⟩
    · have hw1 : w = 1 := by rw [nI_eq (by omega) (by omega)] at w1; exact w1
      exact W_ok (y := 156) (good _ e hp (by rw [if_neg (by omega), if_pos hw1]))
    · have hw0 : w = 0 := by rw [nI_e0 (by omega)] at w0; exact w0
      refine c159 (I0 := I1) hT4 hF1 (fun _ _ => rfl) ⟨r1, r2, r3⟩ L1 LT hL1 hL2 (fun e' hp' => q_mkI (W_ok (y := 156) (good _ e' hp' (by rw [if_pos hw0]))))
    · have hw0 : ¬ w = 0 := fun q => w0 (by rw [q]; exact nI_0)
      have hw1 : ¬ w = 1 := fun q => w1 (by rw [q])
      refine ⟨vp_in_nI (by omega) (by omega), ?_⟩
      rw [nI_clamp (by omega), r2 L L1 LT]
      exact W_ok (y := 156) (good _ e hp (by rw [if_neg hw0, if_neg hw1]))
  · have t := bad (Or.inr (Or.inr ny))
    exact ⟨fun _ => ⟨1, rfl, t⟩, fun q0 => ⟨fun q1 => (ctr_le hb q0 q1 rfl (by omega)).elim, fun _ => ⟨1, rfl, t⟩⟩⟩
