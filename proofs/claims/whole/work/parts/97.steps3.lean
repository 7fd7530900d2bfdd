/-! steps: the loops -/
def kk (ac : Nat) : Nat := if ac < 40 then ac else 39
def kx (f : Nat → Int32) (ac : Nat) (x : Int32) : Nat → Int32 := if ac < 40 then upd f ac x else upd (shf f 39) 39 x
theorem kx_kept {f : Nat → Int32} {ac k off : Nat} {x : Int32} (hk : ac < 40 ∧ k = ac ∧ off = 0 ∨ ac = 40 ∧ k = 39 ∧ off = 1) : kept f (kx f ac x) k off x ∧ k = kk ac := by
  unfold kx kk
  rcases hk with ⟨a, b, c⟩ | ⟨a, b, c⟩
  · subst b c
    rw [if_pos a, if_pos a]
    exact ⟨kept_0, rfl⟩
  · subst a b c
    rw [if_neg (by omega), if_neg (by omega)]
    exact ⟨kept_s, rfl⟩
theorem m235x {E : am_Ev} {I : Nat → Nat → Int32} {J : Nat → Nat → Int64} {S : Nat → Nat → Option Nat} {Q : am_Qt} {ac : Nat} {p1 : Int32} (ea : I 99 43 = nI ac) (ha : ac ≤ 40) (h : ∀ I', I' 126 = kx (I 126) ac p1 → I' 127 = kx (I 127) ac (I 99 12) → I' 99 = upd (I 99) 43 (nI (kk ac + 1)) → fr I I' [99, 126, 127] → Q (.inl none) E I' J S) : am_cl 235 [.ref 99, .int p1] E I J S Q := by
  show am_ww 235 0 [.ref 99, .int p1, am_U] [] E I J S Q
  apply g235_0
  rw [ea, nI_eq (by omega) (by omega)]
  refine ⟨fun c => ?_, fun c => ?_⟩
  · subst c
    have k40 : kk 40 = 39 := rfl
    have x40 : ∀ (f : Nat → Int32) x, kx f 40 x = upd (shf f 39) 39 x := fun f x => if_neg (by omega)
    rw [nI_subI (by omega)]
    have l : ∀ n k, k + n = 39 → am_ww 235 12 [.ref 99, .int p1, .int (nI k)] [] E (u_I (u_I (u_I I 99 (upd (I 99) 43 (nI 39))) 126 (shf (I 126) k)) 127 (shf (I 127) k)) J S Q := by
      intro n
      induction n with
      | zero =>
        intro k ek
        have : k = 39 := by omega
        subst this
        apply g235_12
        have e99 : u_I (u_I (u_I I 99 (upd (I 99) 43 (nI 39))) 126 (shf (I 126) 39)) 127 (shf (I 127) 39) 99 = upd (I 99) 43 (nI 39) := by rw [u_I_ne (by decide), u_I_ne (by decide), u_I_eq]
        have e126 : u_I (u_I (u_I I 99 (upd (I 99) 43 (nI 39))) 126 (shf (I 126) 39)) 127 (shf (I 127) 39) 126 = shf (I 126) 39 := by rw [u_I_ne (by decide), u_I_eq]
        have e127 : u_I (u_I (u_I I 99 (upd (I 99) 43 (nI 39))) 126 (shf (I 126) 39)) 127 (shf (I 127) 39) 127 = shf (I 127) 39 := u_I_eq
        have ff : fr I (u_I (u_I (u_I I 99 (upd (I 99) 43 (nI 39))) 126 (shf (I 126) 39)) 127 (shf (I 127) 39)) [127, 126, 99] := fr_up (fr_up fr_u)
        generalize u_I (u_I (u_I I 99 (upd (I 99) 43 (nI 39))) 126 (shf (I 126) 39)) 127 (shf (I 127) 39) = I1 at e99 e126 e127 ff ⊢
        have e4 : I1 99 43 = nI 39 := by rw [e99, upd_eq]
        have e12 : I1 99 12 = I 99 12 := by rw [e99, upd_ne (by omega)]
        rw [e4]
        refine ⟨fun _ => ?_, fun q => absurd (Int32.le_refl _) q⟩
        apply g235_38 rfl
        rw [e4, e12]
        simp (disch := omega) only [Nat.reduceEqDiff, reduceIte, nI_mulI, nI_add, nI_clamp, nI_ltI, nI_leI, nI_eq, nI_e0, nI_n0, vt, forall_eq, true_and, and_true, true_implies, forall_const, not_true_eq_false, not_false_eq_true, false_implies, implies_true]
        refine h _ ?_ ?_ ?_ ?_
        · rw [u_I_ne (by decide), u_I_ne (by decide), u_I_eq, e126, x40]
        · rw [u_I_ne (by decide), u_I_eq, e127, x40]
        · rw [u_I_eq, e99, upd_upd, k40]
        · exact fr_le (fr_up (fr_up (fr_up ff))) (by simp)
      | succ n ih =>
        intro k ek
        apply g235_12
        have e4 : u_I (u_I (u_I I 99 (upd (I 99) 43 (nI 39))) 126 (shf (I 126) k)) 127 (shf (I 127) k) 99 43 = nI 39 := by rw [u_I_ne (by decide), u_I_ne (by decide), u_I_eq, upd_eq]
        have e126 : u_I (u_I (u_I I 99 (upd (I 99) 43 (nI 39))) 126 (shf (I 126) k)) 127 (shf (I 127) k) 126 = shf (I 126) k := by rw [u_I_ne (by decide), u_I_eq]
        have e127 : u_I (u_I (u_I I 99 (upd (I 99) 43 (nI 39))) 126 (shf (I 126) k)) 127 (shf (I 127) k) 127 = shf (I 127) k := u_I_eq
        rw [e4, e126, e127]
        simp (disch := omega) only [Nat.reduceEqDiff, reduceIte, nI_mulI, nI_add, nI_clamp, nI_ltI, nI_leI, nI_eq, nI_e0, nI_n0, vt, forall_eq, true_and, and_true, true_implies, forall_const, not_true_eq_false, not_false_eq_true, false_implies, implies_true, uI_1, shf_s]
        exact ⟨fun q => absurd q (by omega), fun _ => ih (k + 1) (by omega)⟩
    have := l 39 0 (by omega)
    have z1 : u_I I 99 (upd (I 99) 43 (nI 39)) 126 = I 126 := u_I_ne (by decide)
    have z2 : u_I (u_I I 99 (upd (I 99) 43 (nI 39))) 126 (u_I I 99 (upd (I 99) 43 (nI 39)) 126) 127 = I 127 := by rw [u_I_ne (by decide), u_I_ne (by decide)]
    rw [shf_0, shf_0, ← z2, u_I_id, ← z1, u_I_id, u_I_id] at this
    exact this
  · have ha' : ac < 40 := by omega
    have k40 : kk ac = ac := if_pos ha'
    have x40 : ∀ (f : Nat → Int32) x, kx f ac x = upd f ac x := fun f x => if_pos ha'
    apply g235_38 rfl
    rw [ea]
    simp (disch := omega) only [Nat.reduceEqDiff, reduceIte, nI_mulI, nI_add, nI_clamp, nI_ltI, nI_leI, nI_eq, nI_e0, nI_n0, vt, forall_eq, true_and, and_true, true_implies, forall_const, not_true_eq_false, not_false_eq_true, false_implies, implies_true]
    refine h _ ?_ ?_ ?_ ?_
    · rw [u_I_ne (by decide), u_I_ne (by decide), u_I_eq, x40]
    · rw [u_I_ne (by decide), u_I_eq, x40]
    · rw [u_I_eq, k40]
    · exact fr_le (fr_up (fr_up fr_u)) (by simp)
theorem m217x {E : am_Ev} {I : Nat → Nat → Int32} {J : Nat → Nat → Int64} {S : Nat → Nat → Option Nat} {Q : am_Qt} {t : Nat} (ht : t ≤ 400) (h : Q (.inl none) E (u_I I 116 (cpk (I 116) (fun j => I 117 (51 * t + j)) 0 51)) J S) : am_cl 217 [.ref 99, .int (nI t)] E I J S Q := by
  show am_ww 217 0 [.ref 99, .int (nI t), am_U] [] E I J S Q
  apply g217_0
  have l : ∀ m k, k + m = 51 → am_ww 217 2 [.ref 99, .int (nI t), .int (nI k)] [] E (u_I I 116 (cpk (I 116) (fun j => I 117 (51 * t + j)) 0 k)) J S Q := by
    intro m
    induction m with
    | zero =>
      intro k e
      have : k = 51 := by omega
      subst this
      apply g217_2
      exact ⟨fun _ => h, fun q => absurd (Int32.le_refl _) q⟩
    | succ m ih =>
      intro k e
      apply g217_2
      have e117 : u_I I 116 (cpk (I 116) (fun j => I 117 (51 * t + j)) 0 k) 117 = I 117 := u_I_ne (by decide)
      have es := cpk_s (f := I 116) (g := fun j => I 117 (51 * t + j)) (o := 0) (n := k)
      rw [Nat.zero_add] at es
      simp (disch := omega) only [Nat.reduceEqDiff, reduceIte, nI_mulI, nI_add, nI_clamp, nI_ltI, nI_leI, nI_eq, nI_e0, nI_n0, vt, forall_eq, true_and, and_true, true_implies, forall_const, not_true_eq_false, not_false_eq_true, false_implies, implies_true, uI_0, u_I_eq, e117, es]
      exact ⟨fun q => absurd q (by omega), fun _ => ih (k + 1) (by omega)⟩
  have := l 51 0 (by omega)
  rw [cpk_0, u_I_id] at this
  exact this
theorem e51_cpk {f : Nat → Int32} {I : Nat → Nat → Int32} {t : Nat} : e51 (cpk f (fun j => I 117 (51 * t + j)) 0 51) (rt I t) := by
  intro j hj
  have := cpk_in (f := f) (g := fun j => I 117 (51 * t + j)) (o := 0) (n := 51) hj
  rw [Nat.zero_add] at this
  rw [this, rt_k hj]
theorem git_o {q k : Nat} {G : Nat → Nat → Int32} (h : k < 99 ∨ 99 < k ∧ k < 116 ∨ 122 < k) : ∀ j, git q j G k = G k := by
  intro j
  induction j with
  | zero => rfl
  | succ j ih =>
    cases e : gnx q (git q j G) with
    | none =>
      show (match gnx q (git q j G) with | some s => gst (git q j G) s | none => git q j G) k = _
      rw [e]
      exact ih
    | some s => rw [git_s e, gst_o h]; exact ih
theorem git_99 {q f : Nat} {G : Nat → Nat → Int32} (h : f ≠ 12 ∧ f ≠ 39 ∧ f ≠ 40) : ∀ j, git q j G 99 f = G 99 f := by
  intro j
  induction j with
  | zero => rfl
  | succ j ih =>
    cases e : gnx q (git q j G) with
    | none =>
      show (match gnx q (git q j G) with | some s => gst (git q j G) s | none => git q j G) 99 f = _
      rw [e]
      exact ih
    | some s => rw [git_s e, gst_99, upd_ne h.1, upd_ne h.2.2, upd_ne h.2.1]; exact ih
theorem CR_19 {I I' : Nat → Nat → Int32} {T cu ac n : Nat} (hcr : CR I T cu ac n) (h : ∀ k, k ≠ 19 → I' k = I k) (h1 : I' 19 1 = I 19 1) (h2 : I' 19 2 = I 19 2) : CR I' T cu ac n := by
  refine CR_b ⟨fun k hk => h k (by omega), fun f _ _ => by rw [h 18 (by omega)], ⟨h1, h2, by rw [h 34 (by omega)], by rw [h 99 (by omega)], by rw [h 99 (by omega)], by rw [h 99 (by omega)]⟩, fun k hk j _ => by rw [h k (by omega)], fun k hk j _ => by rw [h k (by omega)], fun k hk j _ => by rw [h k (by omega)], fun k hk j _ => by rw [h k (by omega)], fun k hk j _ => by rw [h k (by omega)], fun j _ => by rw [h 110 (by omega)], fun j _ => by rw [h 117 (by omega)]⟩ hcr (rm_e hcr.2.2.2.2.2.2.2.2.2.1.1 (fun k a b => h k (by omega)))
def okj (q : Nat) (G0 : Nat → Nat → Int32) (T0 j : Nat) : Prop := r_ok G0 (git q j G0 116) ∧ (∃ n, n ≤ T0 + j ∧ git q j G0 116 47 = nI n) ∧ git q j G0 99 12 = nI (T0 + j)
/-- the class's loop; the reference's heap goes along in mind -/
theorem c21_l {E : am_Ev} {J : Nat → Nat → Int64} {S : Nat → Nat → Option Nat} {Q : am_Qt} {I0 G0 : Nat → Nat → Int32} {T0 cu ac q many : Nat} {d2 : Value} (hd2 : am_isL d2 = false) (hq : 0 < q) (hq9 : q < 10) (eq : I0 103 0 = nI q) (hmany : T0 + many ≤ 400) (hG : ∀ k, 103 ≤ k ∧ k < 111 ∨ k = 123 ∨ k = 124 → G0 k = I0 k) (hst : ∃ j, ac = j + 1 ∧ G0 126 j = -1)
    (cont : ∀ k C n, k ≤ many → CR (mg C (git q k G0)) (T0 + k) cu ac n → (k = many ∨ gnx q (git q k G0) = none) → (∀ i, i < k → ¬ gnx q (git q i G0) = none) → (∀ i, i ≤ k → okj q G0 T0 i) → (∀ k, k < 18 ∨ 26 < k ∧ k < 29 ∨ 33 < k ∧ k < 60 ∨ 67 < k → k ≠ 89 → C k = I0 k) → rm C 61 (m_first I0 (I0 103 1)) → (C 60 1 = nI 0 ∧ C 60 2 = nI 0 ∧ C 60 3 = nI 0 ∧ C 60 4 = -1) → C 89 8 = nI 0 → Q (.inl (some (.int (nI k)))) E C J S) :
    ∀ m j (C : Nat → Nat → Int32) n, j + m = many → (∀ k, k < 18 ∨ 26 < k ∧ k < 29 ∨ 33 < k → C k = I0 k) → CR (mg C (git q j G0)) (T0 + j) cu ac n → e51 (git q j G0 116) (rt (git q j G0) (T0 + j)) → (∀ i, i < j → ¬ gnx q (git q i G0) = none) → (∀ i, i ≤ j → okj q G0 T0 i) → am_ww 21 59 [.ref 0, .int (nI many), d2, .int (nI T0), .int (nI j)] [] E C J S Q := by
  -- the end
  have fin : ∀ j (C : Nat → Nat → Int32) n, j ≤ many → (∀ k, k < 18 ∨ 26 < k ∧ k < 29 ∨ 33 < k → C k = I0 k) → CR (mg C (git q j G0)) (T0 + j) cu ac n → (j = many ∨ gnx q (git q j G0) = none) → (∀ i, i < j → ¬ gnx q (git q i G0) = none) → (∀ i, i ≤ j → okj q G0 T0 i) → am_cl 41 [.ref 0] E C J S (q_V fun E1 I1 J1 S1 => Q (.inl (some (.int (((I1 18) 10) - nI T0)))) E1 I1 J1 S1) := by
    intro j C n hj hC hcr hend hgo hok
    have hc := hcr.2.1.2.2.1
    refine c41w (fun k hk => ?_) (fun C1 m1 b1 e89 f1 _ => q_mkV ?_)
    · have := hc k hk
      rw [mg_lo (by omega), mg_hi (by omega), git_o (by omega), hG 104 (by omega)] at this
      rw [this, hC 104 (by omega)]
    · have e18 : C1 18 10 = nI (T0 + j) := by
        rw [f1 18 (by omega) (by omega)]
        have := hcr.2.2.2.2.2.2.2.1.2
        rw [mg_lo (by omega)] at this
        exact this
      rw [e18, nI_subI (by omega), show T0 + j - T0 = j by omega]
      refine cont j C1 n hj (CR_e ⟨fun k hk => ?_, ?_, ?_, ?_⟩ hcr) hend hgo hok (fun k a b => ?_) ?_ b1 e89
      · by_cases c : k < 99
        · rw [mg_lo c, mg_lo c, f1 k (by omega) (by omega)]
        · rw [mg_hi (by omega), mg_hi (by omega)]
      · rw [mg_hi (by omega), mg_hi (by omega)]
      · rw [mg_hi (by omega), mg_hi (by omega)]
      · rw [mg_hi (by omega), mg_hi (by omega)]
      · rw [f1 k (by omega) b, hC k (by omega)]
      · have : m_first C (C 103 1) = m_first I0 (I0 103 1) := by
          funext k
          unfold m_first
          rw [hC 104 (by omega), hC 103 (by omega)]
        rw [← this]
        exact m1
  intro m
  induction m with
  | zero =>
    intro j C n ej hC hcr he hgo hok
    apply g21_59 hd2
    rw [nI_leI (by omega) (by omega)]
    exact ⟨fun _ => fin j C n (by omega) hC hcr (Or.inl (by omega)) hgo hok, fun q => absurd (by omega) q⟩
  | succ m ih =>
    intro j C n ej hC hcr he hgo hok
    apply g21_59 hd2
    rw [nI_leI (by omega) (by omega)]
    refine ⟨fun q => absurd q (by omega), fun _ => ?_⟩
    have hcr' := hcr
    obtain ⟨h1, h2, h3, h4, h5, h6, h7, h8, h9, h10, h11, h12, h13, h14⟩ := hcr'
    generalize eM : mg C (git q j G0) = M at *
    have Mlo : ∀ k, k < 99 → M k = C k := fun k hk => by rw [← eM, mg_lo hk]
    have Mhi : ∀ k, 99 ≤ k → M k = git q j G0 k := fun k hk => by rw [← eM, mg_hi hk]
    have MC : ∀ k, k < 99 ∨ 103 ≤ k ∧ k < 111 ∨ k = 123 ∨ k = 124 → C k = M k := by
      intro k hk
      by_cases c : k < 99
      · exact (Mlo k c).symm
      · rw [Mhi k (by omega), git_o (by omega), hG k (by omega), hC k (by omega)]
    have hpe : p_eq M C := fun k a b => MC k (by omega)
    have hpq : p_q M C := ⟨fun k a b => MC k (by omega), hpe⟩
    have hR := h4.2.1 (T0 + j) (Nat.le_refl _)
    have eR : rt (git q j G0) = rt M := rt_e (Mhi 117 (by omega)).symm
    rw [eR] at he
    have hrr : r_ok M (git q j G0 116) := r_ok_c h1 hR.1 (fun k hk => (he k (by omega)).symm)
    obtain ⟨pt, p1, p2, p3⟩ := h3.2.1
    have e17 : ∀ k, k < 4 → C 17 k = M 103 k := fun k hk => by rw [MC 17 (by omega)]; exact h2.2.2.2 k hk
    have epre : m_pre C (C 124) q (git q j G0 116) = m_pre M (M 124) q (git q j G0 116) := by rw [m_pre_e hpe, MC 124 (by omega)]
    have egnx : gnx q (git q j G0) = m_pre M (M 124) q (git q j G0 116) := by
      rw [← gnx_mg (C := C), eM]
      unfold gnx
      rw [Mhi 116 (by omega)]
    have h47 : git q j G0 116 47 = nI n := by rw [he 47 (by omega)]; exact h4.2.2.2.1
    refine c29 (r := git q j G0 116) (q := q) (pt := pt) (T := T0 + j) (n := n) ((p_in_e hpe).mpr h1) ((p_cl_e hpq).mpr h2) ((r_ok_e hpe).mpr hrr) (rm_c (rm_e h10.1 (fun k a b => MC k (by omega))) (fun k hk => (he k (by omega)).symm)) ?_ ?_ ((gq_e (fun k hk => MC k (by omega))).mpr h6) hq hq9 ?_ p1 p2 ?_ ?_ (by omega) ?_ h47 h4.1.2 (fun en => q_mkI ⟨fun _ => ?_, fun q => absurd nI_0 q⟩) (fun s C' es m1 l1 d1 a1 a2 a3 a4 a5 a6 f1 => q_mkI ⟨fun q => absurd q (by decide), fun _ => ?_⟩)
    · rw [MC 19 (by omega), h10.2.1, he 45 (by omega)]
    · rw [MC 19 (by omega), h10.2.2, he 46 (by omega)]
    · rw [e17 0 (by omega), Mhi 103 (by omega), git_o (by omega), hG 103 (by omega)]; exact eq
    · rw [e17 2 (by omega)]; exact p3
    · rw [MC 18 (by omega)]; exact h8.2
    · rw [MC 18 (by omega)]; exact h5.1
    · -- no thread can go
      refine fin j _ n (by omega) (fun k hk => by rw [u_I_ne (by omega)]; exact hC k hk) (CR_19 hcr (fun k hk => ?_) ?_ ?_) (Or.inr (by rw [egnx, ← epre]; exact en)) hgo hok
      · by_cases c : k < 99
        · rw [mg_lo c, u_I_ne hk, Mlo k c]
        · rw [mg_hi (by omega), Mhi k (by omega)]
      · rw [mg_lo (by omega), u_I_eq, upd_ne (by omega), Mlo 19 (by omega)]
      · rw [mg_lo (by omega), u_I_eq, upd_ne (by omega), Mlo 19 (by omega)]
    · -- one step on
      rw [epre] at es
      have egs : gnx q (git q j G0) = some s := by rw [egnx]; exact es
      have est : m_st C (C 123) s = m_st M (M 123) s := by rw [m_st_e hpe, MC 123 (by omega)]
      have hpg : p_eq M (git q j G0) := fun k a b => (Mhi k (by omega)).symm
      have esg : m_st (git q j G0) (git q j G0 123) s = m_st M (M 123) s := by rw [m_st_e hpg, ← Mhi 123 (by omega)]
      rw [est] at m1 l1 d1 a6
      have g12 : git q j G0 99 12 = nI (T0 + j) := by rw [← Mhi 99 (by omega)]; exact h8.1
      have c12 : (git q j G0 99 12).toNatClampNeg + 1 = T0 + j + 1 := by rw [g12, nI_clamp (by omega)]
      have eg := git_s egs
      obtain ⟨n', hcr1, hnew⟩ := CR_live (M := M) (M' := mg C' (git q (j + 1) G0)) (r := git q j G0 116) (q := q) hcr (by omega) he es (by
          obtain ⟨i, i1, i2⟩ := hst
          exact ⟨i, i1, by rw [Mhi 126 (by omega), git_o (by omega)]; exact i2⟩) (rm_e m1 (fun k a b => mg_lo (by omega))) (by rw [mg_lo (by omega)]; exact l1) (by rw [mg_lo (by omega)]; exact d1) (by rw [mg_lo (by omega), a1, MC 29 (by omega)]) (by rw [mg_lo (by omega), a2, MC 30 (by omega)]) (by rw [mg_lo (by omega), a3, MC 31 (by omega)]) (by rw [mg_lo (by omega), a4, MC 18 (by omega)]) (by rw [mg_lo (by omega), a5, MC 33 (by omega)]) (by rw [mg_lo (by omega), a6, MC 32 (by omega), MC 103 (by omega), p3, nI_clamp (by omega)])
        (by rw [mg_hi (by omega), eg, gst_99, upd_eq, g12, nI_add]) (by rw [mg_hi (by omega), eg, gst_99, upd_ne (by omega), upd_ne (by omega), upd_ne (by omega), Mhi 99 (by omega)]) (by rw [mg_hi (by omega), eg, gst_99, upd_ne (by omega), upd_ne (by omega), upd_ne (by omega), Mhi 99 (by omega)]) (by rw [mg_hi (by omega), eg, gst_117, c12, esg, Mhi 117 (by omega)]) (by rw [mg_hi (by omega), eg, gst_118, c12, Mhi 118 (by omega)]) (by rw [mg_hi (by omega), eg, gst_119, c12, Mhi 119 (by omega)]) (by rw [mg_hi (by omega), eg, gst_120, Mhi 120 (by omega)]) (by rw [mg_hi (by omega), eg, gst_121, Mhi 121 (by omega)]) (by rw [mg_hi (by omega), eg, gst_122, Mhi 122 (by omega)])
        (fun k hk => by
          by_cases c : k < 99
          · rw [mg_lo c, f1 k (by omega), MC k (by omega)]
          · rw [mg_hi (by omega), eg, gst_o (by omega), Mhi k (by omega)])
      have e116 : git q (j + 1) G0 116 = m_st M (M 123) s := by rw [eg, gst_116, esg]
      have er1 : rt (mg C' (git q (j + 1) G0)) = rt (git q (j + 1) G0) := rt_e (mg_hi (by omega))
      rw [nI_add]
      refine ih (j + 1) C' n' (by omega) (fun k hk => by rw [f1 k (by omega), hC k hk]) hcr1 ?_ (fun i hi => ?_) (fun i hi => ?_)
      · rw [e116, ← er1]
        exact hnew
      · by_cases c : i = j
        · subst c
          rw [egs]
          exact fun q => nomatch q
        · exact hgo i (by omega)
      · by_cases c : i = j + 1
        · subst c
          have hR1 := hcr1.2.2.2.1
          have hpe1 : p_eq (mg C' (git q (j + 1) G0)) G0 := fun k a b => by rw [mg_hi (by omega), git_o (by omega)]
          refine ⟨?_, ⟨n', hR1.1.2, ?_⟩, ?_⟩
          · rw [e116]
            exact (r_ok_e hpe1).mpr (r_ok_c hcr1.1 (hR1.2.1 _ (Nat.le_refl _)).1 (fun k hk => (hnew k (by omega)).symm))
          · rw [e116, hnew 47 (by omega)]
            exact hR1.2.2.2.1
          · have := hcr1.2.2.2.2.2.2.2.1.1
            rw [mg_hi (by omega)] at this
            exact this
        · exact hok i (by omega)
