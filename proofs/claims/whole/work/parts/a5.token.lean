/-! the class's token -/
theorem uL_uL {f : Nat → Int64} {k : Nat} {x y : Int64} : vp_updL (vp_updL f k x) k y = vp_updL f k y := by
  funext j
  unfold vp_updL
  by_cases h : j = k
  · rw [if_pos h, if_pos h]
  · rw [if_neg h, if_neg h, if_neg h]
theorem uL_eq {f : Nat → Int64} {k : Nat} {x : Int64} : vp_updL f k x k = x := if_pos rfl
theorem uL_ne {f : Nat → Int64} {k j : Nat} {x : Int64} (h : j ≠ k) : vp_updL f k x j = f j := if_neg h
/-- a name, as the class makes it -/
def nmv (c : Nat → Nat) (b : Nat) : Nat → Int64
  | 0 => lN 0
  | k + 1 => (nmv c b k <<< ((nI 5).toInt64 &&& 63)) ||| (((nI (c (b + k)) - nI 97) + nI 1).toInt64)
theorem c65 {E : am_Ev} {I : Nat → Nat → Int32} {J : Nat → Nat → Int64} {S : Nat → Nat → Option Nat} {Q : am_Qt} {c : Nat → Nat} {n b : Nat} (ht : txc I c n) (hb : I 1 4 = nI b) (hbn : b < n) (h : ∀ v, Wd c b (scn (isL c) n b) v → Q (.inl none) E (u_I I 1 (upd (upd (upd (I 1) 6 (nI 2)) 5 (nI (scn (isL c) n b))) 8 v)) (u_J J 1 (vp_updL (J 1) 9 (nmv c b (scn (isL c) n b - b)))) S) : am_cl 65 [.ref 1, .int (nI n)] E I J S Q := by
  have hn := ht.1
  show am_ww 65 0 [.ref 1, .int (nI n)] [] E I J S Q
  apply g65_0
  rw [hb]
  obtain ⟨s1, s2, s3, s4⟩ := scn_ge (P := isL c) (n := n) (n - b) b rfl
  have s2 := s2 (by omega)
  -- the end of it
  have fin : ∀ Q' : am_Qt, (∀ v, Wd c b (scn (isL c) n b) v → Q' (.inl (some (.int v))) E (u_I I 1 (upd (upd (I 1) 6 (nI 2)) 5 (nI (scn (isL c) n b)))) (u_J J 1 (vp_updL (J 1) 9 (nmv c b (scn (isL c) n b - b)))) S) → am_cl 66 [.ref 1] E (u_I I 1 (upd (upd (I 1) 6 (nI 2)) 5 (nI (scn (isL c) n b)))) (u_J J 1 (vp_updL (J 1) 9 (nmv c b (scn (isL c) n b - b)))) S Q' := by
    intro Q' hQ
    refine c66 (c := c) (n := n) (b := b) (e := scn (isL c) n b) ⟨hn, fun k hk => ?_⟩ ?_ ?_ s1 s2 s3 hQ
    · rw [u_I_ne (by decide)]; exact ht.2 k hk
    · rw [u_I_eq, upd_ne (by decide), upd_ne (by decide)]; exact hb
    · rw [u_I_eq, upd_eq]
  have key : ∀ m q, n - q = m → b ≤ q → q ≤ n → scn (isL c) n q = scn (isL c) n b → am_ww 65 10 [.ref 1, .int (nI n)] [] E (u_I I 1 (upd (upd (I 1) 6 (nI 2)) 5 (nI q))) (u_J J 1 (vp_updL (J 1) 9 (nmv c b (q - b)))) S Q := by
    intro m
    induction m with
    | zero =>
      intro q e hq hqn es
      rw [scn_e (by omega)] at es
      subst es
      apply g65_10
      rw [u_I_eq, upd_eq, nI_leI (by omega) (by omega)]
      refine ⟨fun _ => ?_, fun z => absurd (by omega) z⟩
      refine fin _ (fun v hv => q_mkI ?_)
      rw [uI_0]
      exact h v hv
    | succ m ih =>
      intro q e hq hqn es
      obtain ⟨t1, t2⟩ := ht.2 q (by omega)
      have out : isL c q = false → ∀ Q' : am_Qt, (∀ v, Wd c b (scn (isL c) n b) v → Q' (.inl (some (.int v))) E (u_I I 1 (upd (upd (I 1) 6 (nI 2)) 5 (nI q))) (u_J J 1 (vp_updL (J 1) 9 (nmv c b (q - b)))) S) → am_cl 66 [.ref 1] E (u_I I 1 (upd (upd (I 1) 6 (nI 2)) 5 (nI q))) (u_J J 1 (vp_updL (J 1) 9 (nmv c b (q - b)))) S Q' := by
        intro z
        rw [scn_n z] at es
        rw [es]
        exact fin
      have out2 : isL c q = false → am_cl 66 [.ref 1] E (u_I I 1 (upd (upd (I 1) 6 (nI 2)) 5 (nI q))) (u_J J 1 (vp_updL (J 1) 9 (nmv c b (q - b)))) S (q_I fun v4 E4 I4 J4 S4 => Q (.inl none) E4 (u_I I4 1 (upd (I4 1) 8 v4)) J4 S4) := by
        intro z
        refine out z _ (fun v hv => q_mkI ?_)
        rw [scn_n z] at es
        rw [uI_0, u_I_eq]
        rw [← es] at h hv
        exact h v hv
      apply g65_10
      rw [u_I_eq, upd_eq, nI_leI (by omega) (by omega), nI_clamp (by omega), u_I_ne (show 2 ≠ 1 by decide), t2]
      refine ⟨fun z => absurd z (by omega), fun _ => ⟨vp_in_nI (by omega) (by omega), ?_⟩⟩
      intro w ew
      subst ew
      rw [sb_lt t1 (by omega), sb_gt t1 (by omega)]
      refine ⟨fun z => out2 (decide_eq_false (by omega)), fun z => ⟨fun z2 => out2 (decide_eq_false (by omega)), fun z2 => ?_⟩⟩
      have hq1 : 97 ≤ c q ∧ c q ≤ 122 := by omega
      have hL' : isL c q = true := decide_eq_true hq1
      rw [uI_0, upd_upd, nI_add, uJ_0, u_J_eq, uL_uL, uL_eq, sb_lo _ (by omega)]
      have r := ih (q + 1) (by omega) (by omega) (by omega) (by rw [← es, scn_y (by omega) hL'])
      rw [show q + 1 - b = (q - b) + 1 by omega] at r
      rw [show nmv c b (q - b + 1) = (nmv c b (q - b) <<< ((nI 5).toInt64 &&& 63)) ||| (((nI (c (b + (q - b))) - nI 97) + nI 1).toInt64) from rfl, show b + (q - b) = q by omega] at r
      exact r
  have k0 := key (n - b) b rfl (Nat.le_refl _) (by omega) rfl
  rw [Nat.sub_self] at k0
  exact k0
def sg (x : Nat) : Nat := if x = 59 ∨ x = 44 ∨ x = 58 ∨ x = 45 then x else 1
/-- the token that begins behind p, in the class -/
def TC (c : Nat → Nat) (n p : Nat) (I I' : Nat → Nat → Int32) (J J' : Nat → Nat → Int64) : Prop :=
  fr I I' [1] ∧ (∀ k, k ≠ 4 → k ≠ 5 → k ≠ 6 → k ≠ 7 → k ≠ 8 → I' 1 k = I 1 k) ∧ (∀ k, k ≠ 1 → J' k = J k) ∧ I' 1 4 = nI (scn (isB c) n p) ∧
  ((scn (isB c) n p = n ∧ I' 1 6 = nI 0 ∧ I' 1 5 = nI n) ∨
   (scn (isB c) n p < n ∧ isL c (scn (isB c) n p) = true ∧ I' 1 6 = nI 2 ∧ I' 1 5 = nI (scn (isL c) n (scn (isB c) n p)) ∧ Wd c (scn (isB c) n p) (scn (isL c) n (scn (isB c) n p)) (I' 1 8) ∧ J' 1 9 = nmv c (scn (isB c) n p) (scn (isL c) n (scn (isB c) n p) - scn (isB c) n p)) ∨
   (scn (isB c) n p < n ∧ isD c (scn (isB c) n p) = true ∧ I' 1 6 = nI 3 ∧ I' 1 5 = nI (scn (isD c) n (scn (isB c) n p)) ∧ I' 1 7 = cv c (scn (isB c) n p) (scn (isD c) n (scn (isB c) n p) - scn (isB c) n p)) ∨
   (scn (isB c) n p < n ∧ isL c (scn (isB c) n p) = false ∧ isD c (scn (isB c) n p) = false ∧ I' 1 6 = nI (sg (c (scn (isB c) n p))) ∧ I' 1 5 = nI (scn (isB c) n p + 1)))
theorem sg_i {x : Nat} (h : x < 256) : (if sb x = nI 59 then sb x else (if sb x = nI 44 then sb x else (if sb x = nI 58 then sb x else (if sb x = nI 45 then sb x else nI 1)))) = nI (sg x) := by
  unfold sg
  simp only [sb_eq h (show 59 < 128 by decide), sb_eq h (show 44 < 128 by decide), sb_eq h (show 58 < 128 by decide), sb_eq h (show 45 < 128 by decide)]
  by_cases a : x = 59
  · subst a; rfl
  · by_cases b : x = 44
    · subst b; rfl
    · by_cases d : x = 58
      · subst d; rfl
      · by_cases e : x = 45
        · subst e; rfl
        · rw [if_neg a, if_neg b, if_neg d, if_neg e, if_neg (by omega)]
theorem c63 {E : am_Ev} {I : Nat → Nat → Int32} {J : Nat → Nat → Int64} {S : Nat → Nat → Option Nat} {Q : am_Qt} {c : Nat → Nat} {n p : Nat} (ht : txc I c n) (hp : I 1 5 = nI p) (hpn : p ≤ n) (h : ∀ I' J', TC c n p I I' J J' → Q (.inl none) E I' J' S) : am_cl 63 [.ref 1, .int (nI n)] E I J S Q := by
  have hn := ht.1
  show am_ww 63 0 [.ref 1, .int (nI n), am_U] [] E I J S Q
  apply g63_0
  rw [hp]
  refine c63_4 rfl ht (n - p) p rfl hpn ?_
  obtain ⟨s1, s2, s3, s4⟩ := scn_ge (P := isB c) (n := n) (n - p) p rfl
  have s2 := s2 hpn
  unfold TC at h
  generalize scn (isB c) n p = b at *
  have frm : ∀ f : Nat → Int32, fr I (u_I I 1 f) [1] := fun f => fr_u
  apply g63_29 rfl
  rw [u_I_eq, upd_eq, nI_ltI (by omega) (by omega), nI_clamp (by omega), u_I_ne (show 2 ≠ 1 by decide), nI_add]
  refine ⟨fun z => ⟨vp_in_nI (by omega) (by omega), ?_⟩, fun z => ?_⟩
  · intro w ew
    obtain ⟨t1, t2⟩ := ht.2 b z
    rw [t2] at ew
    subst ew
    have ht' : ∀ f : Nat → Int32, txc (u_I I 1 f) c n := fun f => ⟨hn, fun k hk => by rw [u_I_ne (by decide)]; exact ht.2 k hk⟩
    have sgn : isL c b = false → isD c b = false → ∀ w, w = (if sb (c b) = nI 59 then sb (c b) else (if sb (c b) = nI 44 then sb (c b) else (if sb (c b) = nI 58 then sb (c b) else (if sb (c b) = nI 45 then sb (c b) else nI 1)))) → Q (.inl none) E (u_I (u_I I 1 (upd (I 1) 4 (nI b))) 1 (upd (upd (upd (I 1) 4 (nI b)) 5 (nI (b + 1))) 6 w)) J S := by
      intro zl zd w ew
      rw [sg_i t1] at ew
      rw [uI_0, ew]
      refine h _ _ ⟨frm _, fun k k4 k5 k6 k7 k8 => ?_, fun k hk => rfl, ?_, Or.inr (Or.inr (Or.inr ⟨z, zl, zd, ?_, ?_⟩))⟩
      · rw [u_I_eq, upd_ne k6, upd_ne k5, upd_ne k4]
      · rw [u_I_eq, upd_ne (by decide), upd_ne (by decide), upd_eq]
      · rw [u_I_eq, upd_eq]
      · rw [u_I_eq, upd_ne (by decide), upd_eq]
    have dig : isD c b = true → am_cl 76 [.ref 1, .int (nI n)] E (u_I (u_I I 1 (upd (I 1) 4 (nI b))) 1 (upd (upd (I 1) 4 (nI b)) 5 (nI (b + 1)))) J S (q_V fun E13 I13 J13 S13 => Q (.inl none) E13 I13 J13 S13) := by
      intro zd
      rw [uI_0]
      refine c76 (c := c) (b := b) (ht' _) (by rw [u_I_eq, upd_ne (by decide), upd_eq]) z zd (q_mkV ?_)
      rw [uI_0, u_I_eq]
      refine h _ _ ⟨frm _, fun k k4 k5 k6 k7 k8 => ?_, fun k hk => rfl, ?_, Or.inr (Or.inr (Or.inl ⟨z, zd, ?_, ?_, ?_⟩))⟩
      · rw [u_I_eq, upd_ne k5, upd_ne k7, upd_ne k6, upd_ne k5, upd_ne k4]
      · rw [u_I_eq, upd_ne (by decide), upd_ne (by decide), upd_ne (by decide), upd_ne (by decide), upd_eq]
      · rw [u_I_eq, upd_ne (by decide), upd_ne (by decide), upd_eq]
      · rw [u_I_eq, upd_eq]
      · rw [u_I_eq, upd_ne (by decide), upd_eq]
    have wor : isL c b = true → am_cl 65 [.ref 1, .int (nI n)] E (u_I (u_I I 1 (upd (I 1) 4 (nI b))) 1 (upd (upd (I 1) 4 (nI b)) 5 (nI (b + 1)))) J S (q_V fun E13 I13 J13 S13 => Q (.inl none) E13 I13 J13 S13) := by
      intro zd
      rw [uI_0]
      refine c65 (c := c) (b := b) (ht' _) (by rw [u_I_eq, upd_ne (by decide), upd_eq]) z (fun v hv => q_mkV ?_)
      rw [uI_0, u_I_eq]
      refine h _ _ ⟨frm _, fun k k4 k5 k6 k7 k8 => ?_, fun k hk => u_J_ne hk, ?_, Or.inr (Or.inl ⟨z, zd, ?_, ?_, ?_, ?_⟩)⟩
      · rw [u_I_eq, upd_ne k8, upd_ne k5, upd_ne k6, upd_ne k5, upd_ne k4]
      · rw [u_I_eq, upd_ne (by decide), upd_ne (by decide), upd_ne (by decide), upd_ne (by decide), upd_eq]
      · rw [u_I_eq, upd_ne (by decide), upd_ne (by decide), upd_eq]
      · rw [u_I_eq, upd_ne (by decide), upd_eq]
      · rw [u_I_eq, upd_eq]; exact hv
      · rw [u_J_eq, uL_eq]
    rw [sb_lt t1 (by omega), sb_lt t1 (by omega), sb_gt t1 (by omega), sb_gt t1 (by omega)]
    refine ⟨fun q1 => ⟨fun q2 => sgn (decide_eq_false (by omega)) (decide_eq_false (by omega)), fun q2 => ⟨fun q3 => sgn (decide_eq_false (by omega)) (decide_eq_false (by omega)), fun q3 => dig (decide_eq_true (by omega))⟩⟩, fun q1 => ⟨fun q2 => ⟨fun q3 => sgn (decide_eq_false (by omega)) (decide_eq_false (by omega)), fun q3 => ⟨fun q4 => sgn (decide_eq_false (by omega)) (decide_eq_false (by omega)), fun q4 => dig (decide_eq_true (by omega))⟩⟩, fun q2 => wor (decide_eq_true (by omega))⟩⟩
  · have ebn : b = n := by omega
    rw [uI_0]
    refine h _ _ ⟨frm _, fun k k4 k5 k6 k7 k8 => ?_, fun k hk => rfl, ?_, Or.inl ⟨ebn, ?_, ?_⟩⟩
    · rw [u_I_eq, upd_ne k5, upd_ne k6, upd_ne k5, upd_ne k4]
    · rw [u_I_eq, upd_ne (by decide), upd_ne (by decide), upd_ne (by decide), upd_eq]
    · rw [u_I_eq, upd_ne (by decide), upd_eq]
    · rw [u_I_eq, upd_eq, ebn]
