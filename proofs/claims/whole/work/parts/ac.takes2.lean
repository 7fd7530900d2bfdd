/-! the class's takes, one by one -/
theorem bt_1 : ∀ i, i < 32 → bt (nI 1) i = decide (i = 0) := by decide +kernel
theorem bt_sh {k i : Nat} (hk : k < 32) (hi : i < 32) : bt (nI 1 <<< (nI k &&& 31)) i = decide (i = k) := by
  rw [b_shl k hk _ hi]
  by_cases h : k ≤ i
  · rw [decide_eq_true h, Bool.true_and, bt_1 _ (by omega)]
    by_cases e : i = k
    · rw [decide_eq_true e, decide_eq_true (by omega)]
    · rw [decide_eq_false e, decide_eq_false (by omega)]
  · rw [decide_eq_false h, Bool.false_and, decide_eq_false (by omega)]
theorem bt_and {x : Int32} {k : Nat} (hk : k < 32) : x &&& (nI 1 <<< (nI k &&& 31)) = 0 ↔ bt x k = false := by
  constructor
  · intro h
    have e : bt (x &&& (nI 1 <<< (nI k &&& 31))) k = bt 0 k := by rw [h]
    rw [b_and, bt_sh hk hk, b_0, decide_eq_true rfl, Bool.and_true] at e
    exact e
  · intro h
    apply b_ext
    intro i hi
    rw [b_and, bt_sh hk hi, b_0]
    by_cases e : i = k
    · rw [e, h, Bool.false_and]
    · rw [decide_eq_false e, Bool.and_false]
theorem bt_or {x : Int32} {k i : Nat} (hk : k < 32) (hi : i < 32) : bt (x ||| (nI 1 <<< (nI k &&& 31))) i = (bt x i || decide (i = k)) := by
  rw [b_or, bt_sh hk hi]
theorem bt_16 : ∀ k, k < 16 → nI 16 <<< (nI k &&& 31) = nI 1 <<< (nI (k + 4) &&& 31) := by decide +kernel
section
variable {E : am_Ev} {A : Nat → Nat → Int32} {B : Nat → Nat → Int64} {C : Nat → Nat → Option Nat}
-- a clause
theorem t0_bad (h10 : A 1 10 = nI 0) (h : A 1 6 = nI 2 → A 1 8 = -1 ∨ ∃ w, 6 ≤ w ∧ w < 19 ∧ A 1 8 = nI w) : tkR E A B C (nI 1) A B C := by
  intro Q hv hq
  refine c77_0 h10 ?_ hv
  show am_ww 78 0 [.ref 1] [] E A B C Q
  apply g78_0
  refine ⟨fun z => ?_, fun _ => hq⟩
  rcases h z with e | ⟨w, w6, w19, e⟩
  · rw [e]
    exact ⟨fun _ => hq, fun q => absurd (by decide) q⟩
  · rw [e]
    refine ⟨fun _ => hq, fun _ => ⟨fun q => ?_, fun _ => hq⟩⟩
    rw [nI_leI (by omega) (by omega)] at q
    omega
theorem t0_set {w : Nat} (h10 : A 1 10 = nI 0) (h6 : A 1 6 = nI 2) (h8 : A 1 8 = nI w) (hw : w < 4) (hb : bt (A 1 16) w = false) : tkR E A B C (nI 0) (xpI (u_I A 1 (upd (upd (A 1) 16 (A 1 16 ||| (nI 1 <<< (nI w &&& 31)))) 15 (nI w))) 4) B (xpS C 4) := by
  intro Q hv hq
  refine c77_0 h10 ?_ hv
  show am_ww 78 0 [.ref 1] [] E A B C Q
  apply g78_0
  rw [h8]
  refine ⟨fun _ => ⟨fun q => absurd q (nI_nneg (by omega)), fun _ => ⟨fun _ => ⟨fun q => ?_, fun _ => ⟨fun q => ?_, fun _ => ⟨fun _ => c80 (q := 4) (by decide) (q_mkV hq), fun q => absurd ((bt_and (by omega)).mpr hb) q⟩⟩⟩, fun q => ?_⟩⟩, fun q => absurd h6 q⟩
  · rw [nI_eq (by omega) (by omega)] at q; omega
  · rw [nI_eq (by omega) (by omega)] at q; omega
  · rw [nI_leI (by omega) (by omega)] at q; omega
theorem t0_again {w : Nat} (h10 : A 1 10 = nI 0) (h6 : A 1 6 = nI 2) (h8 : A 1 8 = nI w) (hw : w < 4) (hb : bt (A 1 16) w = true) : tkR E A B C (nI 5) A B C := by
  intro Q hv hq
  refine c77_0 h10 ?_ hv
  show am_ww 78 0 [.ref 1] [] E A B C Q
  apply g78_0
  rw [h8]
  refine ⟨fun _ => ⟨fun q => absurd q (nI_nneg (by omega)), fun _ => ⟨fun _ => ⟨fun q => ?_, fun _ => ⟨fun q => ?_, fun _ => ⟨fun q => ?_, fun _ => hq⟩⟩⟩, fun q => ?_⟩⟩, fun q => absurd h6 q⟩
  · rw [nI_eq (by omega) (by omega)] at q; omega
  · rw [nI_eq (by omega) (by omega)] at q; omega
  · rw [bt_and (by omega), hb] at q; cases q
  · rw [nI_leI (by omega) (by omega)] at q; omega
theorem t0_cell (h10 : A 1 10 = nI 0) (h6 : A 1 6 = nI 2) (h8 : A 1 8 = nI 4) : tkR E A B C (nI 0) (xpI A 3) B (xpS C 3) := by
  intro Q hv hq
  refine c77_0 h10 ?_ hv
  show am_ww 78 0 [.ref 1] [] E A B C Q
  apply g78_0
  rw [h8]
  exact ⟨fun _ => ⟨fun q => absurd q (by decide), fun _ => ⟨fun _ => ⟨fun q => absurd q (by decide), fun _ => ⟨fun _ => c80 (q := 3) (by decide) (q_mkV hq), fun q => absurd rfl q⟩⟩, fun q => absurd (by decide) q⟩⟩, fun q => absurd h6 q⟩
theorem t0_thr {T : Nat} (h10 : A 1 10 = nI 0) (h6 : A 1 6 = nI 2) (h8 : A 1 8 = nI 5) (hT : A 3 5 = nI T) (hT4 : T < 4) : tkR E A B C (nI 0) (u_I (u_I A 3 (upd (A 3) 5 (nI (T + 1)))) 1 (upd (A 1) 10 (nI 2))) B C := by
  intro Q hv hq
  refine c77_0 h10 ?_ hv
  show am_ww 78 0 [.ref 1] [] E A B C Q
  apply g78_0
  rw [h8]
  refine ⟨fun _ => ⟨fun q => absurd q (by decide), fun _ => ⟨fun _ => ⟨fun _ => ?_, fun q => absurd rfl q⟩, fun q => absurd (by decide) q⟩⟩, fun q => absurd h6 q⟩
  show am_ww 79 0 [.ref 1] [] E A B C _
  apply g79_0
  rw [hT, nI_add]
  refine ⟨fun _ => q_mkI hq, fun q => ?_⟩
  rw [nI_ltI (by omega) (by omega)] at q
  omega
theorem t0_many (h10 : A 1 10 = nI 0) (h6 : A 1 6 = nI 2) (h8 : A 1 8 = nI 5) (hT : A 3 5 = nI 4) : tkR E A B C (nI 2) A B C := by
  intro Q hv hq
  refine c77_0 h10 ?_ hv
  show am_ww 78 0 [.ref 1] [] E A B C Q
  apply g78_0
  rw [h8]
  refine ⟨fun _ => ⟨fun q => absurd q (by decide), fun _ => ⟨fun _ => ⟨fun _ => ?_, fun q => absurd rfl q⟩, fun q => absurd (by decide) q⟩⟩, fun q => absurd h6 q⟩
  show am_ww 79 0 [.ref 1] [] E A B C _
  apply g79_0
  rw [hT]
  exact ⟨fun q => absurd q (by decide), fun _ => q_mkI hq⟩
-- a colon
theorem t3_ok (h10 : A 1 10 = nI 3) (h6 : A 1 6 = nI 58) : tkR E A B C (nI 0) (u_I A 1 (upd (A 1) 10 (nI 4))) B C := by
  intro Q hv hq
  refine c77_3 h10 ?_ hv
  show am_ww 93 0 [.ref 1] [] E A B C Q
  apply g93_0
  exact ⟨fun _ => hq, fun q => absurd h6 q⟩
theorem t3_no (h10 : A 1 10 = nI 3) (h6 : ¬ A 1 6 = nI 58) : tkR E A B C (nI 1) A B C := by
  intro Q hv hq
  refine c77_3 h10 ?_ hv
  show am_ww 93 0 [.ref 1] [] E A B C Q
  apply g93_0
  exact ⟨fun q => absurd q h6, fun _ => hq⟩
-- an instruction
theorem t4_ok {w r : Nat} (h10 : A 1 10 = nI 4) (h6 : A 1 6 = nI 2) (h8 : A 1 8 = nI w) (hw : w < 19) (hw6 : 6 ≤ w) (hr : A 1 14 = nI r) (hr2 : r < 64) : tkR E A B C (nI 0) (xpI (u_I A 4 (upd (A 4) r (nI w))) (shp w)) B (xpS C (shp w)) := by
  intro Q hv hq
  exact c77_4 h10 (c90 h6 h8 hw hw6 hr hr2 hq) hv
theorem t4_no (h10 : A 1 10 = nI 4) (h : ¬ (A 1 6 = nI 2 ∧ nI 6 ≤ A 1 8)) : tkR E A B C (nI 1) A B C := by
  intro Q hv hq
  exact c77_4 h10 (c90_n h hq) hv
-- a line's end
theorem t5_ok {x : Nat} (h10 : A 1 10 = nI 5) (h6 : A 1 6 = nI x) (hx : x = 44 ∨ x = 59) : tkR E A B C (nI 0) (u_I A 1 (upd (A 1) 10 (nI (if x = 44 then 2 else 0)))) B C := by
  intro Q hv hq
  refine c77_5 h10 ?_ hv
  show am_ww 94 0 [.ref 1] [] E A B C Q
  apply g94_0
  rw [h6]
  rcases hx with e | e
  · subst e
    refine ⟨fun _ w ew => ?_, fun q => absurd rfl q⟩
    rw [if_pos rfl] at ew hq
    rw [ew]
    exact hq
  · subst e
    refine ⟨fun q => absurd q (by decide), fun _ => ⟨fun _ w ew => ?_, fun q => absurd rfl q⟩⟩
    rw [if_neg (by decide)] at ew hq
    rw [ew]
    exact hq
theorem t5_no (h10 : A 1 10 = nI 5) (h44 : ¬ A 1 6 = nI 44) (h59 : ¬ A 1 6 = nI 59) : tkR E A B C (nI 1) A B C := by
  intro Q hv hq
  refine c77_5 h10 ?_ hv
  show am_ww 94 0 [.ref 1] [] E A B C Q
  apply g94_0
  exact ⟨fun q => absurd q h44, fun _ => ⟨fun q => absurd q h59, fun _ => hq⟩⟩
-- names
def cfs (F : Nat → Int64) (t : Nat) (x : Int64) : Nat → Nat → Int32
  | 0, _ => -1
  | m + 1, i => if F (16 * t + i) = x then nI i else cfs F t x m (i + 1)
theorem cfs_e {F F' : Nat → Int64} {t : Nat} {x : Int64} : ∀ m i, (∀ j, i ≤ j → j < i + m → F' (16 * t + j) = F (16 * t + j)) → cfs F' t x m i = cfs F t x m i := by
  intro m
  induction m with
  | zero => intro i _; rfl
  | succ m ih =>
    intro i h
    unfold cfs
    rw [h i (Nat.le_refl _) (by omega), ih (i + 1) (fun j h1 h2 => h j (by omega) (by omega))]
theorem cfs_v {F : Nat → Int64} {t : Nat} {x : Int64} : ∀ m i, (cfs F t x m i = -1 ∧ ∀ j, i ≤ j → j < i + m → ¬ F (16 * t + j) = x) ∨ (∃ j, i ≤ j ∧ j < i + m ∧ cfs F t x m i = nI j ∧ F (16 * t + j) = x ∧ ∀ k, i ≤ k → k < j → ¬ F (16 * t + k) = x) := by
  intro m
  induction m with
  | zero => intro i; exact Or.inl ⟨rfl, fun j h1 h2 => by omega⟩
  | succ m ih =>
    intro i
    unfold cfs
    by_cases h : F (16 * t + i) = x
    · rw [if_pos h]
      exact Or.inr ⟨i, Nat.le_refl _, by omega, rfl, h, fun k h1 h2 => by omega⟩
    · rw [if_neg h]
      rcases ih (i + 1) with ⟨a, b⟩ | ⟨j, a, b, d, e, f⟩
      · refine Or.inl ⟨a, fun j h1 h2 => ?_⟩
        by_cases q : j = i
        · rw [q]; exact h
        · exact b j (by omega) (by omega)
      · refine Or.inr ⟨j, by omega, by omega, d, e, fun k h1 h2 => ?_⟩
        by_cases q : k = i
        · rw [q]; exact h
        · exact f k (by omega) h2
theorem c92 {Q : am_Qt} {t L : Nat} {x : Int64} (ht : t < 4) (hl : A 6 t = nI L) (hL : L ≤ 16) (h : Q (.inl (some (.int (cfs (B 9) t x L 0)))) E A B C) : am_cl 92 [.ref 1, .int (nI t), .long x] E A B C Q := by
  show am_ww 92 0 [.ref 1, .int (nI t), .long x, am_U, am_U] [] E A B C Q
  apply g92_0
  have k : ∀ m i, m + i = L → Q (.inl (some (.int (cfs (B 9) t x m i)))) E A B C → am_ww 92 2 [.ref 1, .int (nI t), .long x, am_U, .int (nI i)] [] E A B C Q := by
    intro m
    induction m with
    | zero =>
      intro i hi hq
      apply g92_2 rfl
      rw [nI_clamp (by omega), hl, nI_leI (by omega) (by omega)]
      exact ⟨vp_in_nI ht (by omega), fun _ => hq, fun q => absurd (by omega) q⟩
    | succ m ih =>
      intro i hi hq
      apply g92_2 rfl
      rw [nI_clamp (by omega), hl, nI_leI (by omega) (by omega), nI_mulI, nI_add, nI_clamp (by omega), nI_add, lg_0, Nat.mul_comm t 16]
      refine ⟨vp_in_nI ht (by omega), fun q => by omega, fun _ => ⟨vp_in_nI (by omega) (by omega), fun e => ?_, fun e => ?_⟩⟩
      · unfold cfs at hq
        rw [if_pos e] at hq
        exact hq
      · unfold cfs at hq
        rw [if_neg e] at hq
        exact ih (i + 1) (by omega) hq
  exact k L 0 (by omega) h
-- a line
def lnI (A : Nat → Nat → Int32) (T l : Nat) : Nat → Nat → Int32 := u_I (u_I A 1 (upd (A 1) 14 (nI (16 * T + l)))) 6 (upd (A 6) T (nI (l + 1)))
theorem c89 {Q : am_Qt} (h6 : A 1 6 = nI 2) {w2 : Nat} (h8 : A 1 8 = -1 ∧ w2 = 0 ∨ (∃ w, 6 ≤ w ∧ w < 19 ∧ A 1 8 = nI w) ∧ w2 = 1) (h : am_ww 89 20 [.ref 1, .int (nI w2), am_U] [] E A B C Q) : am_cl 89 [.ref 1] E A B C Q := by
  show am_ww 89 0 [.ref 1, am_U, am_U] [] E A B C Q
  apply g89_0
  intro w ew
  refine ⟨fun _ => ?_, fun q => absurd h6 q⟩
  rcases h8 with ⟨e, e2⟩ | ⟨⟨v, v6, v19, e⟩, e2⟩
  · rw [e, if_pos (by decide)] at ew
    subst e2 ew
    exact ⟨fun _ => h, fun q => absurd e q⟩
  · rw [e, if_neg (by rw [nI_ltI (by omega) (by omega)]; omega)] at ew
    subst e2 ew
    rw [e]
    exact ⟨fun q => absurd q (nI_nm (by omega)), fun _ => ⟨fun q => absurd q (by decide), fun _ => h⟩⟩
theorem t2_bad (h10 : A 1 10 = nI 2) (h : ¬ A 1 6 = nI 2 ∨ ∃ w, w < 6 ∧ A 1 8 = nI w) : tkR E A B C (nI 1) A B C := by
  intro Q hv hq
  refine c77_2 h10 ?_ hv
  show am_ww 89 0 [.ref 1, am_U, am_U] [] E A B C Q
  apply g89_0
  intro w ew
  rcases h with h | ⟨v, v6, e⟩
  · exact ⟨fun q => absurd q h, fun _ => hq⟩
  · rw [e, if_pos (by rw [nI_ltI (by omega) (by omega)]; omega)] at ew
    subst ew
    rw [e]
    exact ⟨fun _ => ⟨fun q => absurd q (nI_nm (by omega)), fun _ => ⟨fun _ => hq, fun q => absurd rfl q⟩⟩, fun _ => hq⟩
theorem t2_full {T l b e : Nat} (h10 : A 1 10 = nI 2) (h6 : A 1 6 = nI 2) (h8 : A 1 8 = -1 ∨ ∃ w, 6 ≤ w ∧ w < 19 ∧ A 1 8 = nI w) (hb : A 1 4 = nI b) (he : A 1 5 = nI e) (hbe : b ≤ e) (hen : e ≤ 700) (hT : A 3 5 = nI (T + 1)) (hT4 : T < 4) (hl : A 6 T = nI l) (hl6 : l ≤ 16) (h : 8 < e - b ∨ l = 16) : tkR E A B C (nI 2) A B C := by
  intro Q hv hq
  refine c77_2 h10 ?_ hv
  have h8' : ∃ w2 : Nat, A 1 8 = -1 ∧ w2 = 0 ∨ (∃ w, 6 ≤ w ∧ w < 19 ∧ A 1 8 = nI w) ∧ w2 = 1 := by
    rcases h8 with z | z
    · exact ⟨0, Or.inl ⟨z, rfl⟩⟩
    · exact ⟨1, Or.inr ⟨z, rfl⟩⟩
  obtain ⟨w2, h8'⟩ := h8'
  refine c89 h6 h8' ?_
  apply g89_20 rfl
  rw [hb, he, hT, nI_subI hbe, nI_leI (by omega) (by omega), nI_subI (by omega), Nat.add_sub_cancel, nI_clamp (by omega), hl, nI_ltI (by omega) (by omega)]
  refine ⟨fun q1 => ⟨fun q2 => absurd q2 (nI_nneg (by omega)), fun _ => ⟨vp_in_nI hT4 (by omega), fun q3 => by omega, fun _ => hq⟩⟩, fun _ => hq⟩
theorem t2_ins {T l b e w : Nat} (h10 : A 1 10 = nI 2) (h6 : A 1 6 = nI 2) (h8 : A 1 8 = nI w) (w6 : 6 ≤ w) (w19 : w < 19) (hb : A 1 4 = nI b) (he : A 1 5 = nI e) (hbe : b ≤ e) (hen : e ≤ 700) (hT : A 3 5 = nI (T + 1)) (hT4 : T < 4) (hl : A 6 T = nI l) (hl6 : l < 16) (h : e - b ≤ 8) : tkR E A B C (nI 0) (xpI (u_I (lnI A T l) 4 (upd (A 4) (16 * T + l) (nI w))) (shp w)) B (xpS C (shp w)) := by
  intro Q hv hq
  refine c77_2 h10 ?_ hv
  refine c89 h6 (w2 := 1) (Or.inr ⟨⟨w, w6, w19, h8⟩, rfl⟩) ?_
  apply g89_20 rfl
  rw [hb, he, hT, nI_subI hbe, nI_leI (by omega) (by omega), nI_subI (by omega), Nat.add_sub_cancel, nI_clamp (by omega), hl, nI_ltI (by omega) (by omega), nI_mulI, nI_add, nI_add, Nat.mul_comm T 16]
  refine ⟨fun q1 => ⟨fun q2 => absurd q2 (nI_nneg (by omega)), fun _ => ⟨vp_in_nI hT4 (by omega), fun _ => ⟨fun q => absurd q (by decide), fun _ => ?_⟩, fun q => absurd hl6 q⟩⟩, fun q => absurd h q⟩
  refine c90 (w := w) (r := 16 * T + l) ?_ ?_ w19 w6 ?_ (by omega) (q_mkI ?_)
  · rw [u_I_ne (by decide), u_I_eq, upd_ne (by decide)]; exact h6
  · rw [u_I_ne (by decide), u_I_eq, upd_ne (by decide)]; exact h8
  · rw [u_I_ne (by decide), u_I_eq, upd_eq]
  · have e4 : u_I (u_I A 1 (upd (A 1) 14 (nI (16 * T + l)))) 6 (upd (A 6) T (nI (l + 1))) 4 = A 4 := by rw [u_I_ne (by decide), u_I_ne (by decide)]
    rw [e4]
    exact hq
theorem c89_l {Q : am_Qt} {T l b e : Nat} (h6 : A 1 6 = nI 2) (h8 : A 1 8 = -1) (hb : A 1 4 = nI b) (he : A 1 5 = nI e) (hbe : b ≤ e) (hen : e ≤ 700) (hT : A 3 5 = nI (T + 1)) (hT4 : T < 4) (hl : A 6 T = nI l) (hl6 : l < 16) (h : e - b ≤ 8)
    (hy : cfs (B 9) T (B 1 9) (l + 1) 0 = -1 → Q (.inl (some (.int (nI 0)))) E (u_I (lnI A T l) 1 (upd (lnI A T l 1) 10 (nI 3))) (u_J B 9 (vp_updL (B 9) (16 * T + l) (B 1 9))) C)
    (hn : ¬ cfs (B 9) T (B 1 9) (l + 1) 0 = -1 → Q (.inl (some (.int (nI 4)))) E (lnI A T l) B C) : am_cl 89 [.ref 1] E A B C Q := by
  refine c89 h6 (w2 := 0) (Or.inl ⟨h8, rfl⟩) ?_
  apply g89_20 rfl
  rw [hb, he, hT, nI_subI hbe, nI_leI (by omega) (by omega), nI_subI (by omega), Nat.add_sub_cancel, nI_clamp (by omega), hl, nI_ltI (by omega) (by omega), nI_mulI, nI_add, nI_add, Nat.mul_comm T 16]
  refine ⟨fun q1 => ⟨fun q2 => absurd q2 (nI_nneg (by omega)), fun _ => ⟨vp_in_nI hT4 (by omega), fun _ => ⟨fun _ => ?_, fun q => absurd rfl q⟩, fun q => absurd hl6 q⟩⟩, fun q => absurd h q⟩
  refine c92 hT4 (L := l + 1) ?_ (by omega) (q_mkI ?_)
  · rw [u_I_eq, upd_eq]
  · have e14 : u_I (u_I A 1 (upd (A 1) 14 (nI (16 * T + l)))) 6 (upd (A 6) T (nI (l + 1))) 1 14 = nI (16 * T + l) := by rw [u_I_ne (by decide), u_I_eq, upd_eq]
    rw [e14, nI_clamp (by omega)]
    exact ⟨fun z => ⟨vp_in_nI (by omega) (by omega), hy z⟩, hn⟩
-- an operand
def due (q s : Nat) : Nat := if s < am_slen.getD q 0 then sch q s else 59
theorem due_lt (q s : Nat) : due q s < 128 := by
  unfold due
  split
  · exact (sch_at q s).2
  · decide
theorem c82 {Q : am_Qt} {q s : Nat} (hC : C 1 11 = some q) (hq : q < 55) (h12 : A 1 12 = nI s) (hs : s < 200) (h : am_ww 82 13 [.ref 1, am_U] [.int (nI (due q s))] E A B C Q) : am_cl 82 [.ref 1] E A B C Q := by
  show am_ww 82 0 [.ref 1, am_U] [] E A B C Q
  have hl := (slen_s q hq).2
  apply g82_0
  refine ⟨q, hC, hq, c67 hq (q_mkI ?_)⟩
  rw [h12, nI_leI (by omega) (by omega)]
  unfold due at h
  refine ⟨fun z => ?_, fun z => ⟨q, hC, hq, c69 hq (by omega) hl (q_mkI ?_)⟩⟩
  · rw [if_neg (by omega)] at h
    exact h
  · rw [if_pos (by omega)] at h
    exact h
theorem t1_semi {q s x : Nat} (h10 : A 1 10 = nI 1) (hC : C 1 11 = some q) (hq : q < 55) (h12 : A 1 12 = nI s) (hs : s < 200) (hd : due q s = 59) (hx : x = if A 1 6 = nI 59 then 0 else 1) : tkR E A B C (nI x) (u_I A 1 (upd (A 1) 10 (nI 0))) B C := by
  intro Q hv hQ
  refine c77_1 h10 (c82 hC hq h12 hs ?_) hv
  rw [hd]
  apply g82_13 rfl
  refine ⟨fun _ w ew => ?_, fun z => absurd rfl z⟩
  have : w = nI x := by
    rw [ew, hx]
    split <;> rfl
  rw [this]
  exact hQ
theorem t1_minus {q s : Nat} (h10 : A 1 10 = nI 1) (hC : C 1 11 = some q) (hq : q < 55) (h12 : A 1 12 = nI s) (hs : s < 200) (hd : due q s = 118 ∨ due q s = 119) (h6 : A 1 6 = nI 45) (h13 : A 1 13 = 0) : tkR E A B C (nI 0) (u_I A 1 (upd (A 1) 13 (nI 1))) B C := by
  intro Q hv hQ
  refine c77_1 h10 (c82 hC hq h12 hs ?_) hv
  apply g82_13 rfl
  rcases hd with e | e
  · rw [e]
    exact ⟨fun z => absurd z (by decide), fun _ => ⟨fun z => absurd z (by decide), fun _ => ⟨fun _ => ⟨fun _ => ⟨fun _ => hQ, fun z => absurd rfl z⟩, fun z => absurd h13 z⟩, fun z => absurd h6 z⟩⟩⟩
  · rw [e]
    exact ⟨fun z => absurd z (by decide), fun _ => ⟨fun z => absurd z (by decide), fun _ => ⟨fun _ => ⟨fun _ => ⟨fun z => absurd z (by decide), fun _ => ⟨fun _ => hQ, fun z => absurd rfl z⟩⟩, fun z => absurd h13 z⟩, fun z => absurd h6 z⟩⟩⟩
/-- what is no sign: on to 52 -/
theorem c82_52 {Q : am_Qt} {q s : Nat} (hC : C 1 11 = some q) (hq : q < 55) (h12 : A 1 12 = nI s) (hs : s < 200) (hd : due q s ≠ 59 ∧ due q s ≠ 78) (h6 : A 1 6 = nI 45 → A 1 13 = 0 → due q s ≠ 118 ∧ due q s ≠ 119) (h : am_ww 82 52 [.ref 1, .int (nI (due q s))] [] E A B C Q) : am_cl 82 [.ref 1] E A B C Q := by
  have dl := due_lt q s
  refine c82 hC hq h12 hs ?_
  apply g82_13 rfl
  rw [nI_eq (by omega) (by omega), nI_eq (by omega) (by omega), nI_eq (by omega) (by omega), nI_eq (by omega) (by omega)]
  exact ⟨fun z => absurd z hd.1, fun _ => ⟨fun z => absurd z hd.2, fun _ => ⟨fun a => ⟨fun b => ⟨fun z => absurd z (h6 a b).1, fun _ => ⟨fun z => absurd z (h6 a b).2, fun _ => h⟩⟩, fun _ => h⟩, fun _ => h⟩⟩⟩
theorem t1_bad {q s : Nat} (h10 : A 1 10 = nI 1) (hC : C 1 11 = some q) (hq : q < 55) (h12 : A 1 12 = nI s) (hs : s < 200) (hd : due q s ≠ 59 ∧ due q s ≠ 78) (h6 : A 1 6 = nI 45 → A 1 13 = 0 → due q s ≠ 118 ∧ due q s ≠ 119) (h3 : ¬ A 1 6 = nI 3) : tkR E A B C (nI 1) A B C := by
  intro Q hv hQ
  refine c77_1 h10 (c82_52 hC hq h12 hs hd h6 ?_) hv
  apply g82_52
  exact ⟨fun z => absurd z h3, fun _ => hQ⟩
def fit (d sj v : Nat) : Prop := (d = 67 → v < 16) ∧ (d = 99 → v < 16) ∧ (d = 108 → v < 4) ∧ (d = 110 → (sj = 0 → 1 ≤ v ∧ v ≤ 9) ∧ (sj = 2 → 1 ≤ v ∧ v ≤ 50) ∧ (sj = 3 → 2 ≤ v ∧ v ≤ 8)) ∧ (d = 114 → v < 4) ∧ (d = 115 → v < 3)
theorem c82_n {Q : am_Qt} {d sj v : Nat} (hd : d < 128) (h6 : A 1 6 = nI 3) (h7 : A 1 7 = nI v) (hv : v < 2 ^ 30) (h15 : d = 110 → A 1 15 = nI sj ∧ sj < 4) (hb : ¬ fit d sj v → Q (.inl (some (.int (nI 2)))) E A B C) (hg : fit d sj v → am_cl 88 [.ref 1, .int (nI d)] E A B C (q_I fun v E I J S => Q (.inl (some (.int v))) E I J S)) : am_ww 82 52 [.ref 1, .int (nI d)] [] E A B C Q := by
  apply g82_52
  rw [h6, h7, nI_eq (b := 67) (by omega) (by omega), nI_eq (b := 99) (by omega) (by omega), nI_eq (b := 108) (by omega) (by omega), nI_eq (b := 110) (by omega) (by omega), nI_eq (b := 114) (by omega) (by omega), nI_eq (b := 115) (by omega) (by omega)]
  rw [nI_leI (a := 16) (by omega) (by omega), nI_leI (a := 4) (by omega) (by omega), nI_leI (a := 3) (by omega) (by omega), nI_ltI (a := v) (b := 1) (by omega) (by omega), nI_ltI (a := 9) (b := v) (by omega) (by omega), nI_ltI (a := 50) (b := v) (by omega) (by omega), nI_ltI (a := v) (b := 2) (by omega) (by omega), nI_ltI (a := 8) (b := v) (by omega) (by omega)]
  unfold fit at hb hg
  refine ⟨fun _ => ⟨fun z => absurd z (nI_nm (by omega)), fun _ => ⟨fun e => ⟨fun z => hb (by omega), fun z => hg (by omega)⟩, fun e => ⟨fun z => hb (by omega), fun z => hg (by omega)⟩, fun e => ⟨fun z => hb (by omega), fun z => hg (by omega)⟩, fun e => ?_, fun e => ⟨fun z => hb (by omega), fun z => hg (by omega)⟩, fun e => ⟨fun z => hb (by omega), fun z => hg (by omega)⟩, fun e1 e2 e3 e4 e5 e6 => hg (by omega)⟩⟩, fun z => absurd rfl z⟩
  obtain ⟨h15, hs4⟩ := h15 e
  rw [h15, nI_eq (a := sj) (b := 0) (by omega) (by omega), nI_eq (a := sj) (b := 1) (by omega) (by omega), nI_eq (a := sj) (b := 2) (by omega) (by omega), nI_eq (a := sj) (b := 3) (by omega) (by omega)]
  exact ⟨fun j => ⟨fun z => hb (by omega), fun z => ⟨fun y => hb (by omega), fun y => hg (by omega)⟩⟩, fun j => hg (by omega), fun j => ⟨fun z => hb (by omega), fun z => ⟨fun y => hb (by omega), fun y => hg (by omega)⟩⟩, fun j => ⟨fun z => hb (by omega), fun z => ⟨fun y => hb (by omega), fun y => hg (by omega)⟩⟩, fun j0 j1 j2 j3 => by omega⟩
theorem t1_over {q s sj : Nat} (h10 : A 1 10 = nI 1) (hC : C 1 11 = some q) (hq : q < 55) (h12 : A 1 12 = nI s) (hs : s < 200) (hd : due q s ≠ 59 ∧ due q s ≠ 78) (h6 : A 1 6 = nI 3) (h15 : due q s = 110 → A 1 15 = nI sj ∧ sj < 4) (h7 : A 1 7 = -1 ∨ ∃ v, v < 2 ^ 30 ∧ A 1 7 = nI v ∧ ¬ fit (due q s) sj v) : tkR E A B C (nI 2) A B C := by
  intro Q hv hQ
  refine c77_1 h10 (c82_52 hC hq h12 hs hd (fun z => absurd (h6.symm.trans z) (by decide)) ?_) hv
  rcases h7 with e | ⟨v, v3, e, hf⟩
  · apply g82_52
    exact ⟨fun _ => ⟨fun _ => hQ, fun z => absurd e z⟩, fun z => absurd h6 z⟩
  · exact c82_n (due_lt q s) h6 e v3 h15 (fun _ => hQ) (fun z => absurd z hf)
/-- go on behind an operand -/
def gon (A : Nat → Nat → Int32) (q s : Nat) : Nat → Nat → Int32 := if s + 1 < am_slen.getD q 0 then u_I A 1 (upd (A 1) 12 (nI (s + 1))) else u_I (u_I A 1 (upd (A 1) 12 (nI (s + 1)))) 1 (upd (u_I A 1 (upd (A 1) 12 (nI (s + 1))) 1) 10 (nI 5))
/-- what is written -/
def opw (A : Nat → Nat → Int32) (d sj r s : Nat) (x : Int32) : Nat → Nat → Int32 := if d = 119 then u_I A 7 (upd (A 7) sj x) else if d = 110 then u_I A 8 (upd (A 8) sj x) else u_I A 5 (upd (A 5) (r * 3 + s) x)
theorem t1_st {q s sj r v : Nat} {x : Int32} (h10 : A 1 10 = nI 1) (hC : C 1 11 = some q) (hq : q < 55) (h12 : A 1 12 = nI s) (hs : s < 200) (hd : due q s ≠ 59 ∧ due q s ≠ 78 ∧ due q s ≠ 67) (h6 : A 1 6 = nI 3) (h7 : A 1 7 = nI v) (hv3 : v < 2 ^ 30) (hf : fit (due q s) sj v) (hx : x = if A 1 13 = 0 then nI v else - nI v)
    (h15 : due q s = 119 ∨ due q s = 110 → A 1 15 = nI sj ∧ sj < 16 ∧ (due q s = 110 → sj < 4)) (h14 : due q s ≠ 119 → due q s ≠ 110 → A 1 14 = nI r ∧ r < 64 ∧ s < 3) : tkR E A B C (nI 0) (gon (opw A (due q s) sj r s x) q s) B C := by
  intro Q hv hQ
  refine c77_1 h10 (c82_52 hC hq h12 hs ⟨hd.1, hd.2.1⟩ (fun z => absurd (h6.symm.trans z) (by decide)) ?_) hv
  have dl := due_lt q s
  have hl := (slen_s q hq).2
  refine c82_n dl h6 h7 hv3 (fun z => ⟨(h15 (Or.inr z)).1, (h15 (Or.inr z)).2.2 z⟩) (fun z => absurd hf z) (fun _ => ?_)
  generalize due q s = d at *
  show am_ww 88 0 [.ref 1, .int (nI d), am_U] [] E A B C _
  apply g88_0
  intro w ew
  have exw : w = x := by rw [ew, hx, h7]
  subst exw
  rw [nI_eq (b := 67) (by omega) (by omega), nI_eq (b := 119) (by omega) (by omega), nI_eq (b := 110) (by omega) (by omega), h12, nI_add]
  have fin : ∀ A3 : Nat → Nat → Int32, A3 1 = A 1 → Q (.inl (some (.int (nI 0)))) E (gon A3 q s) B C → am_cl 67 [.ref (2000000 + q)] E (u_I A3 1 (upd (A 1) 12 (nI (s + 1)))) B C (q_I fun v E I J S => (nI (s + 1) < v → q_I (fun v E I J S => Q (.inl (some (.int v))) E I J S) (.inl (some (.int (nI 0)))) E I J S) ∧ (¬ nI (s + 1) < v → q_I (fun v E I J S => Q (.inl (some (.int v))) E I J S) (.inl (some (.int (nI 0)))) E (u_I I 1 (upd (I 1) 10 (nI 5))) J S)) := by
    intro A3 e3 hg
    refine c67 hq (q_mkI ?_)
    rw [nI_ltI (by omega) (by omega)]
    unfold gon at hg
    rw [e3] at hg
    refine ⟨fun z => q_mkI ?_, fun z => q_mkI ?_⟩
    · rw [if_pos z] at hg; exact hg
    · rw [if_neg z] at hg; exact hg
  unfold opw at hQ
  refine ⟨fun z => absurd z hd.2.2, fun _ => ⟨fun e => ?_, fun n119 => ⟨fun e => ?_, fun n110 => ?_⟩⟩⟩
  · obtain ⟨a1, a2, a3⟩ := h15 (Or.inl e)
    rw [if_pos e] at hQ
    rw [a1, nI_clamp (by omega)]
    exact ⟨vp_in_nI (by omega) (by omega), q, hC, hq, fin _ (u_I_ne (by decide)) hQ⟩
  · obtain ⟨a1, a2, a3⟩ := h15 (Or.inr e)
    have a3 := a3 e
    rw [if_neg n119, if_pos e] at hQ
    rw [a1, nI_clamp (by omega)]
    exact ⟨vp_in_nI (by omega) (by omega), q, hC, hq, fin _ (u_I_ne (by decide)) hQ⟩
  · obtain ⟨a1, a2, a3⟩ := h14 n119 n110
    rw [if_neg n119, if_neg n110] at hQ
    rw [a1, nI_mulI, nI_add, nI_clamp (by omega)]
    exact ⟨vp_in_nI (by omega) (by omega), q, hC, hq, fin _ (u_I_ne (by decide)) hQ⟩
/-- the number of a cell -/
theorem t1_C {v : Nat} (h10 : A 1 10 = nI 1) (hC : C 1 11 = some 3) (h12 : A 1 12 = nI 0) (h6 : A 1 6 = nI 3) (h7 : A 1 7 = nI v) (hv3 : v < 16) :
    (bt (A 1 16) (8 + v) = false → tkR E A B C (nI 0) (u_I A 1 (upd (upd (upd (A 1) 16 (A 1 16 ||| (nI 1 <<< (nI (8 + v) &&& 31)))) 15 (nI v)) 12 (nI 1))) B C) ∧ (bt (A 1 16) (8 + v) = true → tkR E A B C (nI 5) A B C) := by
  have ed : due 3 0 = 67 := by decide +kernel
  have hf : fit 67 0 v := ⟨fun _ => hv3, fun z => absurd z (by decide), fun z => absurd z (by decide), fun z => absurd z (by decide), fun z => absurd z (by decide), fun z => absurd z (by decide)⟩
  have go : ∀ Q : am_Qt, am_ww 88 0 [.ref 1, .int (nI 67), am_U] [] E A B C (q_I fun v E I J S => Q (.inl (some (.int v))) E I J S) → am_cl 82 [.ref 1] E A B C Q := by
    intro Q hq
    refine c82_52 (q := 3) (s := 0) hC (by decide) h12 (by decide) (by rw [ed]; decide) (fun z => absurd (h6.symm.trans z) (by decide)) ?_
    rw [ed]
    exact c82_n (sj := 0) (by decide) h6 h7 (by omega) (fun z => absurd z (by decide)) (fun z => absurd hf z) (fun _ => hq)
  constructor
  · intro hb Q hv hQ
    refine c77_1 h10 (go _ ?_) hv
    apply g88_0
    intro w _
    rw [h7, nI_add, h12, nI_add]
    refine ⟨fun _ => ⟨fun _ => ⟨3, hC, by decide, c67 (by decide) (q_mkI ?_)⟩, fun z => absurd ((bt_and (by omega)).mpr hb) z⟩, fun z => absurd rfl z⟩
    exact ⟨fun _ => q_mkI hQ, fun z => absurd (by decide +kernel) z⟩
  · intro hb Q hv hQ
    refine c77_1 h10 (go _ ?_) hv
    apply g88_0
    intro w _
    rw [h7, nI_add]
    refine ⟨fun _ => ⟨fun z => ?_, fun z => q_mkI hQ⟩, fun z => absurd rfl z⟩
    rw [bt_and (by omega), hb] at z
    cases z
/-- a name where one is due -/
theorem t1_name {q s r b e : Nat} (h10 : A 1 10 = nI 1) (hC : C 1 11 = some q) (hq : q < 55) (h12 : A 1 12 = nI s) (hs : s < 100) (hd : due q s = 78) (h6 : A 1 6 = nI 2) (h8 : A 1 8 = -1) (hb : A 1 4 = nI b) (he : A 1 5 = nI e) (hbe : b ≤ e) (hen : e ≤ 700) (hr : A 1 14 = nI r) (hr2 : r < 64) (h : e - b ≤ 8) : tkR E A B C (nI 0) (gon (u_I A 11 (upd (A 11) r (nI b))) q s) (u_J B 10 (vp_updL (B 10) r (B 1 9))) C := by
  intro Q hv hQ
  refine c77_1 h10 (c82 hC hq h12 (by omega) ?_) hv
  have hl := (slen_s q hq).2
  rw [hd]
  apply g82_13 rfl
  refine ⟨fun z => absurd z (by decide), fun _ => ⟨fun _ => ?_, fun z => absurd rfl z⟩⟩
  show am_ww 83 0 [.ref 1] [] E A B C _
  apply g83_0
  rw [hb, he, hr, nI_subI hbe, nI_leI (by omega) (by omega), nI_clamp (by omega), h12, nI_add]
  refine ⟨fun _ => ⟨fun _ => ⟨fun _ => ⟨vp_in_nI hr2 (by omega), q, hC, hq, c67 hq (q_mkI ?_)⟩, fun z => absurd h z⟩, fun z => absurd h8 z⟩, fun z => absurd h6 z⟩
  rw [nI_ltI (by omega) (by omega)]
  unfold gon at hQ
  have e3 : u_I A 11 (upd (A 11) r (nI b)) 1 = A 1 := u_I_ne (by decide)
  rw [e3] at hQ
  refine ⟨fun z => q_mkI ?_, fun z => q_mkI ?_⟩
  · rw [if_pos z] at hQ; exact hQ
  · rw [if_neg z] at hQ; exact hQ
theorem t1_nbad {q s b e x : Nat} (h10 : A 1 10 = nI 1) (hC : C 1 11 = some q) (hq : q < 55) (h12 : A 1 12 = nI s) (hs : s < 100) (hd : due q s = 78) (hb : A 1 4 = nI b) (he : A 1 5 = nI e) (hbe : b ≤ e) (hen : e ≤ 700) (h : ¬ (A 1 6 = nI 2 ∧ A 1 8 = -1) ∧ x = 1 ∨ (A 1 6 = nI 2 ∧ A 1 8 = -1 ∧ 8 < e - b) ∧ x = 2) : tkR E A B C (nI x) A B C := by
  intro Q hv hQ
  refine c77_1 h10 (c82 hC hq h12 (by omega) ?_) hv
  rw [hd]
  apply g82_13 rfl
  refine ⟨fun z => absurd z (by decide), fun _ => ⟨fun _ => ?_, fun z => absurd rfl z⟩⟩
  show am_ww 83 0 [.ref 1] [] E A B C _
  apply g83_0
  rcases h with ⟨h, ex⟩ | ⟨⟨h6, h8, hl⟩, ex⟩
  · subst ex
    exact ⟨fun z => ⟨fun z2 => absurd ⟨z, z2⟩ h, fun _ => q_mkI hQ⟩, fun _ => q_mkI hQ⟩
  · subst ex
    rw [hb, he, nI_subI hbe, nI_leI (by omega) (by omega)]
    exact ⟨fun _ => ⟨fun _ => ⟨fun z => by omega, fun _ => q_mkI hQ⟩, fun z => absurd h8 z⟩, fun z => absurd h6 z⟩
end
