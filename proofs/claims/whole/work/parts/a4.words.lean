/-! words: the class's findWord -/
def sch (p q : Nat) : Nat := ((am_strL.getD p []).getD q 0).toNatClampNeg
theorem str_all : am_strL.all (fun l => l.all (fun x => decide (x = nI (x).toNatClampNeg ∧ (x).toNatClampNeg < 128))) = true := by decide +kernel
theorem sch_at (p q : Nat) : (am_strL.getD p []).getD q 0 = nI (sch p q) ∧ sch p q < 128 := by
  unfold sch
  rw [List.getD_eq_getElem?_getD, List.getD_eq_getElem?_getD]
  cases e : am_strL[p]? with
  | none => dsimp only [Option.getD_none]; rw [List.getElem?_nil]; exact ⟨rfl, by decide⟩
  | some l =>
    cases e2 : l[q]? with
    | none => dsimp only [Option.getD_some]; rw [e2]; exact ⟨rfl, by decide⟩
    | some x =>
      dsimp only [Option.getD_some]
      rw [e2]
      exact of_decide_eq_true (List.all_eq_true.mp (List.all_eq_true.mp str_all l (List.mem_of_getElem? e)) x (List.mem_of_getElem? e2))
theorem sch_c : ∀ x, x < 128 → ((((nI x) &&& (nI 255)).toUInt32 % 65536).toInt32) = nI x := by decide +kernel
theorem sch_n : ∀ x, x < 128 → narrow .char (.int (nI x)) = .int (nI x) := by decide +kernel
theorem c69 {E : am_Ev} {I : Nat → Nat → Int32} {J : Nat → Nat → Int64} {S : Nat → Nat → Option Nat} {Q : am_Qt} {p q : Nat} (hp : p < 55) (hq : q < am_slen.getD p 0) (hq2 : am_slen.getD p 0 < 200) (h : Q (.inl (some (.int (nI (sch p q))))) E I J S) : am_cl 69 [.ref (2000000 + p), .int (nI q)] E I J S Q := by
  show am_ww 69 0 [.ref (2000000 + p), .int (nI q)] [] E I J S Q
  apply g69_0 hp
  obtain ⟨s1, s2⟩ := sch_at p q
  refine ⟨fun z => absurd z (nI_nneg (by omega)), fun _ => ⟨fun _ => ⟨vp_in_nI (by omega) (by omega), ?_⟩, fun z => absurd ((nI_ltI (by omega) (by omega)).mpr hq) z⟩⟩
  rw [nI_clamp (by omega), s1, sch_c _ s2]
  refine ⟨sch_n _ s2, ?_⟩
  intro w ew
  subst ew
  exact ⟨sch_n _ s2, h⟩
theorem slen_s : ∀ p, p < 55 → (nI (am_slen.getD p 0)) >>> ((nI 0) &&& 31) = nI (am_slen.getD p 0) ∧ am_slen.getD p 0 < 200 := by decide +kernel
theorem c67 {E : am_Ev} {I : Nat → Nat → Int32} {J : Nat → Nat → Int64} {S : Nat → Nat → Option Nat} {Q : am_Qt} {p : Nat} (hp : p < 55) (h : Q (.inl (some (.int (nI (am_slen.getD p 0))))) E I J S) : am_cl 67 [.ref (2000000 + p)] E I J S Q := by
  show am_ww 67 0 [.ref (2000000 + p)] [] E I J S Q
  apply g67_0 hp
  rw [(slen_s p hp).1]
  exact h
/-- the words in quotes -/
def wl (k : Nat) : Nat := am_slen.getD (36 + k) 0
def ws : Nat → Nat
  | 0 => 0
  | k + 1 => ws k + wl k + 1
theorem ws_ok : ∀ k, k < 19 → ws k + wl k < 101 ∧ sch 2 (ws k + wl k) = 32 ∧ wl k < 9 ∧ 0 < wl k ∧ ∀ i, i < wl k → sch 2 (ws k + i) = sch (36 + k) i ∧ 97 ≤ sch (36 + k) i ∧ sch (36 + k) i ≤ 122 := by decide +kernel
theorem ws_19 : ws 19 = 101 := by decide +kernel
/-- the token from b to e is the word k -/
def isw (c : Nat → Nat) (b e k : Nat) : Prop := e - b = wl k ∧ ∀ i, i < wl k → c (b + i) = sch (36 + k) i
theorem isw_d : ∀ k, k < 19 → ∀ j, j < 19 → k = j ∨ wl k ≠ wl j ∨ ∃ i, i < wl k ∧ sch (36 + k) i ≠ sch (36 + j) i := by decide +kernel
theorem isw_u {c : Nat → Nat} {b e k j : Nat} (hk : k < 19) (hj : j < 19) (h : isw c b e k) (h' : isw c b e j) : k = j := by
  rcases isw_d k hk j hj with q | q | ⟨i, hi, q⟩
  · exact q
  · exact absurd (h.1.symm.trans h'.1) q
  · refine absurd ?_ q
    rw [← h.2 i hi, ← h'.2 i (by rw [← h'.1, h.1]; exact hi)]
/-- which word it is -/
def Wd (c : Nat → Nat) (b e : Nat) (v : Int32) : Prop := (∃ k, k < 19 ∧ isw c b e k ∧ v = nI k) ∨ ((∀ k, k < 19 → ¬ isw c b e k) ∧ v = -1)
theorem c74 {E : am_Ev} {I : Nat → Nat → Int32} {J : Nat → Nat → Int64} {S : Nat → Nat → Option Nat} {Q : am_Qt} {c : Nat → Nat} {n b e f : Nat} (ht : txc I c n) (hb : I 1 4 = nI b) (he : I 1 5 = nI e) (hbe : b ≤ e) (hen : e ≤ n) (hL : ∀ i, b ≤ i → i < e → isL c i = true) (hf : f + (e - b) < 101) (h1 : (∀ i, i < e - b → c (b + i) = sch 2 (f + i)) → Q (.inl (some (.int (nI 1)))) E I J S) (h0 : ¬ (∀ i, i < e - b → c (b + i) = sch 2 (f + i)) → Q (.inl (some (.int (nI 0)))) E I J S) : am_cl 74 [.ref 1, .int (nI f)] E I J S Q := by
  obtain ⟨hn, ht⟩ := ht
  show am_ww 74 0 [.ref 1, .int (nI f), am_U] [] E I J S Q
  apply g74_0
  rw [hb]
  have key : ∀ m q, m + q = e - b → (∀ i, i < q → c (b + i) = sch 2 (f + i)) → am_ww 74 3 [.ref 1, .int (nI f), .int (nI (b + q))] [] E I J S Q := by
    intro m
    induction m with
    | zero =>
      intro q eq ha
      apply g74_3
      rw [he, nI_leI (by omega) (by omega)]
      exact ⟨fun _ => h1 (fun i hi => ha i (by omega)), fun z => absurd (by omega) z⟩
    | succ m ih =>
      intro q eq ha
      apply g74_3
      obtain ⟨t1, t2⟩ := ht (b + q) (by omega)
      have l := of_decide_eq_true (hL (b + q) (by omega) (by omega))
      rw [he, hb, nI_leI (by omega) (by omega), nI_add, nI_subI (by omega), show f + (b + q) - b = f + q by omega]
      refine ⟨fun z => absurd z (by omega), fun _ => ⟨vp_in_nI (by omega) (by omega), ?_⟩⟩
      refine c69 (p := 2) (by omega) (show f + q < 101 by omega) (by decide) (q_mkI ?_)
      rw [nI_clamp (by omega), t2, sb_eq t1 (sch_at 2 (f + q)).2, nI_add]
      refine ⟨fun z => ih (q + 1) (by omega) (fun i hi => ?_), fun z => h0 (fun a => z (a q (by omega)))⟩
      by_cases ci : i = q
      · rw [ci]; exact z
      · exact ha i (by omega)
  exact key (e - b) 0 (by omega) (fun i hi => by omega)
theorem c66 {E : am_Ev} {I : Nat → Nat → Int32} {J : Nat → Nat → Int64} {S : Nat → Nat → Option Nat} {Q : am_Qt} {c : Nat → Nat} {n b e : Nat} (ht : txc I c n) (hb : I 1 4 = nI b) (he : I 1 5 = nI e) (hbe : b ≤ e) (hen : e ≤ n) (hL : ∀ i, b ≤ i → i < e → isL c i = true) (h : ∀ v, Wd c b e v → Q (.inl (some (.int v))) E I J S) : am_cl 66 [.ref 1] E I J S Q := by
  have hn := ht.1
  show am_ww 66 0 [.ref 1, am_U, am_U, am_U] [] E I J S Q
  apply g66_0
  have key : ∀ m k, m + k = 19 → (∀ j, j < k → ¬ isw c b e j) → am_ww 66 6 [.ref 1, .int (nI k), .int (nI (ws k)), .int (nI (ws k))] [] E I J S Q := by
    intro m
    induction m with
    | zero =>
      intro k ek hj
      have : k = 19 := by omega
      subst this
      rw [ws_19]
      apply g66_6
      refine c67 (p := 2) (by omega) (q_mkI ?_)
      exact ⟨fun _ => h _ (Or.inr ⟨hj, rfl⟩), fun z => absurd (by decide) z⟩
    | succ m ih =>
      intro k ek hj
      obtain ⟨w1, w2, w3, w4, w5⟩ := ws_ok k (by omega)
      -- along the word
      have along : ∀ r i, r + i = wl k → am_ww 66 6 [.ref 1, .int (nI k), .int (nI (ws k)), .int (nI (ws k + wl k))] [] E I J S Q → am_ww 66 6 [.ref 1, .int (nI k), .int (nI (ws k)), .int (nI (ws k + i))] [] E I J S Q := by
        intro r
        induction r with
        | zero => intro i ei hh; rw [show i = wl k by omega]; exact hh
        | succ r ihr =>
          intro i ei hh
          obtain ⟨a1, a2, a3⟩ := w5 i (by omega)
          apply g66_6
          refine c67 (p := 2) (by omega) (q_mkI ?_)
          refine ⟨fun z => absurd z (by rw [show am_slen.getD 2 0 = 101 from rfl, nI_leI (by omega) (by omega)]; omega), fun _ => ?_⟩
          refine c69 (p := 2) (by omega) (show ws k + i < 101 by omega) (by decide) (q_mkI ?_)
          refine ⟨fun z => absurd z (by rw [nI_eq (by omega) (by omega)]; omega), fun _ => ?_⟩
          rw [nI_add, Nat.add_assoc]
          exact ihr (i + 1) (by omega) hh
      refine along (wl k) 0 (by omega) ?_
      apply g66_6
      refine c67 (p := 2) (by omega) (q_mkI ?_)
      refine ⟨fun z => absurd z (by rw [show am_slen.getD 2 0 = 101 from rfl, nI_leI (by omega) (by omega)]; omega), fun _ => ?_⟩
      refine c69 (p := 2) (by omega) (show ws k + wl k < 101 by omega) (by decide) (q_mkI ?_)
      rw [w2]
      refine ⟨fun _ => ?_, fun z => absurd rfl z⟩
      have next : ¬ isw c b e k → am_ww 66 6 [.ref 1, .int (nI k + nI 1), .int (nI (ws k + wl k) + nI 1), .int (nI (ws k + wl k) + nI 1)] [] E I J S Q := by
        intro z
        rw [nI_add, nI_add]
        refine ih (k + 1) (by omega) (fun j hjk => ?_)
        by_cases cj : j = k
        · rw [cj]; exact z
        · exact hj j (by omega)
      rw [he, hb, nI_subI (by omega), nI_subI hbe, nI_eq (by omega) (by omega)]
      refine ⟨fun z => ?_, fun z => next (fun q => z (by rw [q.1]; omega))⟩
      have el : e - b = wl k := by omega
      refine c74 ht hb he hbe hen hL (by omega) (fun g => q_mkI ⟨fun q => absurd q (by decide), fun _ => ?_⟩) (fun g => q_mkI ⟨fun _ => next (fun q => g (fun i hi => ?_)), fun q => absurd nI_0 q⟩)
      · exact h _ (Or.inl ⟨k, by omega, ⟨el, fun i hi => by rw [g i (by omega), (w5 i hi).1]⟩, rfl⟩)
      · rw [q.2 i (by omega), (w5 i (by omega)).1]
  exact key 19 0 rfl (fun j hj => by omega)
