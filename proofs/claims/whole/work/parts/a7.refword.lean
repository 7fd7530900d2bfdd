/-! words in the reference: is, which, isQuoted -/
/-- the token is the word k, and nothing is wrong -/
def mt (I : Nat → Nat → Int32) (c : Nat → Nat) (b e k : Nat) : Prop := I 99 22 = 0 ∧ I 99 18 = nI 1 ∧ isw c b e k
theorem wl_b : ∀ k, k < 19 → wl k < 9 := by decide +kernel
theorem m196_21 {E : am_Ev} {I : Nat → Nat → Int32} {J : Nat → Nat → Int64} {S : Nat → Nat → Option Nat} {Q : am_Qt} {c : Nat → Nat} {n b e k : Nat} (hk : k < 19) (ht : txr I c n) (hb : I 99 20 = nI b) (hen : e ≤ n) (el : e - b = wl k) (h1 : (∀ i, i < wl k → c (b + i) = sch (36 + k) i) → Q (.inl (some (.int (nI 1)))) E I J S) (h0 : ¬ (∀ i, i < wl k → c (b + i) = sch (36 + k) i) → Q (.inl (some (.int (nI 0)))) E I J S) : ∀ m i, m + i = wl k → (∀ j, j < i → c (b + j) = sch (36 + k) j) → am_ww 196 21 [.ref 99, .ref (2000000 + (36 + k)), .int (nI 1), .int (nI i)] [] E I J S Q := by
  obtain ⟨hn, h17, ht⟩ := ht
  have hw := wl_b k hk
  intro m
  induction m with
  | zero =>
    intro i ei ha
    apply g196_21 (show 36 + k < 55 by omega)
    refine ⟨fun z => absurd z (by decide), fun _ => c67 (by omega) (q_mkI ?_)⟩
    refine ⟨fun _ => ⟨Or.inr rfl, h1 (fun j hj => ha j (by omega))⟩, fun z => absurd ?_ z⟩
    show nI (wl k) ≤ nI i
    rw [nI_leI (by omega) (by omega)]; omega
  | succ m ih =>
    intro i ei ha
    obtain ⟨t1, t2⟩ := ht (b + i) (by omega)
    apply g196_21 (show 36 + k < 55 by omega)
    refine ⟨fun z => absurd z (by decide), fun _ => c67 (by omega) (q_mkI ?_)⟩
    refine ⟨fun z => ?_, fun _ => c69 (by omega) (show i < wl k by omega) (show wl k < 200 by omega) (q_mkI ?_)⟩
    · have z' : nI (wl k) ≤ nI i := z
      rw [nI_leI (by omega) (by omega)] at z'; omega
    · rw [hb, nI_add, nI_clamp (by omega), t2]
      refine ⟨vp_in_nI (by omega) (by omega), fun w ew => ?_⟩
      have s2 := (sch_at (36 + k) i).2
      by_cases cc : c (b + i) = sch (36 + k) i
      · rw [if_pos (by rw [cc])] at ew
        subst ew
        rw [nI_add]
        refine ih (i + 1) (by omega) (fun j hj => ?_)
        by_cases cj : j = i
        · rw [cj]; exact cc
        · exact ha j (by omega)
      · rw [if_neg (fun z => cc ((nI_eq (by omega) (by omega)).mp z).symm)] at ew
        subst ew
        apply g196_21 (show 36 + k < 55 by omega)
        exact ⟨fun _ => ⟨Or.inl rfl, h0 (fun q => cc (q i (by omega)))⟩, fun z => absurd rfl z⟩
theorem m196 {E : am_Ev} {I : Nat → Nat → Int32} {J : Nat → Nat → Int64} {S : Nat → Nat → Option Nat} {Q : am_Qt} {c : Nat → Nat} {n b e k : Nat} (hk : k < 19) (ht : txr I c n) (hb : I 99 20 = nI b) (he : I 99 21 = nI e) (hbe : b ≤ e) (hen : e ≤ n) (h1 : mt I c b e k → Q (.inl (some (.int (nI 1)))) E I J S) (h0 : ¬ mt I c b e k → Q (.inl (some (.int (nI 0)))) E I J S) : am_cl 196 [.ref 99, .ref (2000000 + (36 + k))] E I J S Q := by
  show am_ww 196 0 [.ref 99, .ref (2000000 + (36 + k)), am_U, am_U] [] E I J S Q
  have hn := ht.1
  have hw := wl_b k hk
  have zero : ¬ mt I c b e k → am_ww 196 21 [.ref 99, .ref (2000000 + (36 + k)), .int (nI 0), .int (nI 0)] [] E I J S Q := by
    intro z
    apply g196_21 (show 36 + k < 55 by omega)
    exact ⟨fun _ => ⟨Or.inl rfl, h0 z⟩, fun z => absurd rfl z⟩
  apply g196_0 (show 36 + k < 55 by omega)
  refine ⟨fun z22 => ⟨fun z18 => c67 (by omega) (q_mkI ?_), fun z18 => zero (fun q => z18 q.2.1)⟩, fun z22 => zero (fun q => z22 q.1)⟩
  intro w ew
  rw [he, hb, nI_subI hbe, show am_slen.getD (36 + k) 0 = wl k from rfl] at ew
  by_cases cc : e - b = wl k
  · rw [if_pos (by rw [cc])] at ew
    subst ew
    exact m196_21 hk ht hb hen cc (fun q => h1 ⟨z22, z18, cc, q⟩) (fun q => h0 (fun z => q z.2.2.2)) (wl k) 0 (by omega) (fun j hj => by omega)
  · rw [if_neg (fun z => cc (((nI_eq (a := wl k) (b := e - b) (by omega) (by omega)).mp z).symm))] at ew
    subst ew
    exact zero (fun q => cc q.2.2.1)
/-- the tables of words -/
def SW (S : Nat → Nat → Option Nat) : Prop := (∀ j, j < 4 → S 100 j = some (36 + j)) ∧ (∀ j, j < 2 → S 101 j = some (36 + (4 + j))) ∧ (∀ j, j < 13 → S 102 j = some (36 + (6 + j)))
/-- which of the words from o on, L of them -/
def Wh (I : Nat → Nat → Int32) (c : Nat → Nat) (b e o L : Nat) (v : Int32) : Prop := (∃ k, k < L ∧ mt I c b e (o + k) ∧ v = nI k) ∨ ((∀ k, k < L → ¬ mt I c b e (o + k)) ∧ v = -1)
theorem m195_100 {E : am_Ev} {I : Nat → Nat → Int32} {J : Nat → Nat → Int64} {S : Nat → Nat → Option Nat} {Q : am_Qt} {c : Nat → Nat} {n b e : Nat} (hs : ∀ j, j < 4 → S 100 j = some (36 + (0 + j))) (ht : txr I c n) (hb : I 99 20 = nI b) (he : I 99 21 = nI e) (hbe : b ≤ e) (hen : e ≤ n) (h : ∀ v, Wh I c b e 0 4 v → Q (.inl (some (.int v))) E I J S) : am_cl 195 [.ref 99, .ref 100] E I J S Q := by
  show am_ww 195 0 [.ref 99, .ref 100, am_U] [] E I J S Q
  apply g195_0_100
  have key : ∀ m k, m + k = 4 → (∀ j, j < k → ¬ mt I c b e (0 + j)) → am_ww 195 2 [.ref 99, .ref 100, .int (nI k)] [] E I J S Q := by
    intro m
    induction m with
    | zero =>
      intro k ek hj
      apply g195_2_100
      refine ⟨fun _ => h _ (Or.inr ⟨fun j hj' => hj j (by omega), rfl⟩), fun z => absurd ?_ z⟩
      rw [nI_leI (by omega) (by omega)]; omega
    | succ m ih =>
      intro k ek hj
      apply g195_2_100
      rw [nI_leI (by omega) (by omega), nI_clamp (by omega)]
      refine ⟨fun z => absurd z (by omega), fun _ => ⟨vp_in_nI (by omega) (by omega), _, hs k (by omega), by omega, ?_⟩⟩
      refine m196 (k := 0 + k) (by omega) ht hb he hbe hen (fun q => q_mkI ⟨fun z => absurd z (by decide), fun _ => h _ (Or.inl ⟨k, by omega, q, rfl⟩)⟩) (fun q => q_mkI ⟨fun _ => ?_, fun z => absurd rfl z⟩)
      rw [nI_add]
      refine ih (k + 1) (by omega) (fun j hjk => ?_)
      by_cases cj : j = k
      · rw [cj]; exact q
      · exact hj j (by omega)
  exact key 4 0 rfl (fun j hj => by omega)
theorem m195_101 {E : am_Ev} {I : Nat → Nat → Int32} {J : Nat → Nat → Int64} {S : Nat → Nat → Option Nat} {Q : am_Qt} {c : Nat → Nat} {n b e : Nat} (hs : ∀ j, j < 2 → S 101 j = some (36 + (4 + j))) (ht : txr I c n) (hb : I 99 20 = nI b) (he : I 99 21 = nI e) (hbe : b ≤ e) (hen : e ≤ n) (h : ∀ v, Wh I c b e 4 2 v → Q (.inl (some (.int v))) E I J S) : am_cl 195 [.ref 99, .ref 101] E I J S Q := by
  show am_ww 195 0 [.ref 99, .ref 101, am_U] [] E I J S Q
  apply g195_0_101
  have key : ∀ m k, m + k = 2 → (∀ j, j < k → ¬ mt I c b e (4 + j)) → am_ww 195 2 [.ref 99, .ref 101, .int (nI k)] [] E I J S Q := by
    intro m
    induction m with
    | zero =>
      intro k ek hj
      apply g195_2_101
      refine ⟨fun _ => h _ (Or.inr ⟨fun j hj' => hj j (by omega), rfl⟩), fun z => absurd ?_ z⟩
      rw [nI_leI (by omega) (by omega)]; omega
    | succ m ih =>
      intro k ek hj
      apply g195_2_101
      rw [nI_leI (by omega) (by omega), nI_clamp (by omega)]
      refine ⟨fun z => absurd z (by omega), fun _ => ⟨vp_in_nI (by omega) (by omega), _, hs k (by omega), by omega, ?_⟩⟩
      refine m196 (k := 4 + k) (by omega) ht hb he hbe hen (fun q => q_mkI ⟨fun z => absurd z (by decide), fun _ => h _ (Or.inl ⟨k, by omega, q, rfl⟩)⟩) (fun q => q_mkI ⟨fun _ => ?_, fun z => absurd rfl z⟩)
      rw [nI_add]
      refine ih (k + 1) (by omega) (fun j hjk => ?_)
      by_cases cj : j = k
      · rw [cj]; exact q
      · exact hj j (by omega)
  exact key 2 0 rfl (fun j hj => by omega)
theorem m195_102 {E : am_Ev} {I : Nat → Nat → Int32} {J : Nat → Nat → Int64} {S : Nat → Nat → Option Nat} {Q : am_Qt} {c : Nat → Nat} {n b e : Nat} (hs : ∀ j, j < 13 → S 102 j = some (36 + (6 + j))) (ht : txr I c n) (hb : I 99 20 = nI b) (he : I 99 21 = nI e) (hbe : b ≤ e) (hen : e ≤ n) (h : ∀ v, Wh I c b e 6 13 v → Q (.inl (some (.int v))) E I J S) : am_cl 195 [.ref 99, .ref 102] E I J S Q := by
  show am_ww 195 0 [.ref 99, .ref 102, am_U] [] E I J S Q
  apply g195_0_102
  have key : ∀ m k, m + k = 13 → (∀ j, j < k → ¬ mt I c b e (6 + j)) → am_ww 195 2 [.ref 99, .ref 102, .int (nI k)] [] E I J S Q := by
    intro m
    induction m with
    | zero =>
      intro k ek hj
      apply g195_2_102
      refine ⟨fun _ => h _ (Or.inr ⟨fun j hj' => hj j (by omega), rfl⟩), fun z => absurd ?_ z⟩
      rw [nI_leI (by omega) (by omega)]; omega
    | succ m ih =>
      intro k ek hj
      apply g195_2_102
      rw [nI_leI (by omega) (by omega), nI_clamp (by omega)]
      refine ⟨fun z => absurd z (by omega), fun _ => ⟨vp_in_nI (by omega) (by omega), _, hs k (by omega), by omega, ?_⟩⟩
      refine m196 (k := 6 + k) (by omega) ht hb he hbe hen (fun q => q_mkI ⟨fun z => absurd z (by decide), fun _ => h _ (Or.inl ⟨k, by omega, q, rfl⟩)⟩) (fun q => q_mkI ⟨fun _ => ?_, fun z => absurd rfl z⟩)
      rw [nI_add]
      refine ih (k + 1) (by omega) (fun j hjk => ?_)
      by_cases cj : j = k
      · rw [cj]; exact q
      · exact hj j (by omega)
  exact key 13 0 rfl (fun j hj => by omega)
theorem Wh_no {I : Nat → Nat → Int32} {c : Nat → Nat} {b e o L : Nat} {v : Int32} (h : Wh I c b e o L v) (hL : L < 100) : v = -1 ↔ ∀ k, k < L → ¬ mt I c b e (o + k) := by
  rcases h with ⟨k, hk, hm, ev⟩ | ⟨hn, ev⟩
  · constructor
    · intro q; rw [ev] at q; exact absurd q (nI_nm (by omega))
    · intro q; exact absurd hm (q k hk)
  · exact ⟨fun _ => hn, fun _ => ev⟩
theorem m202 {E : am_Ev} {I : Nat → Nat → Int32} {J : Nat → Nat → Int64} {S : Nat → Nat → Option Nat} {Q : am_Qt} {c : Nat → Nat} {n b e : Nat} (hs : SW S) (ht : txr I c n) (hb : I 99 20 = nI b) (he : I 99 21 = nI e) (hbe : b ≤ e) (hen : e ≤ n) (h1 : (∃ k, k < 19 ∧ mt I c b e k) → Q (.inl (some (.int (nI 1)))) E I J S) (h0 : (∀ k, k < 19 → ¬ mt I c b e k) → Q (.inl (some (.int (nI 0)))) E I J S) : am_cl 202 [.ref 99] E I J S Q := by
  show am_ww 202 0 [.ref 99] [] E I J S Q
  apply g202_0
  refine m195_100 (fun j hj => by rw [hs.1 j hj, Nat.zero_add]) ht hb he hbe hen (fun v hv => q_mkI ⟨fun z => ?_, fun z => ?_⟩)
  · refine m195_101 hs.2.1 ht hb he hbe hen (fun v2 hv2 => q_mkI ⟨fun z2 => ?_, fun z2 => ?_⟩)
    · refine m195_102 hs.2.2 ht hb he hbe hen (fun v3 hv3 => q_mkI ⟨fun z3 => ?_, fun z3 => ?_⟩)
      · rw [Wh_no hv (by omega)] at z
        rw [Wh_no hv2 (by omega)] at z2
        rw [Wh_no hv3 (by omega)] at z3
        refine h0 (fun k hk => ?_)
        by_cases c1 : k < 4
        · have := z k c1; rwa [Nat.zero_add] at this
        · by_cases c2 : k < 6
          · have := z2 (k - 4) (by omega); rwa [show 4 + (k - 4) = k by omega] at this
          · have := z3 (k - 6) (by omega); rwa [show 6 + (k - 6) = k by omega] at this
      · rcases hv3 with ⟨k, hk, hm, _⟩ | ⟨_, ev⟩
        · exact h1 ⟨6 + k, by omega, hm⟩
        · exact absurd ev z3
    · rcases hv2 with ⟨k, hk, hm, _⟩ | ⟨_, ev⟩
      · exact h1 ⟨4 + k, by omega, hm⟩
      · exact absurd ev z2
  · rcases hv with ⟨k, hk, hm, _⟩ | ⟨_, ev⟩
    · exact h1 ⟨0 + k, by omega, hm⟩
    · exact absurd ev z
