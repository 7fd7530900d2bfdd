/-! the reference's readers beside the class -/
def wr (I : Nat → Nat → Int32) (k : Nat) : Nat → Nat → Int32 := u_I I 99 (upd (upd (I 99) 22 (nI k)) 23 (I 99 20))
theorem wr_22 {I : Nat → Nat → Int32} {k : Nat} (h1 : 1 ≤ k) (h5 : k ≤ 5) : ¬ wr I k 99 22 = 0 := by
  unfold wr
  rw [u_I_eq, upd_ne (by decide), upd_eq, nI_e0 (by omega)]
  omega
def RFX (I I' : Nat → Nat → Int32) : Prop := fr I I' [99] ∧ ∀ k, k ≠ 16 → k ≠ 18 → k ≠ 19 → k ≠ 20 → k ≠ 21 → k ≠ 22 → k ≠ 23 → I' 99 k = I 99 k
theorem RFX_t {I I' : Nat → Nat → Int32} (h : RFT I I') : RFX I I' := ⟨h.1, fun k a b d e f _ _ => h.2 k a b d e f⟩
theorem RFX_id {I : Nat → Nat → Int32} : RFX I I := RFX_t RFT_id
theorem RFX_tr {I I' I'' : Nat → Nat → Int32} (h : RFX I I') (h' : RFX I' I'') : RFX I I'' := ⟨fun k hk => (h'.1 k hk).trans (h.1 k hk), fun k a b d e f g i => (h'.2 k a b d e f g i).trans (h.2 k a b d e f g i)⟩
theorem RFX_w {I : Nat → Nat → Int32} {k : Nat} : RFX I (wr I k) := ⟨fr_u, fun j a b d e f g i => by unfold wr; rw [u_I_eq, upd_ne i, upd_ne g]⟩
theorem RFX_o {I I' : Nat → Nat → Int32} (h : RFX I I') {k : Nat} (hk : k ≠ 99) : I' k = I k := h.1 k (by simp [hk])
section
variable {E : am_Ev} {I : Nat → Nat → Int32} {J : Nat → Nat → Int64} {S : Nat → Nat → Option Nat} {Q : am_Qt}
-- nothing is done once something is wrong
theorem m199_f {p1 p2 : Int32} (hb : ¬ I 99 22 = 0) (h : Q (.inl (some (.int p1))) E I J S) : am_cl 199 [.ref 99, .int p1, .int p2] E I J S Q := by
  show am_ww 199 0 [.ref 99, .int p1, .int p2] [] E I J S Q
  apply g199_0
  exact ⟨fun z => absurd z hb, fun _ => h⟩
theorem m198_f {p1 p2 : Int32} (hb : ¬ I 99 22 = 0) (h : Q (.inl (some (.int p1))) E I J S) : am_cl 198 [.ref 99, .int p1, .int p2] E I J S Q := by
  show am_ww 198 0 [.ref 99, .int p1, .int p2, am_U] [] E I J S Q
  apply g198_0
  exact m199_f hb (q_mkI ⟨fun z => absurd z hb, fun _ => h⟩)
theorem m206_f {p1 : Int32} (hb : ¬ I 99 22 = 0) (h : Q (.inl none) E I J S) : am_cl 206 [.ref 99, .int p1] E I J S Q := by
  show am_ww 206 0 [.ref 99, .int p1] [] E I J S Q
  apply g206_0
  exact ⟨fun z => absurd z hb, fun _ => ⟨fun z => absurd z hb, fun _ => h⟩⟩
theorem m211_f {p1 : Int32} (hb : ¬ I 99 22 = 0) (h : Q (.inl (some (.int (nI 0)))) E I J S) : am_cl 211 [.ref 99, .int p1] E I J S Q := by
  show am_ww 211 0 [.ref 99, .int p1, am_U] [] E I J S Q
  apply g211_0
  exact ⟨fun z => absurd z hb, fun _ => h⟩
theorem m210_f (hb : ¬ I 99 22 = 0) (h : Q (.inl (some (.int (nI 0)))) E I J S) : am_cl 210 [.ref 99] E I J S Q := by
  show am_ww 210 0 [.ref 99, am_U, am_U] [] E I J S Q
  apply g210_0
  refine m211_f hb (q_mkI (m198_f hb (q_mkI ?_)))
  rw [if_pos (show nI 0 = 0 from rfl)]
  exact h
theorem m204_f (hb : ¬ I 99 22 = 0) (h : Q (.inl (some (.int (nI 0)))) E I J S) : am_cl 204 [.ref 99] E I J S Q := by
  show am_ww 204 0 [.ref 99] [] E I J S Q
  apply g204_0
  exact ⟨fun z => absurd z hb, fun _ => h⟩
theorem m212_f {p1 : Int32} (hb : ¬ I 99 22 = 0) (h : Q (.inl none) E I J S) : am_cl 212 [.ref 99, .int p1] E I J S Q := by
  show am_ww 212 0 [.ref 99, .int p1] [] E I J S Q
  apply g212_0
  exact m204_f hb (q_mkI ⟨fun _ => h, fun z => absurd rfl z⟩)
variable {c : Nat → Nat} {n p : Nat}
theorem m199 {lo hi : Nat} (hr : RG c n p I) (hp : p ≤ n) (hlo : lo < 2 ^ 30) (hhi : hi < 2 ^ 30)
    (hy : ∀ v, tkd c n p = 2 → te c n p - tb c n p ≤ 4 → v = dgv c (tb c n p) (te c n p - tb c n p) → v ≤ 9999 → lo ≤ v → v ≤ hi → Q (.inl (some (.int (nI v)))) E I J S)
    (h2 : tkd c n p = 2 → 4 < te c n p - tb c n p ∨ (te c n p - tb c n p ≤ 4 ∧ dgv c (tb c n p) (te c n p - tb c n p) ≤ 9999 ∧ ¬ (lo ≤ dgv c (tb c n p) (te c n p - tb c n p) ∧ dgv c (tb c n p) (te c n p - tb c n p) ≤ hi)) → Q (.inl (some (.int (nI lo)))) E (wr I 2) J S)
    (h1 : ¬ tkd c n p = 2 → Q (.inl (some (.int (nI lo)))) E (wr I 1) J S) : am_cl 199 [.ref 99, .int (nI lo), .int (nI hi)] E I J S Q := by
  show am_ww 199 0 [.ref 99, .int (nI lo), .int (nI hi)] [] E I J S Q
  apply g199_0
  obtain ⟨r1, ⟨r2, r3, r4, r5, r6⟩, r7⟩ := hr
  have hn := r1.1
  have b1 := tb_ge (c := c) hp
  have b2 := te_n (c := c) hp
  have b3 : tkd c n p < 2 ^ 31 := by
    unfold tkd
    split
    · decide
    · split
      · decide
      · split
        · decide
        · split <;> decide
  rw [r2, r4, r5, r7, nI_subI b2.2, nI_ltI (by omega) (by omega), nI_eq b3 (by omega)]
  refine ⟨fun _ => ⟨fun t2 => ⟨fun z => ⟨fun _ => ?_, fun z => absurd rfl z⟩, fun z => ?_⟩, fun t2 => ⟨fun _ => ?_, fun z => absurd rfl z⟩⟩, fun z => absurd rfl z⟩
  · have := h2 t2 (Or.inl z)
    unfold wr at this
    rw [r2] at this
    exact this
  · obtain ⟨k1, k2⟩ := tk_2 hp t2
    have dl := dgv_lt (c := c) (b := tb c n p) (te c n p - tb c n p) (fun i hi => k2 _ (by omega) (by omega))
    have dl2 : 10 ^ (te c n p - tb c n p) ≤ 10 ^ 4 := Nat.pow_le_pow_right (by decide) (by omega)
    have e10 : 10 ^ 4 = 10000 := by decide
    have ev := rvn_dgv (c := c) (b := tb c n p) (te c n p - tb c n p) (by omega) (fun i hi => k2 _ (by omega) (by omega))
    have d9 : dgv c (tb c n p) (te c n p - tb c n p) ≤ 9999 := by omega
    rw [r6 t2, ev, nI_ltI (by omega) (by omega), nI_leI (by omega) (by omega)]
    refine ⟨fun y => ⟨fun _ => ?_, fun z => absurd rfl z⟩, fun y => ⟨fun x w ew => ?_, fun x => ⟨fun _ => ?_, fun z => absurd rfl z⟩⟩⟩
    · have := h2 t2 (Or.inr ⟨by omega, d9, by omega⟩)
      unfold wr at this
      rw [r2] at this
      exact this
    · rw [if_pos rfl] at ew
      rw [ew]
      exact hy _ t2 (by omega) rfl d9 (by omega) x
    · have := h2 t2 (Or.inr ⟨by omega, d9, by omega⟩)
      unfold wr at this
      rw [r2] at this
      exact this
  · have := h1 t2
    unfold wr at this
    rw [r2] at this
    exact this
theorem tk_3 (hp : p ≤ n) (h : ¬ tkd c n p = 0) : tb c n p < n := by
  have := tb_ge (c := c) hp
  have : ¬ tb c n p = n := fun q => h ((tk_0 hp).mpr q)
  omega
theorem tk_5 : tkd c n p < 5 := by
  unfold tkd
  split
  · decide
  · split
    · decide
    · split
      · decide
      · split <;> decide
theorem m211 {ch : Nat} (hr : RG c n p I) (hp : p ≤ n) (hch : ch < 256) (hy : tkd c n p = 3 → c (tb c n p) = ch → ∀ I', RG c n (te c n p) I' → RFT I I' → Q (.inl (some (.int (nI 1)))) E I' J S) (hn : ¬ (tkd c n p = 3 ∧ c (tb c n p) = ch) → Q (.inl (some (.int (nI 0)))) E I J S) : am_cl 211 [.ref 99, .int (nI ch)] E I J S Q := by
  show am_ww 211 0 [.ref 99, .int (nI ch), am_U] [] E I J S Q
  apply g211_0
  have hn7 := hr.1.1
  have b3 := tk_5 (c := c) (n := n) (p := p)
  rw [hr.2.1.2.2.2.1, hr.2.1.1, hr.2.2, nI_eq (by omega) (by omega)]
  refine ⟨fun _ => ⟨fun t3 => ?_, fun z => hn (fun q => z q.1)⟩, fun z => absurd rfl z⟩
  have hb := tk_3 (c := c) hp (by omega)
  obtain ⟨q1, q2⟩ := hr.1.2.2 _ hb
  rw [nI_clamp (by omega), q2, nI_eq (by omega) (by omega)]
  refine ⟨vp_in_nI (by omega) (by omega), fun e => m190s hr hp (fun I' a b => q_mkV (hy t3 e I' a b)), fun e => hn (fun q => e q.2)⟩
theorem m206 {ch : Nat} (hr : RG c n p I) (hp : p ≤ n) (hch : ch < 256) (hy : tkd c n p = 3 → c (tb c n p) = ch → ∀ I', RG c n (te c n p) I' → RFT I I' → Q (.inl none) E I' J S) (hn : ¬ (tkd c n p = 3 ∧ c (tb c n p) = ch) → Q (.inl none) E (wr I 1) J S) : am_cl 206 [.ref 99, .int (nI ch)] E I J S Q := by
  show am_ww 206 0 [.ref 99, .int (nI ch)] [] E I J S Q
  apply g206_0
  unfold wr at hn
  have hn7 := hr.1.1
  have b3 := tk_5 (c := c) (n := n) (p := p)
  rw [hr.2.1.2.2.2.1, hr.2.1.1, hr.2.2, nI_eq (by omega) (by omega)]
  rw [hr.2.1.1] at hn
  refine ⟨fun _ => ⟨fun _ => ⟨fun t3 => ?_, fun z => ⟨fun _ => hn (fun q => z q.1), fun z => absurd rfl z⟩⟩, fun z => absurd rfl z⟩, fun z => absurd rfl z⟩
  have hb := tk_3 (c := c) hp (by omega)
  obtain ⟨q1, q2⟩ := hr.1.2.2 _ hb
  rw [nI_clamp (by omega), q2, nI_eq (by omega) (by omega)]
  refine ⟨vp_in_nI (by omega) (by omega), fun e => ⟨fun _ => m190s hr hp (fun I' a b => q_mkV (hy t3 e I' a b)), fun z => absurd rfl z⟩, fun e => ⟨fun _ => hn (fun q => e q.2), fun z => absurd rfl z⟩⟩
/-- the token is no word in quotes -/
def nwd (c : Nat → Nat) (n p : Nat) : Prop := ∀ k, k < 19 → ¬ isw c (tb c n p) (te c n p) k
theorem m204 (hr : RG c n p I) (hp : p ≤ n) (hs : SW S) (hy : tkd c n p = 1 → nwd c n p → te c n p - tb c n p ≤ 8 → Q (.inl (some (.int (nI 1)))) E I J S) (h1 : ¬ (tkd c n p = 1 ∧ nwd c n p) → Q (.inl (some (.int (nI 0)))) E (wr I 1) J S) (h2 : tkd c n p = 1 → nwd c n p → 8 < te c n p - tb c n p → Q (.inl (some (.int (nI 0)))) E (wr I 2) J S) : am_cl 204 [.ref 99] E I J S Q := by
  show am_ww 204 0 [.ref 99] [] E I J S Q
  apply g204_0
  have b3 := tk_5 (c := c) (n := n) (p := p)
  have hn := hr.1.1
  have b2 := te_n (c := c) hp
  have e22 := hr.2.2
  have e18 : I 99 18 = nI 1 ↔ tkd c n p = 1 := by rw [hr.2.1.2.2.2.1, nI_eq (by omega) (by omega)]
  refine ⟨fun _ => ⟨fun t1 => ?_, fun t1 => ⟨fun _ => h1 (fun q => t1 (e18.mpr q.1)), fun z => absurd e22 z⟩⟩, fun z => absurd e22 z⟩
  refine m202 hs hr.1 hr.2.1.1 hr.2.1.2.2.1 b2.2 b2.1 (fun hk => q_mkI ?_) (fun hk => q_mkI ?_)
  · obtain ⟨k, hk, hm⟩ := hk
    exact ⟨fun z => absurd z (by decide), fun _ => ⟨fun _ => h1 (fun q => q.2 k hk hm.2.2), fun z => absurd e22 z⟩⟩
  · have hw : nwd c n p := fun k hk' q => hk k hk' ⟨e22, t1, q⟩
    rw [hr.2.1.2.2.1, hr.2.1.1, nI_subI b2.2, nI_leI (by omega) (by omega)]
    refine ⟨fun _ => ⟨fun z => ⟨fun _ => hy (e18.mp t1) hw z, fun z => absurd e22 z⟩, fun z => ⟨fun _ => ?_, fun z => absurd e22 z⟩⟩, fun z => absurd rfl z⟩
    have := h2 (e18.mp t1) hw (by omega)
    unfold wr at this
    rw [hr.2.1.1] at this
    exact this
/-- a name that stands at a line -/
def LB (c : Nat → Nat) (n : Nat) (I : Nat → Nat → Int32) (i : Nat) (x : Int64) : Prop := (I 113 i = nI 0 ∧ x = lN 0) ∨ ∃ b k, 1 ≤ k ∧ k ≤ 8 ∧ b + k ≤ n ∧ I 112 i = nI b ∧ I 113 i = nI k ∧ x = nmv c b k ∧ ∀ j, j < k → isL c (b + j) = true
theorem m205 {b k m T : Nat} {F : Nat → Int64} (ht : txr I c n) (h1 : 1 ≤ k) (h8 : k ≤ 8) (hbk : b + k ≤ n) (hL : ∀ j, j < k → isL c (b + j) = true) (hm : m ≤ 16) (hl : ∀ i, i < m → LB c n I i (F (16 * T + i))) (h : Q (.inl (some (.int (cfs F T (nmv c b k) m 0)))) E I J S) : am_cl 205 [.ref 99, .int (nI b), .int (nI k), .int (nI m)] E I J S Q := by
  show am_ww 205 0 [.ref 99, .int (nI b), .int (nI k), .int (nI m), am_U, am_U, am_U] [] E I J S Q
  have hn := ht.1
  apply g205_0
  have outer : ∀ r i (d5 d6 : Value), r + i = m → am_isL d5 = false → am_isL d6 = false → Q (.inl (some (.int (cfs F T (nmv c b k) r i)))) E I J S → am_ww 205 2 [.ref 99, .int (nI b), .int (nI k), .int (nI m), .int (nI i), d5, d6] [] E I J S Q := by
    intro r
    induction r with
    | zero =>
      intro i d5 d6 hi hd5 hd6 hq
      apply g205_2 hd5 hd6
      rw [nI_leI (by omega) (by omega)]
      exact ⟨fun _ => hq, fun z => absurd (by omega) z⟩
    | succ r ih =>
      intro i d5 d6 hi hd5 hd6 hq
      apply g205_2 hd5 hd6
      rw [nI_leI (by omega) (by omega), nI_clamp (by omega)]
      refine ⟨fun z => by omega, fun _ => ⟨vp_in_nI (by omega) (by omega), fun w ew => ?_⟩⟩
      have no : F (16 * T + i) ≠ nmv c b k → ∀ x6 : Int32, am_ww 205 17 [.ref 99, .int (nI b), .int (nI k), .int (nI m), .int (nI i), .int (nI 0), .int x6] [] E I J S Q := by
        intro hne x6
        apply g205_17
        refine ⟨fun _ => ⟨fun _ => ?_, fun z => absurd rfl z⟩, fun z => absurd rfl z⟩
        rw [nI_add]
        refine ih (i + 1) _ _ (by omega) rfl rfl ?_
        unfold cfs at hq
        rw [if_neg hne] at hq
        exact hq
      rcases hl i (by omega) with ⟨l1, l2⟩ | ⟨b', k', l1, l2, l3, l4, l5, l6, l7⟩
      · rw [l1, if_neg (by rw [nI_eq (by omega) (by omega)]; omega)] at ew
        rw [ew]
        refine no (fun e => ?_) _
        rw [l2] at e
        have := (nmv_0 (c := c) (b := b) h8 hL).mp e.symm
        omega
      · have hne := nmv_eq (c := c) (b := b') (b' := b) l2 h8 l7 hL
        rw [l5] at ew
        by_cases ek : k' = k
        · subst ek
          rw [if_pos rfl] at ew
          rw [ew]
          have inner : ∀ q j, q + j = k' → (∀ u, u < j → c (b' + u) = c (b + u)) → am_ww 205 17 [.ref 99, .int (nI b), .int (nI k'), .int (nI m), .int (nI i), .int (nI 1), .int (nI j)] [] E I J S Q := by
            intro q
            induction q with
            | zero =>
              intro j hj hu
              apply g205_17
              rw [nI_leI (by omega) (by omega)]
              refine ⟨fun z => absurd z (by decide), fun _ => ⟨fun _ => ⟨fun z => absurd z (by decide), fun _ => ?_⟩, fun z => absurd (by omega) z⟩⟩
              unfold cfs at hq
              rw [if_pos (l6.trans (hne.mpr ⟨rfl, fun u hu' => hu u (by omega)⟩))] at hq
              exact hq
            | succ q ihq =>
              intro j hj hu
              apply g205_17
              rw [nI_leI (by omega) (by omega), nI_clamp (show i < 2 ^ 31 by omega), l4, nI_add b j, nI_add b' j, nI_clamp (show b + j < 2 ^ 31 by omega), nI_clamp (show b' + j < 2 ^ 31 by omega), nI_add j 1, (ht.2.2 (b + j) (by omega)).2, (ht.2.2 (b' + j) (by omega)).2]
              have t1 := (ht.2.2 (b + j) (by omega)).1
              have t2 := (ht.2.2 (b' + j) (by omega)).1
              have heq := nI_eq (a := c (b + j)) (b := c (b' + j)) (by omega) (by omega)
              refine ⟨fun z => absurd z (by decide), fun _ => ⟨fun z => by omega, fun _ => ⟨vp_in_nI (by omega) (by omega), vp_in_nI (by omega) (by omega), vp_in_nI (by omega) (by omega), fun w ew => ?_⟩⟩⟩
              by_cases e : c (b + j) = c (b' + j)
              · rw [if_pos (heq.mpr e)] at ew
                rw [ew]
                refine ihq (j + 1) (by omega) (fun u hu' => ?_)
                by_cases z : u = j
                · rw [z]; exact e.symm
                · exact hu u (by omega)
              · rw [if_neg (fun z => e (heq.mp z))] at ew
                rw [ew]
                refine no (fun z => ?_) _
                rw [l6] at z
                exact e ((hne.mp z).2 j (by omega)).symm
          exact inner k' 0 (by omega) (fun u hu => by omega)
        · rw [if_neg (by rw [nI_eq (by omega) (by omega)]; exact ek)] at ew
          rw [ew]
          refine no (fun e => ?_) _
          rw [l6] at e
          exact ek (hne.mp e).1
  exact outer m 0 _ _ (by omega) rfl rfl h
end
