/-! the tape, feed -/
theorem by8 (z : Int32) : ∃ c, c < 256 ∧ z &&& nI 255 = nI c ∧ z.toInt8.toInt32 = (nI c).toInt8.toInt32 := by
  refine ⟨z.toBitVec.toNat % 256, Nat.mod_lt _ (by omega), pk_and z (m := nI 255) 8 rfl, ?_⟩
  have : z.toInt8 = (nI (z.toBitVec.toNat % 256)).toInt8 := by
    apply Int8.toBitVec_inj.mp
    apply BitVec.eq_of_toNat_eq
    show (z.toBitVec.signExtend 8).toNat = ((nI (z.toBitVec.toNat % 256)).toBitVec.signExtend 8).toNat
    rw [BitVec.signExtend_eq_setWidth_of_le _ (by omega), BitVec.signExtend_eq_setWidth_of_le _ (by omega), BitVec.toNat_setWidth, BitVec.toNat_setWidth, pk_tn (by have := Nat.mod_lt z.toBitVec.toNat (show 256 > 0 by omega); omega)]
    omega
  rw [this]
/-- the four bytes of a number -/
def byt (x : Int32) (j : Nat) : Int32 := x >>> (nI (24 - 8 * j) &&& 31)
theorem c19 {E : am_Ev} {I : Nat → Nat → Int32} {J : Nat → Nat → Int64} {S : Nat → Nat → Option Nat} {Q : am_Qt} {m : Nat} {x : Int32} (em : I 1 1 = nI m) (hm : m + 4 ≤ 700) (h : Q (.inl none) E (u_I (u_I I 2 (cpk (I 2) (fun j => (byt x j).toInt8.toInt32) m 4)) 1 (upd (I 1) 1 (nI (m + 4)))) J S) : am_cl 19 [.ref 1, .int x] E I J S Q := by
  show am_ww 19 0 [.ref 1, .int x, am_U] [] E I J S Q
  have step : ∀ j, j < 4 → am_ww 19 2 [.ref 1, .int x, .int (nI (24 - 8 * j) - nI 8)] [] E (u_I (u_I I 2 (cpk (I 2) (fun j => (byt x j).toInt8.toInt32) m (j + 1))) 1 (upd (I 1) 1 (nI (m + (j + 1))))) J S Q → am_ww 19 2 [.ref 1, .int x, .int (nI (24 - 8 * j))] [] E (u_I (u_I I 2 (cpk (I 2) (fun j => (byt x j).toInt8.toInt32) m j)) 1 (upd (I 1) 1 (nI (m + j)))) J S Q := by
    intro j hj k
    apply g19_2
    have es := cpk_s (f := I 2) (g := fun j => (byt x j).toInt8.toInt32) (o := m) (n := j)
    refine ⟨fun q => absurd q (nI_pos (by omega)), fun _ => ?_⟩
    rw [u_I_eq, u_I_ne (show 2 ≠ 1 by decide), u_I_eq, upd_eq, nI_clamp (by omega), pk_vb, uI_1]
    refine ⟨fun q => absurd q (by rw [nI_leI (by omega) (by omega)]; omega), fun _ => ⟨vp_in_nI (by omega) (by omega), ?_⟩⟩
    rw [uI_0, upd_upd, nI_add, Nat.add_assoc]
    rw [← es] at k
    exact k
  apply g19_0
  have start : u_I (u_I I 2 (cpk (I 2) (fun j => (byt x j).toInt8.toInt32) m 0)) 1 (upd (I 1) 1 (nI (m + 0))) = I := by
    rw [cpk_0, u_I_id, Nat.add_zero, ← em, upd_id rfl, u_I_id]
  have s0 := step 0 (by omega)
  rw [start] at s0
  refine s0 ?_
  refine step 1 (by omega) ?_
  refine step 2 (by omega) ?_
  refine step 3 (by omega) ?_
  apply g19_2
  exact ⟨fun _ => h, fun q => absurd (by decide) q⟩
def pk5 (a b c d e : Int32) (k : Nat) : Int32 := if 4 ≤ k then (if 8 ≤ k then (if 12 ≤ k then (if 16 ≤ k then e else d) else c) else b) else a
theorem m187_l {E : am_Ev} {I : Nat → Nat → Int32} {J : Nat → Nat → Int64} {S : Nat → Nat → Option Nat} {Q : am_Qt} {m : Nat} {a b c d e : Int32} (hm : m + 20 ≤ 700) : ∀ n k (v : Value), am_isL v = false → k + n = 20 → Q (.inl (some (.int (nI (m + 20))))) E (u_I (u_I I 111 (cpk (I 111) (fun j => byt (pk5 a b c d e j) (j % 4) &&& nI 255) m 20)) 99 (upd (I 99) 15 (nI (m + 20)))) J S → am_ww 187 13 [.ref 99, .int a, .int b, .int c, .int d, .int e, .int (nI k), v] [] E (u_I (u_I I 111 (cpk (I 111) (fun j => byt (pk5 a b c d e j) (j % 4) &&& nI 255) m k)) 99 (upd (I 99) 15 (nI (m + k)))) J S Q := by
  intro n
  induction n with
  | zero =>
    intro k v hv ek h
    have : k = 20 := by omega
    subst this
    apply g187_13 hv
    rw [u_I_eq, upd_eq]
    exact ⟨fun _ => h, fun q => absurd (Int32.le_refl _) q⟩
  | succ n ih =>
    intro k v hv ek h
    apply g187_13 hv
    have es := cpk_s (f := I 111) (g := fun j => byt (pk5 a b c d e j) (j % 4) &&& nI 255) (o := m) (n := k)
    have e15 : nI 24 - nI 8 * (nI k - nI k / nI 4 * nI 4) = nI (24 - 8 * (k % 4)) := by
      rw [nI_remI (by omega) (by omega), nI_mulI, nI_subI (by omega)]
    refine ⟨fun q => absurd q (by rw [nI_leI (by omega) (by omega)]; omega), fun _ => ?_⟩
    intro w ew
    have ew' : w = pk5 a b c d e k := by
      rw [ew]
      unfold pk5
      simp (disch := omega) only [nI_leI]
    rw [u_I_eq, u_I_ne (show 111 ≠ 99 by decide), u_I_eq, upd_eq, nI_clamp (by omega), uI_1, uI_0, upd_upd, e15, ew', nI_add, nI_add, Nat.add_assoc]
    refine ⟨vp_in_nI (by omega) (by omega), ?_⟩
    have := ih (k + 1) (.int (pk5 a b c d e k)) rfl (by omega) h
    rw [← es] at this
    exact this
theorem m187 {E : am_Ev} {I : Nat → Nat → Int32} {J : Nat → Nat → Int64} {S : Nat → Nat → Option Nat} {Q : am_Qt} {m : Nat} {a b c d e : Int32} (em : I 99 15 = nI m) (hm : m + 20 ≤ 700) (h : Q (.inl (some (.int (nI (m + 20))))) E (u_I (u_I I 111 (cpk (I 111) (fun j => byt (pk5 a b c d e j) (j % 4) &&& nI 255) m 20)) 99 (upd (upd (I 99) 3 (nI 0)) 15 (nI (m + 20)))) J S) : am_cl 187 [.ref 99, .int a, .int b, .int c, .int d, .int e] E I J S Q := by
  show am_ww 187 0 [.ref 99, .int a, .int b, .int c, .int d, .int e, am_U, am_U] [] E I J S Q
  apply g187_0
  rw [em, nI_add, nI_leI (by omega) (by omega)]
  refine ⟨fun _ => ?_, fun q => absurd hm q⟩
  have e111 : u_I I 99 (upd (I 99) 3 (nI 0)) 111 = I 111 := u_I_ne (by decide)
  have l := m187_l (E := E) (I := u_I I 99 (upd (I 99) 3 (nI 0))) (J := J) (S := S) (Q := Q) (m := m) (a := a) (b := b) (c := c) (d := d) (e := e) hm 20 0 am_U rfl (by omega)
  rw [cpk_0, u_I_id, u_I_eq, Nat.add_zero m, upd_id (show upd (I 99) 3 (nI 0) 15 = nI m by rw [upd_ne (by omega)]; exact em), uI_0, e111, uI_1] at l
  exact l h
/-- the tapes are the same -/
def tp (I : Nat → Nat → Int32) (m : Nat) : Prop := I 1 1 = nI m ∧ I 99 15 = nI m ∧ m ≤ 700 ∧ ∀ k, k < m → ∃ c, c < 256 ∧ I 111 k = nI c ∧ I 2 k = (nI c).toInt8.toInt32
/-- the class's tape behind five puts -/
theorem c18 {E : am_Ev} {I : Nat → Nat → Int32} {J : Nat → Nat → Int64} {S : Nat → Nat → Option Nat} {Q : am_Qt} {m : Nat} {a b c d e : Int32} (em : I 1 1 = nI m) (hm : m + 20 ≤ 700) (h : ∀ I', (∀ j, j < m → I' 2 j = I 2 j) → (∀ j, j < 20 → I' 2 (m + j) = (byt (pk5 a b c d e j) (j % 4)).toInt8.toInt32) → I' 1 = upd (I 1) 1 (nI (m + 20)) → fr I I' [1, 2] → Q (.inl (some (.int (nI (m + 20))))) E I' J S) : am_cl 18 [.ref 0, .int a, .int b, .int c, .int d, .int e] E I J S Q := by
  show am_ww 18 0 [.ref 0, .int a, .int b, .int c, .int d, .int e] [] E I J S Q
  apply g18_0
  rw [em, nI_add, nI_leI (by omega) (by omega)]
  refine ⟨fun _ => ?_, fun q => absurd hm q⟩
  -- one put
  have one : ∀ (I1 : Nat → Nat → Int32) (k : Nat) (x : Int32) (Q1 : am_Qt), k + 4 ≤ 20 → (∀ j, j < m → I1 2 j = I 2 j) → (∀ j, j < k → I1 2 (m + j) = (byt (pk5 a b c d e j) (j % 4)).toInt8.toInt32) → I1 1 = upd (I 1) 1 (nI (m + k)) → fr I I1 [1, 2] → k % 4 = 0 → (∀ j, j < 4 → x = pk5 a b c d e (k + j)) → (∀ I2, (∀ j, j < m → I2 2 j = I 2 j) → (∀ j, j < k + 4 → I2 2 (m + j) = (byt (pk5 a b c d e j) (j % 4)).toInt8.toInt32) → I2 1 = upd (I 1) 1 (nI (m + (k + 4))) → fr I I2 [1, 2] → Q1 (.inl none) E I2 J S) → am_cl 19 [.ref 1, .int x] E I1 J S Q1 := by
    intro I1 k x Q1 hk p1 p2 p3 p4 p5 p6 hn
    refine c19 (m := m + k) (by rw [p3, upd_eq]) (by omega) (hn _ (fun j hj => ?_) (fun j hj => ?_) ?_ ?_)
    · rw [u_I_ne (by decide), u_I_eq, cpk_out (by omega)]
      exact p1 j hj
    · rw [u_I_ne (by decide), u_I_eq]
      by_cases c : j < k
      · rw [cpk_out (by omega)]
        exact p2 j c
      · have := cpk_in (f := I1 2) (g := fun j => (byt x j).toInt8.toInt32) (o := m + k) (n := 4) (k := j - k) (by omega)
        rw [show m + k + (j - k) = m + j by omega] at this
        rw [this, p6 (j - k) (by omega), show k + (j - k) = j by omega, show j - k = j % 4 by omega]
    · rw [u_I_eq, p3, upd_upd, Nat.add_assoc]
    · intro j hj
      simp only [List.mem_cons, List.not_mem_nil, or_false, not_or] at hj
      rw [u_I_ne hj.1, u_I_ne hj.2]
      exact p4 j (by simp [hj.1, hj.2])
  refine one I 0 a _ (by omega) (fun _ _ => rfl) (fun j hj => absurd hj (by omega)) (by rw [Nat.add_zero, upd_id em]) fr_id rfl (fun j hj => by unfold pk5; rw [if_neg (by omega)]) (fun I2 q1 q2 q3 q4 => q_mkV ?_)
  refine one I2 4 b _ (by omega) q1 q2 q3 q4 rfl (fun j hj => by unfold pk5; rw [if_pos (by omega), if_neg (by omega)]) (fun I3 q1 q2 q3 q4 => q_mkV ?_)
  refine one I3 8 c _ (by omega) q1 q2 q3 q4 rfl (fun j hj => by unfold pk5; rw [if_pos (by omega), if_pos (by omega), if_neg (by omega)]) (fun I4 q1 q2 q3 q4 => q_mkV ?_)
  refine one I4 12 d _ (by omega) q1 q2 q3 q4 rfl (fun j hj => by unfold pk5; rw [if_pos (by omega), if_pos (by omega), if_pos (by omega), if_neg (by omega)]) (fun I5 q1 q2 q3 q4 => q_mkV ?_)
  refine one I5 16 e _ (by omega) q1 q2 q3 q4 rfl (fun j hj => by unfold pk5; rw [if_pos (by omega), if_pos (by omega), if_pos (by omega), if_pos (by omega)]) (fun I6 q1 q2 q3 q4 => q_mkV ?_)
  rw [q3, upd_eq]
  exact h I6 q1 q2 q3 q4
/-- feed: both tapes grow by the same twenty bytes -/
theorem k_feed {E : am_Ev} {I : Nat → Nat → Int32} {J : Nat → Nat → Int64} {S : Nat → Nat → Option Nat} {Q : am_Qt} {m i : Nat} {x4 : Int32} {d5 d6 : Value} (hd5 : am_isL d5 = false) (hd6 : am_isL d6 = false) (ht : tp I m) (hx : x4 = nI i) (hi : i + 6 ≤ E.2.2.1) (hL : E.2.2.1 ≤ 3072) (h : ∀ I' m', tp I' m' → fr I I' [1, 2, 99, 111] → (∀ f, f ≠ 3 → f ≠ 15 → I' 99 f = I 99 f) → (∀ f, f ≠ 1 → I' 1 f = I 1 f) → am_ww 291 1129 [.ref 1000000, .ref 0, .ref 99, .ref 145, .int x4, d5, d6] [] E I' J S Q) : am_ww 291 25 [.ref 1000000, .ref 0, .ref 99, .ref 145, .int x4, d5, d6] [] E I J S Q := by
  apply g291_25 hd5 hd6
  subst hx
  obtain ⟨t1, t2, t3, t4⟩ := ht
  simp (disch := omega) only [Nat.reduceEqDiff, reduceIte, nI_mulI, nI_add, nI_clamp, nI_ltI, nI_leI, nI_eq, nI_e0, nI_n0, vt, forall_eq, true_and, and_true, true_implies, forall_const, not_true_eq_false, not_false_eq_true, false_implies, implies_true]
  by_cases hm : m + 20 ≤ 700
  · refine c18 t1 hm (fun I1 p1 p2 p3 p4 => q_mkI ⟨vp_in_nI (by omega) (by omega), vp_in_nI (by omega) (by omega), vp_in_nI (by omega) (by omega), vp_in_nI (by omega) (by omega), vp_in_nI (by omega) (by omega), ?_⟩)
    have e99 : I1 99 = I 99 := p4 99 (by simp)
    have e111 : I1 111 = I 111 := p4 111 (by simp)
    refine m187 (by rw [e99]; exact t2) hm (q_mkI ⟨fun _ => h _ (m + 20) ⟨?_, ?_, hm, fun k hk => ?_⟩ ?_ ?_ ?_, fun q => absurd rfl q⟩)
    · rw [u_I_ne (by decide), u_I_ne (by decide), p3, upd_eq]
    · rw [u_I_eq, upd_eq]
    · rw [u_I_ne (by decide), u_I_eq, u_I_ne (by decide), u_I_ne (by decide)]
      by_cases c : k < m
      · rw [cpk_out (by omega), e111, p1 k c]
        exact t4 k c
      · have q := cpk_in (f := I1 111) (g := fun j => byt (pk5 (E.2.2.2 (i + 1)) (E.2.2.2 (i + 2)) (E.2.2.2 (i + 3)) (E.2.2.2 (i + 4)) (E.2.2.2 (i + 5)) j) (j % 4) &&& nI 255) (o := m) (n := 20) (k := k - m) (by omega)
        have q2 := p2 (k - m) (by omega)
        rw [show m + (k - m) = k by omega] at q q2
        rw [q, q2]
        exact by8 _
    · intro j hj
      simp only [List.mem_cons, List.not_mem_nil, or_false, not_or] at hj
      rw [u_I_ne hj.2.2.1, u_I_ne hj.2.2.2]
      exact p4 j (by simp [hj.1, hj.2.1])
    · intro f h3 h15
      rw [u_I_eq, upd_ne h15, upd_ne h3, e99]
    · intro f h1
      rw [u_I_ne (by decide), u_I_ne (by decide), p3, upd_ne h1]
  · show am_ww 18 0 [.ref 0, .int (E.2.2.2 (i + 1)), .int (E.2.2.2 (i + 2)), .int (E.2.2.2 (i + 3)), .int (E.2.2.2 (i + 4)), .int (E.2.2.2 (i + 5))] [] E I J S _
    apply g18_0
    rw [t1, nI_add, nI_leI (by omega) (by omega)]
    refine ⟨fun q => absurd q hm, fun _ => q_mkI ⟨vp_in_nI (by omega) (by omega), vp_in_nI (by omega) (by omega), vp_in_nI (by omega) (by omega), vp_in_nI (by omega) (by omega), vp_in_nI (by omega) (by omega), ?_⟩⟩
    show am_ww 187 0 [.ref 99, .int (E.2.2.2 (i + 1)), .int (E.2.2.2 (i + 2)), .int (E.2.2.2 (i + 3)), .int (E.2.2.2 (i + 4)), .int (E.2.2.2 (i + 5)), am_U, am_U] [] E I J S _
    apply g187_0
    rw [t2, nI_add, nI_leI (by omega) (by omega)]
    refine ⟨fun q => absurd q hm, fun _ => q_mkI ⟨fun _ => h _ m ⟨?_, ?_, t3, fun k hk => ?_⟩ ?_ ?_ ?_, fun q => absurd rfl q⟩⟩
    · rw [u_I_ne (by decide)]; exact t1
    · rw [u_I_eq, upd_ne (by omega)]; exact t2
    · rw [u_I_ne (by decide), u_I_ne (by decide)]; exact t4 k hk
    · exact fr_le fr_u (by simp)
    · intro f h3 _
      rw [u_I_eq, upd_ne h3]
    · intro f _
      rw [u_I_ne (by decide)]
