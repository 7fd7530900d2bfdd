/-! a step by the record -/
def m_ix (how wh k : Int32) : Int32 := if how = nI 1 then (if k < wh then k else k + nI 1) else k
def m_due (I : Nat → Nat → Int32) (i : Nat) (r : Nat → Int32) : Prop := r 44 = -1 ∨ r (16 + 6 * (r 44).toNatClampNeg + 5) = I 120 i ∧ r (16 + 6 * (r 44).toNatClampNeg + 4) = I 121 i
def m_nx (I : Nat → Nat → Int32) (how wh ins i : Int32) : Int32 := if how = nI 0 then (if i = wh then ins else I 122 (i).toNatClampNeg) else I 122 (i).toNatClampNeg
/-- r after a switch, s: a relation, so that nothing has to be decided -/
def m_tk (I : Nat → Nat → Int32) (n : Nat) (how wh ins : Int32) (r s : Nat → Int32) : Prop :=
  (¬ m_ix how wh (r 47) < nI n → s = r) ∧ (m_ix how wh (r 47) < nI n → ¬ m_due I (m_ix how wh (r 47)).toNatClampNeg r → s = r) ∧ (m_ix how wh (r 47) < nI n → m_due I (m_ix how wh (r 47)).toNatClampNeg r → s = upd (upd r 47 (r 47 + nI 1)) 44 (m_nx I how wh ins (m_ix how wh (r 47))))
theorem m_tk_u {I : Nat → Nat → Int32} {n : Nat} {how wh ins : Int32} {r s s' : Nat → Int32} (h : m_tk I n how wh ins r s) (h' : m_tk I n how wh ins r s') : s = s' := by
  by_cases c : m_ix how wh (r 47) < nI n
  · by_cases d : m_due I (m_ix how wh (r 47)).toNatClampNeg r
    · rw [h.2.2 c d, h'.2.2 c d]
    · rw [h.2.1 c d, h'.2.1 c d]
  · rw [h.1 c, h'.1 c]
/-- the input that a 'read' reads -/
def m_ri (P : Nat → Nat → Int32) (how wh ins : Int32) (r : Nat → Int32) (t : Nat) : Int32 :=
  if P 106 (m_i r t) = nI 6 then (if how = nI 2 + P 108 (m_i r t) then (if r (48 + (P 108 (m_i r t)).toNatClampNeg) = wh then ins else P 123 (30 * (P 108 (m_i r t)).toNatClampNeg + (r (48 + (P 108 (m_i r t)).toNatClampNeg)).toNatClampNeg)) else P 123 (30 * (P 108 (m_i r t)).toNatClampNeg + (r (48 + (P 108 (m_i r t)).toNatClampNeg)).toNatClampNeg)) else nI 0
/-- a step by the record: s is the row with who goes; no row: it is stuck -/
def m_rp (P : Nat → Nat → Int32) (L : Nat → Int32) (how wh ins : Int32) (s : Nat → Int32) : Option (Nat → Int32) :=
  if s 44 = -1 then none else if m_can P L s (s 44).toNatClampNeg then some (m_do P s (s 44).toNatClampNeg (m_ri P how wh ins s (s 44).toNatClampNeg)) else none
/-- what is asked of a record with n switches, altered so -/
def k_ok (I : Nat → Nat → Int32) (n : Nat) (how ins : Int32) : Prop := n ≤ 400 ∧ (∀ i, i < n → vp_in (I 122 i) (I 103 4).toNatClampNeg) ∧ (how = nI 0 → vp_in ins (I 103 4).toNatClampNeg)
theorem m_ix_in {how wh x : Int32} {k n : Nat} (hk : x = nI k) (hk4 : k ≤ 400) (hn : n ≤ 400) (h : m_ix how wh x < nI n) : ∃ i, i < n ∧ m_ix how wh x = nI i := by
  subst hk
  have : m_ix how wh (nI k) = nI k ∨ m_ix how wh (nI k) = nI (k + 1) := by
    unfold m_ix
    by_cases c : how = nI 1
    · rw [if_pos c]
      by_cases c2 : nI k < wh
      · rw [if_pos c2]; exact Or.inl rfl
      · rw [if_neg c2, nI_add]; exact Or.inr rfl
    · rw [if_neg c]; exact Or.inl rfl
  rcases this with e | e
  · rw [e] at h ⊢
    rw [nI_ltI (by omega) (by omega)] at h
    exact ⟨k, h, rfl⟩
  · rw [e] at h ⊢
    rw [nI_ltI (by omega) (by omega)] at h
    exact ⟨k + 1, h, rfl⟩
theorem m_tk_ok {I : Nat → Nat → Int32} {n k : Nat} {how wh ins : Int32} {r s : Nat → Int32} (hp : p_in I) (hr : r_ok I r) (hk : r 47 = nI k) (hk4 : k ≤ 400) (ho : k_ok I n how ins) (h : m_tk I n how wh ins r s) : r_ok I s ∧ (∀ j, j ≠ 44 → j ≠ 47 → s j = r j) ∧ (s 47 = nI k ∧ s 44 = r 44 ∨ s 47 = nI (k + 1) ∧ vp_in (s 44) (I 103 4).toNatClampNeg ∧ k + 1 ≤ n + 1) := by
  have hm := vb hp.1
  by_cases c : m_ix how wh (r 47) < nI n
  · by_cases d : m_due I (m_ix how wh (r 47)).toNatClampNeg r
    · have e := h.2.2 c d
      obtain ⟨i, hi, ei⟩ := m_ix_in hk hk4 ho.1 c
      have hx : vp_in (m_nx I how wh ins (m_ix how wh (r 47))) (I 103 4).toNatClampNeg := by
        unfold m_nx
        rw [ei, nI_clamp (by have := ho.1; omega)]
        by_cases c0 : how = nI 0
        · rw [if_pos c0]
          split
          · exact ho.2.2 c0
          · exact ho.2.1 i hi
        · rw [if_neg c0]; exact ho.2.1 i hi
      have e44 : s 44 = m_nx I how wh ins (m_ix how wh (r 47)) := by rw [e, upd_eq]
      have ej : ∀ j, j ≠ 44 → j ≠ 47 → s j = r j := fun j h1 h2 => by rw [e, upd_ne h1, upd_ne h2]
      have e47 : s 47 = nI (k + 1) := by rw [e, upd_ne (by omega), upd_eq, hk, nI_add]
      refine ⟨?_, ej, Or.inr ⟨e47, by rw [e44]; exact hx, ?_⟩⟩
      · obtain ⟨a, b, c, d⟩ := hr
        refine ⟨fun t ht => ?_, fun l hl => ?_, ?_, fun z hz => ?_⟩
        · rw [ej _ (by omega) (by omega)]; exact a t ht
        · rw [ej _ (by omega) (by omega)]; exact b l hl
        · rw [e44]; exact Or.inr hx
        · rw [ej _ (by omega) (by omega)]; exact d z hz
      · have : m_ix how wh (r 47) = nI k ∨ m_ix how wh (r 47) = nI (k + 1) := by
          rw [hk]
          unfold m_ix
          by_cases c : how = nI 1
          · rw [if_pos c]
            by_cases c2 : nI k < wh
            · rw [if_pos c2]; exact Or.inl rfl
            · rw [if_neg c2, nI_add]; exact Or.inr rfl
          · rw [if_neg c]; exact Or.inl rfl
        have hn := ho.1
        rcases this with e | e <;> rw [e, nI_eq (by omega) (by omega)] at ei <;> omega
    · have e := h.2.1 c d
      subst e
      exact ⟨hr, fun _ _ _ => rfl, Or.inl ⟨hk, rfl⟩⟩
  · have e := h.1 c
    subst e
    exact ⟨hr, fun _ _ _ => rfl, Or.inl ⟨hk, rfl⟩⟩
theorem m279 {E : am_Ev} {I : Nat → Nat → Int32} {J : Nat → Nat → Int64} {S : Nat → Nat → Option Nat} {Q : am_Qt} {n k T : Nat} (hp : p_in I) (hr : r_ok I (I 116)) (hk : I 116 47 = nI k) (hk4 : k ≤ 400) (hT : I 99 12 = nI T) (hT4 : T ≤ 400) (hn : I 117 (51 * T + 47) = nI n) (ho : k_ok I n (I 99 51) (I 99 53)) (h : ∀ s, m_tk I n (I 99 51) (I 99 52) (I 99 53) (I 116) s → Q (.inl none) E (u_I I 116 s) J S) : am_cl 279 [.ref 99] E I J S Q := by
  show am_ww 279 0 [.ref 99, am_U, am_U, am_U] [] E I J S Q
  have hm := vb hp.1
  have hn4 := ho.1
  apply g279_0
  have hid : u_I I 116 (I 116) = I := u_I_id
  intro w3 e3
  have e3' : w3 = m_ix (I 99 51) (I 99 52) (I 116 47) := e3
  rw [hT]
  simp (disch := omega) only [Nat.reduceEqDiff, reduceIte, nI_mulI, nI_add, nI_clamp, nI_ltI, nI_leI, nI_eq, nI_e0, nI_n0, vt, forall_eq, true_and, and_true, true_implies, forall_const, not_true_eq_false, not_false_eq_true, false_implies, implies_true, hn]
  rw [e3']
  refine ⟨fun c => ?_, fun c => ?_⟩
  · obtain ⟨i, hi, ei⟩ := m_ix_in hk hk4 hn4 c
    have hi4 : (m_ix (I 99 51) (I 99 52) (I 116 47)).toNatClampNeg = i := by rw [ei, nI_clamp (by omega)]
    have take : m_due I i (I 116) → ∀ v : Value, am_isL v = false → am_ww 279 58 [.ref 99, .int (I 116 47), .int (m_ix (I 99 51) (I 99 52) (I 116 47)), v] [] E I J S Q := by
      intro d v hv
      apply g279_58 rfl hv
      have fin : ∀ y : Int32, y = m_nx I (I 99 51) (I 99 52) (I 99 53) (m_ix (I 99 51) (I 99 52) (I 116 47)) → Q (.inl none) E (u_I I 116 (upd (upd (I 116) 47 (I 116 47 + nI 1)) 44 y)) J S := by
        intro y ey
        refine h _ ⟨fun q => absurd c q, fun _ q => absurd (by rw [hi4]; exact d) q, fun _ _ => by rw [ey]⟩
      have hv4 : vp_in (m_ix (I 99 51) (I 99 52) (I 116 47)) 400 := by rw [ei]; exact vp_in_nI (by omega) (by omega)
      refine ⟨⟨fun _ => ⟨fun _ => trivial, fun _ => ⟨hv4, trivial⟩⟩, fun _ => ⟨hv4, trivial⟩⟩, fun w e => fin w ?_⟩
      unfold m_nx
      rw [nI_0]
      exact e
    refine ⟨fun c44 => take (Or.inl c44) _ rfl, fun c44 => ?_⟩
    have h44 := hr.2.2.1.resolve_left c44
    have b44 := vb h44
    have skip : ¬ m_due I i (I 116) → Q (.inl none) E I J S := by
      intro d
      have := h (I 116) ⟨fun q => absurd c q, fun _ _ => rfl, fun _ q => absurd (by rw [hi4] at q; exact q) d⟩
      rw [hid] at this
      exact this
    obtain ⟨C, hC, eC⟩ := vn h44
    have hC' : (I 116 44).toNatClampNeg = C := by rw [eC, nI_clamp (by omega)]
    have tk := fun d => take d (.int (I 116 44)) rfl
    rw [ei, eC] at tk
    rw [ei, eC]
    simp (disch := omega) only [Nat.reduceEqDiff, reduceIte, nI_mulI, nI_add, nI_clamp, nI_ltI, nI_leI, nI_eq, nI_e0, nI_n0, vt, forall_eq, true_and, and_true, true_implies, forall_const, not_true_eq_false, not_false_eq_true, false_implies, implies_true]
    refine ⟨fun c5 => ⟨fun c4 => ?_, fun c4 => skip ?_⟩, fun c5 => skip ?_⟩
    · refine tk (Or.inr ?_)
      rw [hC']
      exact ⟨c5, c4⟩
    · intro d
      rcases d with d | d
      · exact c44 d
      · rw [hC'] at d
        exact c4 d.2
    · intro d
      rcases d with d | d
      · exact c44 d
      · rw [hC'] at d
        exact c5 d.1
  · have := h (I 116) ⟨fun _ => rfl, fun q => absurd q c, fun q => absurd q c⟩
    rw [hid] at this
    exact this
theorem m278 {E : am_Ev} {I : Nat → Nat → Int32} {J : Nat → Nat → Int64} {S : Nat → Nat → Option Nat} {Q : am_Qt} {n k T : Nat} {L : Nat → Int32} (hp : p_in I) (hr : r_ok I (I 116)) (hk : I 116 47 = nI k) (hk4 : k ≤ 400) (hT : I 99 12 = nI T) (hT4 : T ≤ 400) (hn : I 117 (51 * T + 47) = nI n) (ho : k_ok I n (I 99 51) (I 99 53)) (hL : ∀ s, s < 3 → I 117 (51 * T + (48 + s)) = L s ∧ vp_in (L s) 31)
    (h0 : ∀ s, m_tk I n (I 99 51) (I 99 52) (I 99 53) (I 116) s → m_rp I L (I 99 51) (I 99 52) (I 99 53) s = none → Q (.inl (some (.int (nI 0)))) E (u_I I 116 s) J S)
    (h1 : ∀ s r I', m_tk I n (I 99 51) (I 99 52) (I 99 53) (I 116) s → m_rp I L (I 99 51) (I 99 52) (I 99 53) s = some r → I' 116 = r → fr I I' [99, 116] → (∀ f, f ≠ 39 → f ≠ 40 → I' 99 f = I 99 f) → Q (.inl (some (.int (nI 1)))) E I' J S) : am_cl 278 [.ref 99] E I J S Q := by
  show am_ww 278 0 [.ref 99, am_U, am_U] [] E I J S Q
  have hm := vb hp.1
  apply g278_0
  refine m279 hp hr hk hk4 hT hT4 hn ho (fun s hs => q_mkV ?_)
  obtain ⟨hrs, hsj, hs47⟩ := m_tk_ok hp hr hk hk4 ho hs
  have h0' := h0 s hs
  have h1' := fun r I' => h1 s r I' hs
  have f1 : fr I (u_I I 116 s) [116] := fr_u
  have e116 : u_I I 116 s 116 = s := u_I_eq
  generalize u_I I 116 s = I1 at f1 e116 h0' ⊢
  have hpe : p_eq I I1 := p_eq_fr f1 (by simp)
  have e99 : I1 99 = I 99 := f1 99 (by simp)
  have e117 : I1 117 = I 117 := f1 117 (by simp)
  have e123 : I1 123 = I 123 := f1 123 (by simp)
  have e105 := hpe 105 (by omega) (by omega)
  have e106 := hpe 106 (by omega) (by omega)
  have e107 := hpe 107 (by omega) (by omega)
  have e108 := hpe 108 (by omega) (by omega)
  have e103 := hpe 103 (by omega) (by omega)
  rw [e116]
  refine ⟨fun c => h0' (if_pos c), fun c44 => ?_⟩
  have h44 := hrs.2.2.1.resolve_left c44
  have b44 := vb h44
  obtain ⟨p, m, ep, em, hpm, hm16, hi, ht4, hok⟩ := r_at hp hrs b44
  have hrp : m_rp I L (I 99 51) (I 99 52) (I 99 53) s = if m_can I L s (s 44).toNatClampNeg then some (m_do I s (s 44).toNatClampNeg (m_ri I (I 99 51) (I 99 52) (I 99 53) s (s 44).toNatClampNeg)) else none := if_neg c44
  have e44 := vc h44
  generalize hC : (s 44).toNatClampNeg = C at *
  rw [e44]
  simp (disch := omega) only [Nat.reduceEqDiff, reduceIte, nI_mulI, nI_add, nI_clamp, nI_ltI, nI_leI, nI_eq, nI_e0, nI_n0, vt, forall_eq, true_and, and_true, true_implies, forall_const, not_true_eq_false, not_false_eq_true, false_implies, implies_true, e105, ep, em]
  refine ⟨fun c => ?_, fun c => h0' ?_⟩
  · obtain ⟨o, ho', eo, q1, q2, q3, q4, q5, q6⟩ := hok c
    have hlt : s (16 + 6 * C + 4) < I 105 C := by rw [ep, em, nI_ltI (by omega) (by omega)]; exact c
    rw [e106, eo]
    simp (disch := omega) only [Nat.reduceEqDiff, reduceIte, nI_mulI, nI_add, nI_clamp, nI_ltI, nI_leI, nI_eq, nI_e0, nI_n0, vt, forall_eq, true_and, and_true, true_implies, forall_const, not_true_eq_false, not_false_eq_true, false_implies, implies_true, e106, eo]
    -- the instruction is done
    have go : m_can I L s C = true → am_ww 278 65 [.ref 99, .int (nI C), .int (nI (16 * C + p))] [] E I1 J S Q := by
      intro hcan
      rw [if_pos hcan] at hrp
      have fin : ∀ x, x = m_ri I (I 99 51) (I 99 52) (I 99 53) s C → am_cl 240 [.ref 99, .int x] E I1 J S (q_V fun E8 I8 J8 S8 => Q (.inl (some (.int (nI 1)))) E8 I8 J8 S8) := by
        intro x ex
        refine m240 (T := C) ((p_in_e hpe).mpr hp) (by rw [e116]; exact (r_ok_e hpe).mpr hrs) (by rw [e103]; exact b44) (by rw [e116]; exact e44) (by rw [e116, e105]; exact hlt) (q_mkV ?_)
        refine h1' _ _ hrp ?_ ?_ ?_
        · rw [u_I_eq, e116, m_do_e hpe, ex]
        · exact fr_le (fr_up (fr_up f1)) (by simp)
        · intro f n1 n2
          rw [u_I_ne (by decide), u_I_eq, upd_ne n2, upd_ne n1, e99]
      have hg := (m_can_t hcan).2.1
      rw [hi, eo] at hg
      apply g278_65 rfl
      rw [e99, e123, e116]
      simp (disch := omega) only [Nat.reduceEqDiff, reduceIte, nI_mulI, nI_add, nI_clamp, nI_ltI, nI_leI, nI_eq, nI_e0, nI_n0, vt, forall_eq, true_and, and_true, true_implies, forall_const, not_true_eq_false, not_false_eq_true, false_implies, implies_true, e106, eo, e108]
      refine ⟨fun c6 => ?_, fun c6 => ?_⟩
      · obtain ⟨z, hz, ez⟩ := vn (q5 c6)
        obtain ⟨y, hy, ey⟩ := vn (hrs.2.2.2 z hz)
        have hg' := hg (by rw [c6])
        rw [ez, nI_clamp (by omega), ey] at hg'
        obtain ⟨w, hw, ew⟩ := vn (hL z hz).2
        rw [ew, nI_ltI (by omega) (by omega)] at hg'
        have er : m_ri I (I 99 51) (I 99 52) (I 99 53) s C = if I 99 51 = nI (2 + z) then (if nI y = I 99 52 then I 99 53 else I 123 (30 * z + y)) else I 123 (30 * z + y) := by
          unfold m_ri
          rw [hi, eo, if_pos (by rw [c6])]
          simp (disch := omega) only [Nat.reduceEqDiff, reduceIte, nI_mulI, nI_add, nI_clamp, nI_ltI, nI_leI, nI_eq, nI_e0, nI_n0, vt, forall_eq, true_and, and_true, true_implies, forall_const, not_true_eq_false, not_false_eq_true, false_implies, implies_true, ez, ey]
        simp (disch := omega) only [Nat.reduceEqDiff, reduceIte, nI_mulI, nI_add, nI_clamp, nI_ltI, nI_leI, nI_eq, nI_e0, nI_n0, vt, forall_eq, true_and, and_true, true_implies, forall_const, not_true_eq_false, not_false_eq_true, false_implies, implies_true, ez, ey, and_self]
        exact fin _ er.symm
      · refine fin _ ?_
        unfold m_ri
        rw [hi, eo, if_neg (by rw [nI_eq (by omega) (by omega)]; exact c6)]
    have stuck : m_can I L s C = false → Q (.inl (some (.int (nI 0)))) E I1 J S := fun q => h0' (by rw [hrp, q]; rfl)
    have ecan : m_can I L s C = (if o = 7 then decide (s (40 + (I 107 (16 * C + p)).toNatClampNeg) = -1) else if o = 6 then decide (s (48 + (I 108 (16 * C + p)).toNatClampNeg) < L (I 108 (16 * C + p)).toNatClampNeg) else true) := by
      unfold m_can
      rw [decide_eq_true hlt, Bool.true_and, hi, eo]
      simp (disch := omega) only [nI_eq]
    -- the test of a 'read'
    have rd : (o = 7 → m_can I L s C = true) → am_ww 278 37 [.ref 99, .int (nI C), .int (nI (16 * C + p))] [] E I1 J S Q := by
      intro h7
      apply g278_37 rfl
      rw [e99, e116, e117, hT]
      simp (disch := omega) only [Nat.reduceEqDiff, reduceIte, nI_mulI, nI_add, nI_clamp, nI_ltI, nI_leI, nI_eq, nI_e0, nI_n0, vt, forall_eq, true_and, and_true, true_implies, forall_const, not_true_eq_false, not_false_eq_true, false_implies, implies_true, e106, eo, e108]
      refine ⟨fun c6 => ?_, fun c6 => go ?_⟩
      · obtain ⟨z, hz, ez⟩ := vn (q5 c6)
        obtain ⟨y, hy, ey⟩ := vn (hrs.2.2.2 z hz)
        rw [if_neg (by omega), if_pos c6, ez, nI_clamp (by omega)] at ecan
        have hLz := (hL z hz).1
        simp (disch := omega) only [Nat.reduceEqDiff, reduceIte, nI_mulI, nI_add, nI_clamp, nI_ltI, nI_leI, nI_eq, nI_e0, nI_n0, vt, forall_eq, true_and, and_true, true_implies, forall_const, not_true_eq_false, not_false_eq_true, false_implies, implies_true, ez, hLz]
        refine ⟨fun c => go ?_, fun c => stuck ?_⟩
        · rw [ecan]; exact decide_eq_true c
        · rw [ecan]; exact decide_eq_false c
      · by_cases c7 : o = 7
        · exact h7 c7
        · rw [ecan, if_neg c7, if_neg c6]
    refine ⟨fun c7 => ?_, fun c7 => rd (fun q => absurd q c7)⟩
    obtain ⟨z, hz, ez⟩ := vn (q2 (by omega) (by omega) (by omega))
    rw [if_pos c7, ez, nI_clamp (by omega)] at ecan
    rw [e107]
    simp (disch := omega) only [Nat.reduceEqDiff, reduceIte, nI_mulI, nI_add, nI_clamp, nI_ltI, nI_leI, nI_eq, nI_e0, nI_n0, vt, forall_eq, true_and, and_true, true_implies, forall_const, not_true_eq_false, not_false_eq_true, false_implies, implies_true, ez]
    refine ⟨fun c => rd (fun _ => ?_), fun c => stuck ?_⟩
    · rw [ecan]; exact decide_eq_true c
    · rw [ecan]; exact decide_eq_false c
  · rw [hrp, if_neg]
    unfold m_can
    rw [ep, em, decide_eq_false (by rw [nI_ltI (by omega) (by omega)]; exact c), Bool.false_and]
    exact Bool.false_ne_true
