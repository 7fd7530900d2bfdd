/-! the class: a step by the record -/
def sq (I : Nat → Nat → Int32) (n : Nat) : Prop := I 18 9 = nI n ∧ ∀ i, i < n → I 29 i = I 120 i ∧ I 30 i = I 121 i ∧ I 31 i = I 122 i
/-- the inputs that the record has: L of each source -/
def lq (I : Nat → Nat → Int32) (L : Nat → Int32) : Prop := ∀ s, s < 3 → I 26 s = L s ∧ vp_in (L s) 31 ∧ ∀ i, i < (L s).toNatClampNeg → I 27 (s * 30 + i) = I 123 (30 * s + i)
theorem m_rp_e {P P' : Nat → Nat → Int32} {L s : Nat → Int32} {how wh ins : Int32} (h : p_eq P P') (h3 : P' 123 = P 123) : m_rp P' L how wh ins s = m_rp P L how wh ins s := by
  unfold m_rp m_ri
  rw [m_can_e h, m_do_e h, h 106 (by omega) (by omega), h 108 (by omega) (by omega), h3]
theorem c48_60 {E : am_Ev} {I : Nat → Nat → Int32} {J : Nat → Nat → Int64} {S : Nat → Nat → Option Nat} {Q : am_Qt} {r : Nat → Int32} {n k : Nat} (hp : p_in I) (hr : r_ok I r) (hm : rm I 61 r) (hk : r 47 = nI k) (hk4 : k ≤ 400) (h2 : I 60 2 = r 47) (hs : sq I n) (ho : k_ok I n (I 60 4) (I 60 6))
    (h : ∀ s I', m_tk I n (I 60 4) (I 60 5) (I 60 6) r s → rm I' 61 s → I' 60 = upd (I 60) 2 (s 47) → fr I I' [60, 61] → Q (.inl none) E I' J S) : am_cl 48 [.ref 60, .ref 18] E I J S Q := by
  show am_ww 48 0 [.ref 60, .ref 18, am_U, am_U, am_U] [] E I J S Q
  have hmm := vb hp.1
  have hn4 := ho.1
  have e44 : I 61 6 = r 44 := hm.2.2.2.2.2.1
  have same : m_tk I n (I 60 4) (I 60 5) (I 60 6) r r → Q (.inl none) E I J S := by
    intro ht
    refine h r I ht hm ?_ fr_id
    rw [← h2, upd_id rfl]
  apply g48_0_60
  rw [h2, hs.1, e44]
  intro w3 e3
  have e3' : w3 = m_ix (I 60 4) (I 60 5) (r 47) := e3
  rw [e3']
  refine ⟨fun c => g48_50_60 rfl rfl (same ⟨fun _ => rfl, fun q => absurd q (Int32.not_lt.mpr c), fun q => absurd q (Int32.not_lt.mpr c)⟩), fun c => ?_⟩
  have c := Int32.not_le.mp c
  obtain ⟨i, hi, ei⟩ := m_ix_in hk hk4 hn4 c
  have hi4 : (m_ix (I 60 4) (I 60 5) (r 47)).toNatClampNeg = i := by rw [ei, nI_clamp (by omega)]
  have hv4 : vp_in (m_ix (I 60 4) (I 60 5) (r 47)) 400 := by rw [ei]; exact vp_in_nI (by omega) (by omega)
  obtain ⟨s1, s2, s3⟩ := hs.2 i hi
  have hin : ¬ r 44 = -1 → vp_in (r 44) 4 := fun c => vl (hr.2.2.1.resolve_left c) (by omega)
  refine ⟨⟨fun _ => trivial, fun d => ⟨hin d, hv4, fun _ => ⟨hin d, hv4, trivial⟩, fun _ => trivial⟩⟩, ?_⟩
  intro w7 e7
  have f7 : (¬ w7 = 0) ↔ m_due I i r := by
    rw [e7, hi4, s1, s2]
    unfold m_due
    by_cases d : r 44 = -1
    · rw [if_pos d]
      exact ⟨fun _ => Or.inl d, fun _ => by decide⟩
    · rw [if_neg d, hm.2.2.2.1 _ (vb (hin d)), hm.2.2.1 _ (vb (hin d))]
      by_cases d1 : r (16 + 6 * (r 44).toNatClampNeg + 5) = I 120 i
      · rw [if_pos d1]
        by_cases d2 : r (16 + 6 * (r 44).toNatClampNeg + 4) = I 121 i
        · rw [if_pos d2]
          exact ⟨fun _ => Or.inr ⟨d1, d2⟩, fun _ => by decide⟩
        · rw [if_neg d2]
          exact ⟨fun q => absurd nI_0 q, fun q => by rcases q with q | q; exact absurd q d; exact absurd q.2 d2⟩
      · rw [if_neg d1]
        exact ⟨fun q => absurd nI_0 q, fun q => by rcases q with q | q; exact absurd q d; exact absurd q.1 d1⟩
  refine ⟨fun z => same ⟨fun q => absurd c q, fun _ _ => rfl, fun _ q => absurd z (f7.mpr (by rw [hi4] at q; exact q))⟩, fun z => ?_⟩
  have hd := f7.mp z
  refine ⟨⟨fun _ => ⟨fun _ => trivial, fun _ => ⟨hv4, trivial⟩⟩, fun _ => ⟨hv4, trivial⟩⟩, ?_⟩
  intro w10 e10
  have f10 : w10 = m_nx I (I 60 4) (I 60 5) (I 60 6) (m_ix (I 60 4) (I 60 5) (r 47)) := by
    rw [e10]
    unfold m_nx
    rw [hi4, s3, nI_0]
  subst f10
  refine h (upd (upd r 47 (r 47 + nI 1)) 44 (m_nx I (I 60 4) (I 60 5) (I 60 6) (m_ix (I 60 4) (I 60 5) (r 47)))) _ ⟨fun q => absurd c q, fun _ q => absurd (by rw [hi4]; exact hd) q, fun _ _ => rfl⟩ ?_ ?_ ?_
  · refine rm_e (I := u_I I 61 (upd (I 61) 6 (m_nx I (I 60 4) (I 60 5) (I 60 6) (m_ix (I 60 4) (I 60 5) (r 47))))) (rm_cur (rm_c hm (c_eq_upd (c_eq_refl r) (by omega)))) (fun k h1 h2 => u_I_ne (by omega))
  · rw [u_I_eq, upd_ne (show 47 ≠ 44 by decide), upd_eq]
  · exact fr_le (fr_up fr_u) (by simp)
theorem c49_60 {E : am_Ev} {I : Nat → Nat → Int32} {J : Nat → Nat → Int64} {S : Nat → Nat → Option Nat} {Q : am_Qt} {r L : Nat → Int32} {z y : Nat} (hm : rm I 61 r) (hl : lq I L) (hz : z < 3) (ey : r (48 + z) = nI y) (hy : y < (L z).toNatClampNeg) (h : Q (.inl (some (.int (if I 60 4 = nI (2 + z) then (if nI y = I 60 5 then I 60 6 else I 123 (30 * z + y)) else I 123 (30 * z + y))))) E I J S) : am_cl 49 [.ref 60, .ref 18, .int (nI z)] E I J S Q := by
  show am_ww 49 0 [.ref 60, .ref 18, .int (nI z), am_U] [] E I J S Q
  obtain ⟨l1, l2, l3⟩ := hl z hz
  have l4 := vb l2
  have e26 : I 67 z = nI y := (hm.2.2.2.2.2.2 z hz).trans ey
  have e27 := l3 y hy
  apply g49_0_60
  simp (disch := omega) only [Nat.reduceEqDiff, reduceIte, nI_mulI, nI_add, nI_clamp, nI_ltI, nI_leI, nI_eq, nI_e0, nI_n0, vt, forall_eq, true_and, and_true, true_implies, forall_const, not_true_eq_false, not_false_eq_true, false_implies, implies_true, e26, and_self]
  have hf : ¬ (30 ≤ y) := by omega
  refine ⟨fun c => ⟨fun c2 => ?_, fun c2 => ?_⟩, fun c => ?_⟩
  · rw [if_pos c, if_pos c2] at h
    exact h
  · rw [if_pos c, if_neg c2] at h
    rw [if_neg hf, e27]
    exact h
  · rw [if_neg c] at h
    rw [if_neg hf, e27]
    exact h
theorem c47_60 {E : am_Ev} {I : Nat → Nat → Int32} {J : Nat → Nat → Int64} {S : Nat → Nat → Option Nat} {Q : am_Qt} {r L : Nat → Int32} {n k : Nat} (hp : p_in I) (hc : p_cl I) (hr : r_ok I r) (hm : rm I 61 r) (hk : r 47 = nI k) (hk4 : k ≤ 400) (h2 : I 60 2 = r 47) (h3 : I 60 3 = 0) (hs : sq I n) (ho : k_ok I n (I 60 4) (I 60 6)) (hl : lq I L)
    (h0 : ∀ s I', m_tk I n (I 60 4) (I 60 5) (I 60 6) r s → m_rp I L (I 60 4) (I 60 5) (I 60 6) s = none → I' 60 3 = nI 1 → I' 60 1 = I 60 1 → fb I I' 60 67 → Q (.inl (some (.int (nI 0)))) E I' J S)
    (h1 : ∀ s r' I', m_tk I n (I 60 4) (I 60 5) (I 60 6) r s → m_rp I L (I 60 4) (I 60 5) (I 60 6) s = some r' → rm I' 61 r' → I' 60 = upd (upd (I 60) 2 (s 47)) 1 (I 60 1 + nI 1) → fb I I' 60 67 → Q (.inl (some (.int (nI 1)))) E I' J S) : am_cl 47 [.ref 60, .ref 12, .ref 18] E I J S Q := by
  show am_ww 47 0 [.ref 60, .ref 12, .ref 18, am_U] [] E I J S Q
  have hmm := vb hp.1
  apply g47_0_60
  refine ⟨fun _ => ?_, fun q => absurd h3 q⟩
  refine c48_60 hp hr hm hk hk4 h2 hs ho (fun s I1 hs1 hm1 ev1 f1 => q_mkV ?_)
  have h0' := fun I' => h0 s I' hs1
  have h1' := fun r' I' => h1 s r' I' hs1
  obtain ⟨hrs, hsj, hs47⟩ := m_tk_ok hp hr hk hk4 ho hs1
  have fb1 : fb I I1 60 67 := fun j hj => f1 j (by simp; omega)
  have hq1 : p_q I I1 := p_q_fb fb1 (by omega)
  have hp1 : p_in I1 := (p_in_e hq1.2).mpr hp
  have hc1 : p_cl I1 := (p_cl_e hq1).mpr hc
  have hr1 : r_ok I1 s := (r_ok_e hq1.2).mpr hrs
  have e123 : I1 123 = I 123 := fb1 123 (by omega)
  have hl1 : lq I1 L := by unfold lq; rw [fb1 26 (by omega), fb1 27 (by omega), e123]; exact hl
  have e103 : I1 103 = I 103 := fb1 103 (by omega)
  have e105 : I1 105 = I 105 := fb1 105 (by omega)
  have e106 : I1 106 = I 106 := fb1 106 (by omega)
  have e108 : I1 108 = I 108 := fb1 108 (by omega)
  have ev : ∀ f, f ≠ 2 → I1 60 f = I 60 f := fun f hf => by rw [ev1, upd_ne hf]
  have stuck : m_rp I L (I 60 4) (I 60 5) (I 60 6) s = none → Q (.inl (some (.int (nI 0)))) E (u_I I1 60 (upd (I1 60) 3 (nI 1))) J S := by
    intro q
    refine h0' _ q ?_ ?_ (fb_u fb1 (by omega) (by omega))
    · rw [u_I_eq, upd_eq]
    · rw [u_I_eq, upd_ne (by omega), ev 1 (by omega)]
  by_cases c44 : s 44 = -1
  · have e44 : I1 61 6 = -1 := hm1.2.2.2.2.2.1.trans c44
    rw [e44]
    exact c23n_61 (q_mkI ⟨fun _ => stuck (if_pos c44), fun z => absurd nI_0 z⟩)
  · have h44 := hrs.2.2.1.resolve_left c44
    have b44 := vb h44
    have e44 : I1 61 6 = nI (s 44).toNatClampNeg := hm1.2.2.2.2.2.1.trans (vc h44)
    have hrp : m_rp I L (I 60 4) (I 60 5) (I 60 6) s = if m_can I L s (s 44).toNatClampNeg then some (m_do I s (s 44).toNatClampNeg (m_ri I (I 60 4) (I 60 5) (I 60 6) s (s 44).toNatClampNeg)) else none := if_neg c44
    rw [e44]
    refine c23_61 hp1 hc1 hr1 hm1 (by rw [e103]; exact b44) (q_mkI ?_)
    have hcG : m_can I1 (I1 26) s (s 44).toNatClampNeg = m_can I L s (s 44).toNatClampNeg := by
      rw [m_can_e hq1.2, fb1 26 (by omega)]
      exact m_can_G hp hrs b44 (fun z hz => (hl z hz).1)
    rw [hcG, bI_0]
    refine ⟨fun cc => stuck (by rw [hrp, cc]; rfl), fun cc => ?_⟩
    rw [Bool.not_eq_false] at cc
    rw [if_pos cc] at hrp
    obtain ⟨g1, g2, g3⟩ := m_can_t cc
    obtain ⟨p, m, ep, em, hpm, hm16, hi, ht4, hok⟩ := r_at hp hrs b44
    have e44s := vc h44
    generalize (s 44).toNatClampNeg = C at *
    have fin : ∀ x, x = m_ri I (I 60 4) (I 60 5) (I 60 6) s C → am_cl 36 [.ref 61, .ref 12, .int x] E I1 J S (q_V fun E6 I6 J6 S6 => Q (.inl (some (.int (nI 1)))) E6 (u_I I6 60 (upd (I6 60) 1 (((I6 60) 1) + (nI 1)))) J6 S6) := by
      intro x ex
      refine c36_61 hp1 hc1 hr1 hm1 (by rw [e103]; exact b44) e44s (by rw [e105]; exact g1) (fun I6 a6 b6 => q_mkV ?_)
      rw [m_do_e hq1.2, ex] at a6
      have e6v : I6 60 = I1 60 := b6 60 (by omega)
      refine h1' _ _ hrp (rm_e a6 (fun j h1 h2 => u_I_ne (by omega))) ?_ (fb_u (fb_tr fb1 (fb_le b6 (by omega) (by omega))) (by omega) (by omega))
      rw [u_I_eq, e6v, ev 1 (by omega), ev1]
    refine c34_61 hp1 hc1 hr1 hm1 (by rw [e103]; exact b44) e44s (by rw [e105]; exact g1) (fun c => q_mkI ?_) (fun c => q_mkI ?_)
    · rw [e106, hi] at c
      rw [e108, hi]
      have g1' := g1
      rw [ep, em, nI_ltI (by omega) (by omega)] at g1'
      obtain ⟨o, ho', eo, q1, q2, q3, q4, q5, q6⟩ := hok g1'
      have o6 : o = 6 := by rw [eo, nI_eq (by omega) (by omega)] at c; exact c
      obtain ⟨z, hz, ez⟩ := vn (q5 o6)
      obtain ⟨y, hy, ey⟩ := vn (hrs.2.2.2 z hz)
      have g2' := g2 (by rw [hi]; exact c)
      rw [hi, ez, nI_clamp (by omega), ey] at g2'
      obtain ⟨w, hw, ew⟩ := vn (hl z hz).2.1
      rw [ew, nI_ltI (by omega) (by omega)] at g2'
      have er : m_ri I (I 60 4) (I 60 5) (I 60 6) s C = if I 60 4 = nI (2 + z) then (if nI y = I 60 5 then I 60 6 else I 123 (30 * z + y)) else I 123 (30 * z + y) := by
        unfold m_ri
        rw [hi, if_pos c]
        simp (disch := omega) only [Nat.reduceEqDiff, reduceIte, nI_mulI, nI_add, nI_clamp, nI_ltI, nI_leI, nI_eq, nI_e0, nI_n0, vt, forall_eq, true_and, and_true, true_implies, forall_const, not_true_eq_false, not_false_eq_true, false_implies, implies_true, ez, ey]
      rw [ez]
      refine ⟨fun q => absurd q (nI_nm (by omega)), fun _ => ?_⟩
      refine c49_60 (y := y) hm1 hl1 hz ey (by rw [ew, nI_clamp (by omega)]; exact g2') (q_mkI ?_)
      rw [ev 4 (by omega), ev 5 (by omega), ev 6 (by omega), e123]
      exact fin _ er.symm
    · rw [e106] at c
      refine ⟨fun _ => fin _ ?_, fun q => absurd rfl q⟩
      unfold m_ri
      rw [if_neg c]
theorem c48_68 {E : am_Ev} {I : Nat → Nat → Int32} {J : Nat → Nat → Int64} {S : Nat → Nat → Option Nat} {Q : am_Qt} {r : Nat → Int32} {n k : Nat} (hp : p_in I) (hr : r_ok I r) (hm : rm I 69 r) (hk : r 47 = nI k) (hk4 : k ≤ 400) (h2 : I 68 2 = r 47) (hs : sq I n) (ho : k_ok I n (I 68 4) (I 68 6))
    (h : ∀ s I', m_tk I n (I 68 4) (I 68 5) (I 68 6) r s → rm I' 69 s → I' 68 = upd (I 68) 2 (s 47) → fr I I' [68, 69] → Q (.inl none) E I' J S) : am_cl 48 [.ref 68, .ref 18] E I J S Q := by
  show am_ww 48 0 [.ref 68, .ref 18, am_U, am_U, am_U] [] E I J S Q
  have hmm := vb hp.1
  have hn4 := ho.1
  have e44 : I 69 6 = r 44 := hm.2.2.2.2.2.1
  have same : m_tk I n (I 68 4) (I 68 5) (I 68 6) r r → Q (.inl none) E I J S := by
    intro ht
    refine h r I ht hm ?_ fr_id
    rw [← h2, upd_id rfl]
  apply g48_0_68
  rw [h2, hs.1, e44]
  intro w3 e3
  have e3' : w3 = m_ix (I 68 4) (I 68 5) (r 47) := e3
  rw [e3']
  refine ⟨fun c => g48_50_68 rfl rfl (same ⟨fun _ => rfl, fun q => absurd q (Int32.not_lt.mpr c), fun q => absurd q (Int32.not_lt.mpr c)⟩), fun c => ?_⟩
  have c := Int32.not_le.mp c
  obtain ⟨i, hi, ei⟩ := m_ix_in hk hk4 hn4 c
  have hi4 : (m_ix (I 68 4) (I 68 5) (r 47)).toNatClampNeg = i := by rw [ei, nI_clamp (by omega)]
  have hv4 : vp_in (m_ix (I 68 4) (I 68 5) (r 47)) 400 := by rw [ei]; exact vp_in_nI (by omega) (by omega)
  obtain ⟨s1, s2, s3⟩ := hs.2 i hi
  have hin : ¬ r 44 = -1 → vp_in (r 44) 4 := fun c => vl (hr.2.2.1.resolve_left c) (by omega)
  refine ⟨⟨fun _ => trivial, fun d => ⟨hin d, hv4, fun _ => ⟨hin d, hv4, trivial⟩, fun _ => trivial⟩⟩, ?_⟩
  intro w7 e7
  have f7 : (¬ w7 = 0) ↔ m_due I i r := by
    rw [e7, hi4, s1, s2]
    unfold m_due
    by_cases d : r 44 = -1
    · rw [if_pos d]
      exact ⟨fun _ => Or.inl d, fun _ => by decide⟩
    · rw [if_neg d, hm.2.2.2.1 _ (vb (hin d)), hm.2.2.1 _ (vb (hin d))]
      by_cases d1 : r (16 + 6 * (r 44).toNatClampNeg + 5) = I 120 i
      · rw [if_pos d1]
        by_cases d2 : r (16 + 6 * (r 44).toNatClampNeg + 4) = I 121 i
        · rw [if_pos d2]
          exact ⟨fun _ => Or.inr ⟨d1, d2⟩, fun _ => by decide⟩
        · rw [if_neg d2]
          exact ⟨fun q => absurd nI_0 q, fun q => by rcases q with q | q; exact absurd q d; exact absurd q.2 d2⟩
      · rw [if_neg d1]
        exact ⟨fun q => absurd nI_0 q, fun q => by rcases q with q | q; exact absurd q d; exact absurd q.1 d1⟩
  refine ⟨fun z => same ⟨fun q => absurd c q, fun _ _ => rfl, fun _ q => absurd z (f7.mpr (by rw [hi4] at q; exact q))⟩, fun z => ?_⟩
  have hd := f7.mp z
  refine ⟨⟨fun _ => ⟨fun _ => trivial, fun _ => ⟨hv4, trivial⟩⟩, fun _ => ⟨hv4, trivial⟩⟩, ?_⟩
  intro w10 e10
  have f10 : w10 = m_nx I (I 68 4) (I 68 5) (I 68 6) (m_ix (I 68 4) (I 68 5) (r 47)) := by
    rw [e10]
    unfold m_nx
    rw [hi4, s3, nI_0]
  subst f10
  refine h (upd (upd r 47 (r 47 + nI 1)) 44 (m_nx I (I 68 4) (I 68 5) (I 68 6) (m_ix (I 68 4) (I 68 5) (r 47)))) _ ⟨fun q => absurd c q, fun _ q => absurd (by rw [hi4]; exact hd) q, fun _ _ => rfl⟩ ?_ ?_ ?_
  · refine rm_e (I := u_I I 69 (upd (I 69) 6 (m_nx I (I 68 4) (I 68 5) (I 68 6) (m_ix (I 68 4) (I 68 5) (r 47))))) (rm_cur (rm_c hm (c_eq_upd (c_eq_refl r) (by omega)))) (fun k h1 h2 => u_I_ne (by omega))
  · rw [u_I_eq, upd_ne (show 47 ≠ 44 by decide), upd_eq]
  · exact fr_le (fr_up fr_u) (by simp)
theorem c49_68 {E : am_Ev} {I : Nat → Nat → Int32} {J : Nat → Nat → Int64} {S : Nat → Nat → Option Nat} {Q : am_Qt} {r L : Nat → Int32} {z y : Nat} (hm : rm I 69 r) (hl : lq I L) (hz : z < 3) (ey : r (48 + z) = nI y) (hy : y < (L z).toNatClampNeg) (h : Q (.inl (some (.int (if I 68 4 = nI (2 + z) then (if nI y = I 68 5 then I 68 6 else I 123 (30 * z + y)) else I 123 (30 * z + y))))) E I J S) : am_cl 49 [.ref 68, .ref 18, .int (nI z)] E I J S Q := by
  show am_ww 49 0 [.ref 68, .ref 18, .int (nI z), am_U] [] E I J S Q
  obtain ⟨l1, l2, l3⟩ := hl z hz
  have l4 := vb l2
  have e26 : I 75 z = nI y := (hm.2.2.2.2.2.2 z hz).trans ey
  have e27 := l3 y hy
  apply g49_0_68
  simp (disch := omega) only [Nat.reduceEqDiff, reduceIte, nI_mulI, nI_add, nI_clamp, nI_ltI, nI_leI, nI_eq, nI_e0, nI_n0, vt, forall_eq, true_and, and_true, true_implies, forall_const, not_true_eq_false, not_false_eq_true, false_implies, implies_true, e26, and_self]
  have hf : ¬ (30 ≤ y) := by omega
  refine ⟨fun c => ⟨fun c2 => ?_, fun c2 => ?_⟩, fun c => ?_⟩
  · rw [if_pos c, if_pos c2] at h
    exact h
  · rw [if_pos c, if_neg c2] at h
    rw [if_neg hf, e27]
    exact h
  · rw [if_neg c] at h
    rw [if_neg hf, e27]
    exact h
theorem c47_68 {E : am_Ev} {I : Nat → Nat → Int32} {J : Nat → Nat → Int64} {S : Nat → Nat → Option Nat} {Q : am_Qt} {r L : Nat → Int32} {n k : Nat} (hp : p_in I) (hc : p_cl I) (hr : r_ok I r) (hm : rm I 69 r) (hk : r 47 = nI k) (hk4 : k ≤ 400) (h2 : I 68 2 = r 47) (h3 : I 68 3 = 0) (hs : sq I n) (ho : k_ok I n (I 68 4) (I 68 6)) (hl : lq I L)
    (h0 : ∀ s I', m_tk I n (I 68 4) (I 68 5) (I 68 6) r s → m_rp I L (I 68 4) (I 68 5) (I 68 6) s = none → I' 68 3 = nI 1 → I' 68 1 = I 68 1 → fb I I' 68 75 → Q (.inl (some (.int (nI 0)))) E I' J S)
    (h1 : ∀ s r' I', m_tk I n (I 68 4) (I 68 5) (I 68 6) r s → m_rp I L (I 68 4) (I 68 5) (I 68 6) s = some r' → rm I' 69 r' → I' 68 = upd (upd (I 68) 2 (s 47)) 1 (I 68 1 + nI 1) → fb I I' 68 75 → Q (.inl (some (.int (nI 1)))) E I' J S) : am_cl 47 [.ref 68, .ref 12, .ref 18] E I J S Q := by
  show am_ww 47 0 [.ref 68, .ref 12, .ref 18, am_U] [] E I J S Q
  have hmm := vb hp.1
  apply g47_0_68
  refine ⟨fun _ => ?_, fun q => absurd h3 q⟩
  refine c48_68 hp hr hm hk hk4 h2 hs ho (fun s I1 hs1 hm1 ev1 f1 => q_mkV ?_)
  have h0' := fun I' => h0 s I' hs1
  have h1' := fun r' I' => h1 s r' I' hs1
  obtain ⟨hrs, hsj, hs47⟩ := m_tk_ok hp hr hk hk4 ho hs1
  have fb1 : fb I I1 68 75 := fun j hj => f1 j (by simp; omega)
  have hq1 : p_q I I1 := p_q_fb fb1 (by omega)
  have hp1 : p_in I1 := (p_in_e hq1.2).mpr hp
  have hc1 : p_cl I1 := (p_cl_e hq1).mpr hc
  have hr1 : r_ok I1 s := (r_ok_e hq1.2).mpr hrs
  have e123 : I1 123 = I 123 := fb1 123 (by omega)
  have hl1 : lq I1 L := by unfold lq; rw [fb1 26 (by omega), fb1 27 (by omega), e123]; exact hl
  have e103 : I1 103 = I 103 := fb1 103 (by omega)
  have e105 : I1 105 = I 105 := fb1 105 (by omega)
  have e106 : I1 106 = I 106 := fb1 106 (by omega)
  have e108 : I1 108 = I 108 := fb1 108 (by omega)
  have ev : ∀ f, f ≠ 2 → I1 68 f = I 68 f := fun f hf => by rw [ev1, upd_ne hf]
  have stuck : m_rp I L (I 68 4) (I 68 5) (I 68 6) s = none → Q (.inl (some (.int (nI 0)))) E (u_I I1 68 (upd (I1 68) 3 (nI 1))) J S := by
    intro q
    refine h0' _ q ?_ ?_ (fb_u fb1 (by omega) (by omega))
    · rw [u_I_eq, upd_eq]
    · rw [u_I_eq, upd_ne (by omega), ev 1 (by omega)]
  by_cases c44 : s 44 = -1
  · have e44 : I1 69 6 = -1 := hm1.2.2.2.2.2.1.trans c44
    rw [e44]
    exact c23n_69 (q_mkI ⟨fun _ => stuck (if_pos c44), fun z => absurd nI_0 z⟩)
  · have h44 := hrs.2.2.1.resolve_left c44
    have b44 := vb h44
    have e44 : I1 69 6 = nI (s 44).toNatClampNeg := hm1.2.2.2.2.2.1.trans (vc h44)
    have hrp : m_rp I L (I 68 4) (I 68 5) (I 68 6) s = if m_can I L s (s 44).toNatClampNeg then some (m_do I s (s 44).toNatClampNeg (m_ri I (I 68 4) (I 68 5) (I 68 6) s (s 44).toNatClampNeg)) else none := if_neg c44
    rw [e44]
    refine c23_69 hp1 hc1 hr1 hm1 (by rw [e103]; exact b44) (q_mkI ?_)
    have hcG : m_can I1 (I1 26) s (s 44).toNatClampNeg = m_can I L s (s 44).toNatClampNeg := by
      rw [m_can_e hq1.2, fb1 26 (by omega)]
      exact m_can_G hp hrs b44 (fun z hz => (hl z hz).1)
    rw [hcG, bI_0]
    refine ⟨fun cc => stuck (by rw [hrp, cc]; rfl), fun cc => ?_⟩
    rw [Bool.not_eq_false] at cc
    rw [if_pos cc] at hrp
    obtain ⟨g1, g2, g3⟩ := m_can_t cc
    obtain ⟨p, m, ep, em, hpm, hm16, hi, ht4, hok⟩ := r_at hp hrs b44
    have e44s := vc h44
    generalize (s 44).toNatClampNeg = C at *
    have fin : ∀ x, x = m_ri I (I 68 4) (I 68 5) (I 68 6) s C → am_cl 36 [.ref 69, .ref 12, .int x] E I1 J S (q_V fun E6 I6 J6 S6 => Q (.inl (some (.int (nI 1)))) E6 (u_I I6 68 (upd (I6 68) 1 (((I6 68) 1) + (nI 1)))) J6 S6) := by
      intro x ex
      refine c36_69 hp1 hc1 hr1 hm1 (by rw [e103]; exact b44) e44s (by rw [e105]; exact g1) (fun I6 a6 b6 => q_mkV ?_)
      rw [m_do_e hq1.2, ex] at a6
      have e6v : I6 68 = I1 68 := b6 68 (by omega)
      refine h1' _ _ hrp (rm_e a6 (fun j h1 h2 => u_I_ne (by omega))) ?_ (fb_u (fb_tr fb1 (fb_le b6 (by omega) (by omega))) (by omega) (by omega))
      rw [u_I_eq, e6v, ev 1 (by omega), ev1]
    refine c34_69 hp1 hc1 hr1 hm1 (by rw [e103]; exact b44) e44s (by rw [e105]; exact g1) (fun c => q_mkI ?_) (fun c => q_mkI ?_)
    · rw [e106, hi] at c
      rw [e108, hi]
      have g1' := g1
      rw [ep, em, nI_ltI (by omega) (by omega)] at g1'
      obtain ⟨o, ho', eo, q1, q2, q3, q4, q5, q6⟩ := hok g1'
      have o6 : o = 6 := by rw [eo, nI_eq (by omega) (by omega)] at c; exact c
      obtain ⟨z, hz, ez⟩ := vn (q5 o6)
      obtain ⟨y, hy, ey⟩ := vn (hrs.2.2.2 z hz)
      have g2' := g2 (by rw [hi]; exact c)
      rw [hi, ez, nI_clamp (by omega), ey] at g2'
      obtain ⟨w, hw, ew⟩ := vn (hl z hz).2.1
      rw [ew, nI_ltI (by omega) (by omega)] at g2'
      have er : m_ri I (I 68 4) (I 68 5) (I 68 6) s C = if I 68 4 = nI (2 + z) then (if nI y = I 68 5 then I 68 6 else I 123 (30 * z + y)) else I 123 (30 * z + y) := by
        unfold m_ri
        rw [hi, if_pos c]
        simp (disch := omega) only [Nat.reduceEqDiff, reduceIte, nI_mulI, nI_add, nI_clamp, nI_ltI, nI_leI, nI_eq, nI_e0, nI_n0, vt, forall_eq, true_and, and_true, true_implies, forall_const, not_true_eq_false, not_false_eq_true, false_implies, implies_true, ez, ey]
      rw [ez]
      refine ⟨fun q => absurd q (nI_nm (by omega)), fun _ => ?_⟩
      refine c49_68 (y := y) hm1 hl1 hz ey (by rw [ew, nI_clamp (by omega)]; exact g2') (q_mkI ?_)
      rw [ev 4 (by omega), ev 5 (by omega), ev 6 (by omega), e123]
      exact fin _ er.symm
    · rw [e106] at c
      refine ⟨fun _ => fin _ ?_, fun q => absurd rfl q⟩
      unfold m_ri
      rw [if_neg c]
