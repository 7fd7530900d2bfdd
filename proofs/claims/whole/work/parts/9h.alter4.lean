/-! diverged -/
noncomputable def r0 (I : Nat → Nat → Int32) (how wh ins : Int32) : Nat → Int32 := if how = nI 5 then upd (m_first I (I 103 1)) (wh).toNatClampNeg ins else m_first I (I 103 1)
theorem r0_ro {I : Nat → Nat → Int32} {T n : Nat} {how wh ins : Int32} (hv : vr0 I T n) (h5 : how = nI 5 → vp_in wh 16) : ro I (r0 I how wh ins) 0 := by
  obtain ⟨hp, hc, hR, hs, hl⟩ := hv
  have hm := vb hp.1
  have ok := first_ok (x := I 103 1) hp hR
  have z : z0 I (m_first I (I 103 1)) := by
    intro k hk hk'
    unfold m_first
    rw [if_neg (by omega), if_neg (by omega), if_neg (by omega)]
  unfold r0
  by_cases c : how = nI 5
  · rw [if_pos c]
    have b := vb (h5 c)
    refine ⟨?_, ⟨0, Nat.le_refl _, ?_⟩, fun k hk hk' => ?_⟩
    · obtain ⟨a1, a2, a3, a4⟩ := ok
      refine ⟨fun t ht => ?_, fun l hl => ?_, ?_, fun s hs => ?_⟩
      · rw [upd_ne (by omega)]; exact a1 t ht
      · rw [upd_ne (by omega)]; exact a2 l hl
      · rw [upd_ne (by omega)]; exact a3
      · rw [upd_ne (by omega)]; exact a4 s hs
    · rw [upd_ne (by omega)]; rfl
    · rw [upd_ne (by omega)]; exact z k hk hk'
  · rw [if_neg c]
    exact ⟨ok, ⟨0, Nat.le_refl _, rfl⟩, z⟩
theorem m276 {E : am_Ev} {I : Nat → Nat → Int32} {J : Nat → Nat → Int64} {S : Nat → Nat → Option Nat} {Q : am_Qt} {T n pt : Nat} {how wh ins : Int32} (hv : vr0 I T n) (ho : k_ok I n how ins) (h5 : how = nI 5 → vp_in wh 16) (hT : I 99 12 = nI T) (hpt : 1 ≤ pt) (hpt5 : pt ≤ 50) (ept : I 103 2 = nI pt) (e51' : I 99 51 = how) (e52 : I 99 52 = wh) (e53 : I 99 53 = ins)
    (h : ∀ I', rf I I' → I' 99 54 = @ite _ (same (r0 I how wh ins) (rt I 0)) (Classical.propDecidable _) (dfr (nxr I n (lm I T) how wh ins) (rt I) T 1 (r0 I how wh ins)) (nI 0) → I' 99 55 = dgs (nxr I n (lm I T) how wh ins) (rt I) (I 103 4).toNatClampNeg pt T 1 (r0 I how wh ins) → I' 99 56 = stk (nxr I n (lm I T) how wh ins) T 1 (r0 I how wh ins) → (∀ r', run (nxr I n (lm I T) how wh ins) T (r0 I how wh ins) = some r' → e51 (I' 116) r') → Q (.inl none) E I' J S) : am_cl 276 [.ref 99] E I J S Q := by
  show am_ww 276 0 [.ref 99, am_U] [] E I J S Q
  have hT4 := hv.2.2.1.1.1
  have hro := r0_ro (how := how) (wh := wh) (ins := ins) hv h5
  apply g276_0
  -- behind the first row
  have go : ∀ I1 : Nat → Nat → Int32, rf I I1 → e51 (I1 116) (r0 I how wh ins) → I1 99 54 = -1 → I1 99 55 = -1 → I1 99 56 = -1 → am_cl 277 [.ref 99, .int (nI 0)] E I1 J S (q_I fun v2 E2 I2 J2 S2 => (v2 = 0 → (am_ww 276 35 [.ref 99, .int (nI 1)] [] E2 I2 J2 S2 Q)) ∧ (¬ v2 = 0 → (am_ww 276 35 [.ref 99, .int (nI 1)] [] E2 (u_I I2 99 (upd (I2 99) 54 (nI 0))) J2 S2 Q))) := by
    intro I1 f1 er a54 a55 a56
    have er1 : rt I1 = rt I := rt_e (f1.1 117 (by decide))
    refine m277 (t := 0) (by omega) (fun y => q_mkI ⟨fun _ => ?_, fun z => absurd nI_0 z⟩) (fun y => q_mkI ⟨fun z => absurd z (by decide), fun _ => ?_⟩)
    · rw [er1] at y
      have y' : same (r0 I how wh ins) (rt I 0) := fun k hk => by rw [← er k (by omega)]; exact y k hk
      rw [if_pos y'] at h
      refine m276_l hv ho hT hpt hpt5 ept e51' e52 e53 T 1 (r0 I how wh ins) I1 (by omega) (by omega) f1 er hro a56 (fun I' q1 q2 q3 q4 q5 => h I' q1 ?_ ?_ q4 q5)
      · rw [q2, if_pos a54]
      · rw [q3, if_pos a55]
    · rw [er1] at y
      have y' : ¬ same (r0 I how wh ins) (rt I 0) := fun z => y (fun k hk => by rw [er k (by omega)]; exact z k hk)
      rw [if_neg y'] at h
      refine m276_l hv ho hT hpt hpt5 ept e51' e52 e53 T 1 (r0 I how wh ins) _ (by omega) (by omega) ⟨fun k hk => ?_, fun f a b c d e => ?_⟩ ?_ hro ?_ (fun I' q1 q2 q3 q4 q5 => h I' q1 ?_ ?_ q4 q5)
      · rw [u_I_ne (fun q => hk (by simp [q]))]; exact f1.1 k hk
      · rw [u_I_eq, upd_ne c]; exact f1.2 f a b c d e
      · rw [u_I_ne (by decide)]; exact er
      · rw [u_I_eq, upd_ne (by omega)]; exact a56
      · rw [q2, u_I_eq, upd_eq, if_neg (nI_nm (by omega))]
      · rw [q3, u_I_eq, upd_ne (by omega), if_pos a55]
  have z99 : u_I I 99 (upd (upd (upd (I 99) 54 (-1)) 55 (-1)) 56 (-1)) 99 = upd (upd (upd (I 99) 54 (-1)) 55 (-1)) 56 (-1) := u_I_eq
  have zo : ∀ k, k ≠ 99 → u_I I 99 (upd (upd (upd (I 99) 54 (-1)) 55 (-1)) 56 (-1)) k = I k := fun k hk => u_I_ne hk
  generalize u_I I 99 (upd (upd (upd (I 99) 54 (-1)) 55 (-1)) 56 (-1)) = I0 at z99 zo ⊢
  have ef : m_first I0 (I 103 1) = m_first I (I 103 1) := first_e (fun k a b => zo k (by omega))
  refine m184 (seed := I 103 1) (fun f hf => q_mkV ?_)
  rw [ef] at hf
  have x99 : u_I I0 116 f 99 = upd (upd (upd (I 99) 54 (-1)) 55 (-1)) 56 (-1) := by rw [u_I_ne (by decide), z99]
  have y51 : u_I I0 116 f 99 51 = how := by rw [x99, upd_ne (by omega), upd_ne (by omega), upd_ne (by omega)]; exact e51'
  have y52 : u_I I0 116 f 99 52 = wh := by rw [x99, upd_ne (by omega), upd_ne (by omega), upd_ne (by omega)]; exact e52
  have y53 : u_I I0 116 f 99 53 = ins := by rw [x99, upd_ne (by omega), upd_ne (by omega), upd_ne (by omega)]; exact e53
  rw [y51, y52, y53, u_I_eq]
  refine ⟨fun c => ⟨vl (h5 c) (by omega), go _ ⟨fun k hk => ?_, fun j a b c d e => ?_⟩ ?_ ?_ ?_ ?_⟩, fun c => go _ ⟨fun k hk => ?_, fun j a b c d e => ?_⟩ ?_ ?_ ?_ ?_⟩
  · simp only [List.mem_cons, List.not_mem_nil, or_false, not_or] at hk
    rw [u_I_ne hk.2, u_I_ne hk.2, zo k hk.1]
  · rw [u_I_ne (by decide), x99, upd_ne e, upd_ne d, upd_ne c]
  · rw [u_I_eq]
    unfold r0
    rw [if_pos c]
    intro k hk
    by_cases ck : k = (wh).toNatClampNeg
    · rw [ck, upd_eq, upd_eq]
    · rw [upd_ne ck, upd_ne ck]; exact hf k hk
  · rw [u_I_ne (by decide), x99, upd_ne (by omega), upd_ne (by omega), upd_eq]
  · rw [u_I_ne (by decide), x99, upd_ne (by omega), upd_eq]
  · rw [u_I_ne (by decide), x99, upd_eq]
  · simp only [List.mem_cons, List.not_mem_nil, or_false, not_or] at hk
    rw [u_I_ne hk.2, zo k hk.1]
  · rw [x99, upd_ne e, upd_ne d, upd_ne c]
  · rw [u_I_eq]
    unfold r0
    rw [if_neg c]
    exact hf
  · rw [x99, upd_ne (by omega), upd_ne (by omega), upd_eq]
  · rw [x99, upd_ne (by omega), upd_eq]
  · rw [x99, upd_eq]
/-- what may be altered -/
def al (I : Nat → Nat → Int32) (T n : Nat) (how wh ins : Int32) : Prop := (how = nI 0 ∧ (∃ i, i < n ∧ wh = nI i) ∧ ∃ t, t < (I 103 4).toNatClampNeg ∧ ins = nI t) ∨ (how = nI 1 ∧ ∃ i, i < n ∧ wh = nI i) ∨ (how = nI 5 ∧ ∃ i, i < 16 ∧ wh = nI i) ∨ (∃ z, z < 3 ∧ how = nI (2 + z) ∧ ∃ i, i < (lm I T z).toNatClampNeg ∧ wh = nI i)
theorem rng' (x : Int32) (n : Nat) (hn : n < 2 ^ 31) : (∃ c, c < n ∧ x = nI c) ∨ (¬ (∃ c, c < n ∧ x = nI c) ∧ (x < 0 ∨ nI n ≤ x)) := by
  rcases rng x n hn with h | h
  · exact Or.inl h
  · refine Or.inr ⟨?_, h⟩
    rintro ⟨c, hc, rfl⟩
    exact ctr h (nI_pos (by omega)) ((nI_ltI (by omega) (by omega)).mpr hc)
/-- a test of a number between 0 and n, as the class does it -/
theorem tst {x : Int32} {n : Nat} {A B : Prop} (hn : n < 2 ^ 31) (h1 : (∃ c, c < n ∧ x = nI c) → A) (h0 : ¬ (∃ c, c < n ∧ x = nI c) → B) : (x < 0 → B) ∧ (¬ x < 0 → ((nI n ≤ x → B) ∧ (¬ nI n ≤ x → A))) := by
  rcases rng' x n hn with h | ⟨h, b⟩
  · refine ⟨fun q => ?_, fun _ => ⟨fun q => ?_, fun _ => h1 h⟩⟩
    · obtain ⟨c, hc, rfl⟩ := h
      exact absurd q (nI_pos (by omega))
    · obtain ⟨c, hc, rfl⟩ := h
      rw [nI_leI (by omega) (by omega)] at q
      omega
  · exact ⟨fun _ => h0 h, fun c0 => ⟨fun _ => h0 h, fun c1 => (ctr b c0 (Int32.not_le.mp c1)).elim⟩⟩
/-- the same, as the reference does it -/
theorem tst' {x : Int32} {n : Nat} {A B : Prop} (hn : n < 2 ^ 31) (h1 : (∃ c, c < n ∧ x = nI c) → A) (h0 : ¬ (∃ c, c < n ∧ x = nI c) → B) : (x < nI 0 → B) ∧ (¬ x < nI 0 → ((nI n - nI 1 < x → B) ∧ (¬ nI n - nI 1 < x → A))) := by
  rw [nI_0]
  obtain ⟨a, b⟩ := tst hn h1 h0
  refine ⟨a, fun c => ⟨fun q => (b c).1 ((sub1 c hn).mp q), fun q => (b c).2 (fun z => q ((sub1 c hn).mpr z))⟩⟩
theorem how_c {x : Int32} (h0 : ¬ x = nI 0) (h1 : ¬ x = nI 1) (h5 : ¬ x = nI 5) : (∃ z, z < 3 ∧ x - nI 2 = nI z ∧ x = nI (2 + z)) ∨ (¬ (∃ z, z < 3 ∧ x - nI 2 = nI z) ∧ ¬ (∃ z, z < 3 ∧ x = nI (2 + z))) := by
  rcases rng' (x - nI 2) 3 (by omega) with ⟨z, hz, e⟩ | ⟨h, _⟩
  · refine Or.inl ⟨z, hz, e, ?_⟩
    have := congrArg (fun y => y + nI 2) e
    rw [Int32.sub_add_cancel, nI_add] at this
    rw [this, Nat.add_comm]
  · refine Or.inr ⟨fun ⟨z, hz, e⟩ => h ⟨z, hz, e⟩, ?_⟩
    rintro ⟨z, hz, rfl⟩
    exact h ⟨z, hz, by rw [nI_subI (by omega), show 2 + z - 2 = z by omega]⟩
theorem c168 {E : am_Ev} {I : Nat → Nat → Int32} {J : Nat → Nat → Int64} {S : Nat → Nat → Option Nat} {Q : am_Qt} {T n : Nat} {how wh ins : Int32} (hv : vr0 I T n) (h1 : al I T n how wh ins → Q (.inl (some (.int (nI 1)))) E I J S) (h0 : ¬ al I T n how wh ins → Q (.inl (some (.int (nI 0)))) E I J S) : am_cl 168 [.ref 0, .int how, .int wh, .int ins] E I J S Q := by
  show am_ww 168 0 [.ref 0, .int how, .int wh, .int ins] [] E I J S Q
  obtain ⟨hp, hc, hR, hs, hl⟩ := hv
  have hT4 := hR.1
  have hm := vb hp.1
  apply g168_0
  have e5 : I 12 5 = nI (I 103 4).toNatClampNeg := hc.1.trans (vc hp.1)
  rw [hs.1, e5]
  refine ⟨fun c0 => ?_, fun c0 => ⟨fun c1 => ?_, fun c1 => ⟨fun c5 => ?_, fun c5 => ?_⟩⟩⟩
  · rw [← nI_0] at c0
    have nal : ¬ ((∃ i, i < n ∧ wh = nI i) ∧ ∃ t, t < (I 103 4).toNatClampNeg ∧ ins = nI t) → ¬ al I T n how wh ins := by
      intro q a
      rw [c0] at a
      rcases a with ⟨_, a⟩ | ⟨a, _⟩ | ⟨a, _⟩ | ⟨z, hz, a, _⟩
      · exact q a
      · rw [nI_eq (by omega) (by omega)] at a; omega
      · rw [nI_eq (by omega) (by omega)] at a; omega
      · rw [nI_eq (by omega) (by omega)] at a; omega
    exact tst (by omega) (fun w => tst (by omega) (fun t => h1 (Or.inl ⟨c0, w, t⟩)) (fun t => h0 (nal (fun q => t q.2)))) (fun w => h0 (nal (fun q => w q.1)))
  · refine tst (by omega) (fun w => h1 (Or.inr (Or.inl ⟨c1, w⟩))) (fun w => h0 (fun a => ?_))
    rw [c1] at a
    rcases a with ⟨a, _⟩ | ⟨_, a⟩ | ⟨a, _⟩ | ⟨z, hz, a, _⟩
    · rw [nI_eq (by omega) (by omega)] at a; omega
    · exact w a
    · rw [nI_eq (by omega) (by omega)] at a; omega
    · rw [nI_eq (by omega) (by omega)] at a; omega
  · refine tst (by omega) (fun w => h1 (Or.inr (Or.inr (Or.inl ⟨c5, w⟩)))) (fun w => h0 (fun a => ?_))
    rw [c5] at a
    rcases a with ⟨a, _⟩ | ⟨a, _⟩ | ⟨_, a⟩ | ⟨z, hz, a, _⟩
    · rw [nI_eq (by omega) (by omega)] at a; omega
    · rw [nI_eq (by omega) (by omega)] at a; omega
    · exact w a
    · rw [nI_eq (by omega) (by omega)] at a; omega
  · have c0' : ¬ how = nI 0 := by rw [nI_0]; exact c0
    have nal : (¬ ∃ z, z < 3 ∧ how = nI (2 + z) ∧ ∃ i, i < (lm I T z).toNatClampNeg ∧ wh = nI i) → ¬ al I T n how wh ins := by
      intro q a
      rcases a with ⟨a, _⟩ | ⟨a, _⟩ | ⟨a, _⟩ | a
      · exact c0' a
      · exact c1 a
      · exact c5 a
      · exact q a
    rcases how_c c0' c1 c5 with ⟨z, hz, ez, eh⟩ | ⟨n1, n2⟩
    · have v := hl z hz
      have vbb := vb v.2.1
      rw [ez, nI_clamp (by omega), v.1, vc v.2.1]
      refine ⟨fun q => absurd q (nI_pos (by omega)), fun _ => ⟨fun q => absurd ((nI_leI (by omega) (by omega)).mp q) (by omega), fun _ => ?_⟩⟩
      obtain ⟨a, b⟩ := tst (x := wh) (n := (lm I T z).toNatClampNeg) (by omega) (fun w => h1 (Or.inr (Or.inr (Or.inr ⟨z, hz, eh, w⟩)))) (fun w => h0 (nal (fun ⟨z', hz', e', w'⟩ => by
        rw [eh, nI_eq (by omega) (by omega)] at e'
        have : z' = z := by omega
        subst this
        exact w w')))
      exact ⟨a, fun c => ⟨vp_in_nI hz (by omega), b c⟩⟩
    · have t := h0 (nal (fun ⟨z, hz, e, _⟩ => n2 ⟨z, hz, e⟩))
      refine ⟨fun _ => t, fun q0 => ⟨fun _ => t, fun q3 => ?_⟩⟩
      exfalso
      rcases rng (how - nI 2) 3 (by omega) with ⟨z, hz, e⟩ | hb
      · exact n1 ⟨z, hz, e⟩
      · exact ctr hb q0 (Int32.not_le.mp q3)
theorem nxr_e {I I' : Nat → Nat → Int32} {n : Nat} {L : Nat → Int32} {how wh ins : Int32} (h : h_eq I I') : nxr I' n L how wh ins = nxr I n L how wh ins := by
  funext r
  unfold nxr tk m_due m_nx
  rw [h.2.2.1, h.2.2.2.1, h.2.2.2.2.1, m_rp_e h.1 h.2.2.2.2.2]
theorem lm_e {I I' : Nat → Nat → Int32} {T : Nat} (h : I' 117 = I 117) : lm I' T = lm I T := by
  funext z
  unfold lm
  rw [rt_e h]
theorem r0_e {I I' : Nat → Nat → Int32} {how wh ins : Int32} (h : p_eq I I') : r0 I' how wh ins = r0 I how wh ins := by
  unfold r0
  rw [first_e h, h 103 (by omega) (by omega)]
/-- the altered replay begins -/
theorem c_alt {E : am_Ev} {I : Nat → Nat → Int32} {J : Nat → Nat → Int64} {S : Nat → Nat → Option Nat} {K : am_Ev → (Nat → Nat → Int32) → (Nat → Nat → Int64) → (Nat → Nat → Option Nat) → Prop} {T n : Nat} {how wh ins : Int32} (hv : vr0 I T n) (h5 : how = nI 5 → ∃ i, i < 16 ∧ wh = nI i) (h : ∀ I', ax I I' how wh ins (r0 I how wh ins) 0 → fb I I' 68 75 → K E I' J S) : am_cl 17 [.ref 68, .ref 12] E I J S (q_V fun E2 I2 J2 S2 => am_cl 169 [.ref 68, .int how, .int wh, .int ins] E2 I2 J2 S2 (q_V K)) := by
  have hro := r0_ro (how := how) (wh := wh) (ins := ins) hv (fun q => by
    obtain ⟨i, hi, e⟩ := h5 q
    rw [e]
    exact vp_in_nI hi (by omega))
  refine c17_68 (seed := I 103 1) hv.2.1.2.2.1 (fun I1 m1 e1 f1 => q_mkV ?_)
  show am_ww 169 0 [.ref 68, .int how, .int wh, .int ins] [] E I1 J S _
  apply g169_0
  have fld : ∀ I2 : Nat → Nat → Int32, I2 68 = upd (upd (upd (I1 68) 4 how) 5 wh) 6 ins → (I2 68 1 = nI 0 ∧ I2 68 2 = nI 0 ∧ I2 68 3 = nI 0 ∧ I2 68 4 = how ∧ I2 68 5 = wh ∧ I2 68 6 = ins) := by
    intro I2 e
    rw [e, e1]
    refine ⟨?_, ?_, ?_, ?_, ?_, ?_⟩
    · rw [upd_ne (by omega), upd_ne (by omega), upd_ne (by omega), upd_ne (by omega), upd_ne (by omega), upd_ne (by omega), upd_eq]
    · rw [upd_ne (by omega), upd_ne (by omega), upd_ne (by omega), upd_ne (by omega), upd_ne (by omega), upd_eq]
    · rw [upd_ne (by omega), upd_ne (by omega), upd_ne (by omega), upd_ne (by omega), upd_eq]
    · rw [upd_ne (by omega), upd_ne (by omega), upd_eq]
    · rw [upd_ne (by omega), upd_eq]
    · rw [upd_eq]
  have h47 : r0 I how wh ins 47 = nI 0 := by
    obtain ⟨_, ⟨k, k1, k2⟩, _⟩ := hro
    rw [k2, show k = 0 by omega]
  refine ⟨fun c => ?_, fun c => q_mkV (h _ ⟨fb_u (fb_le f1 (by omega) (by omega)) (by omega) (by omega), ?_, ?_, hro⟩ (fb_u f1 (by omega) (by omega)))⟩
  · obtain ⟨i, hi, rfl⟩ := h5 c
    refine ⟨fun q => absurd q (nI_pos (by omega)), fun _ => ⟨fun q => absurd ((nI_leI (by omega) (by omega)).mp q) (by omega), fun _ => ⟨vp_in_nI hi (by omega), q_mkV (h _ ⟨fb_u (fb_u (fb_le f1 (by omega) (by omega)) (by omega) (by omega)) (by omega) (by omega), ?_, ?_, hro⟩ (fb_u (fb_u f1 (by omega) (by omega)) (by omega) (by omega)))⟩⟩⟩
    · unfold r0
      rw [if_pos c, nI_clamp (by omega)]
      have m2 : rm (u_I I1 68 (upd (upd (upd (I1 68) 4 how) 5 (nI i)) 6 ins)) 69 (m_first I (I 103 1)) := rm_e m1 (fun k a b => u_I_ne (by omega))
      have := rm_cell (v := ins) m2 hi
      rw [u_I_ne (show 69 + 1 ≠ 68 by decide)] at this
      exact this
    · have := fld (u_I (u_I I1 68 (upd (upd (upd (I1 68) 4 how) 5 (nI i)) 6 ins)) 70 (upd (I1 70) (nI i).toNatClampNeg ins)) (by rw [u_I_ne (by decide), u_I_eq])
      rw [h47]
      exact this
  · unfold r0
    rw [if_neg c]
    exact rm_e m1 (fun k a b => u_I_ne (by omega))
  · have := fld (u_I I1 68 (upd (upd (upd (I1 68) 4 how) 5 wh) 6 ins)) (by rw [u_I_eq])
    rw [h47]
    exact this
