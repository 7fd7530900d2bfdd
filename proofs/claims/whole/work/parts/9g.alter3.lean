/-! a record that is altered: digests; the reference -/
theorem run_snoc {nx : (Nat → Int32) → Option (Nat → Int32)} : ∀ j r, run nx (j + 1) r = (run nx j r).bind nx := by
  intro j
  induction j with
  | zero =>
    intro r
    cases c : nx r with
    | none => rw [run_n c]; exact c.symm
    | some x => rw [run_y c]; exact c.symm
  | succ j ih =>
    intro r
    cases c : nx r with
    | none => rw [run_n c, run_n c]; rfl
    | some x => rw [run_y c, run_y c]; exact ih x
theorem dgs_pt {nx : (Nat → Int32) → Option (Nat → Int32)} {R : Nat → Nat → Int32} {many pt i M : Nat} {r : Nat → Int32} (hpt : 0 < pt) (hM : pt ≤ M) : (run nx pt r = none → dgs nx R many pt M (pt * i + 1) r = -1) ∧ (∀ r', run nx pt r = some r' → dg many r' = dg many (R (pt * (i + 1))) → dgs nx R many pt M (pt * i + 1) r = dgs nx R many pt (M - pt) (pt * (i + 1) + 1) r') ∧ (∀ r', run nx pt r = some r' → ¬ dg many r' = dg many (R (pt * (i + 1))) → dgs nx R many pt M (pt * i + 1) r = nI i) := by
  obtain ⟨p, rfl⟩ : ∃ p, pt = p + 1 := ⟨pt - 1, by omega⟩
  have em : (p + 1) * (i + 1) = (p + 1) * i + (p + 1) := Nat.mul_succ _ _
  obtain ⟨a, b⟩ := dgs_run (nx := nx) (R := R) (many := many) (pt := p + 1) p (M - p) ((p + 1) * i + 1) r (fun j hj => by
    rw [show (p + 1) * i + 1 + j = (p + 1) * i + (1 + j) by omega, Nat.mul_add_mod, Nat.mod_eq_of_lt (by omega)]
    omega)
  rw [show p + (M - p) = M by omega] at a b
  rw [run_snoc]
  cases c : run nx p r with
  | none =>
    refine ⟨fun _ => a c, fun r' e => ?_, fun r' e => ?_⟩
    · exact nomatch e
    · exact nomatch e
  | some x =>
    have b := b x c
    rw [show (p + 1) * i + 1 + p = (p + 1) * (i + 1) by omega, show M - p = (M - (p + 1)) + 1 by omega] at b
    rw [b]
    show (nx x = none → _) ∧ (∀ r', nx x = some r' → _ → _) ∧ (∀ r', nx x = some r' → _ → _)
    refine ⟨fun e => dgs_n e, fun r' e y => dgs_y e (Or.inr y), fun r' e y => ?_⟩
    rw [dgs_d e (Nat.mul_mod_right _ _) y, Nat.mul_div_cancel_left _ (by omega), Nat.add_sub_cancel]
theorem c173 {E : am_Ev} {J : Nat → Nat → Int64} {S : Nat → Nat → Option Nat} {Q : am_Qt} {I I1 : Nat → Nat → Int32} {T n pt : Nat} {how wh ins : Int32} {r : Nat → Int32} (hv : vr0 I T n) (ho : k_ok I n how ins) (hT : I 18 10 = nI T) (hpt : 1 ≤ pt) (hpt5 : pt ≤ 50) (ept : I 17 2 = nI pt) (hD : ∀ i, i < T / pt → I 32 i = dg (I 103 4).toNatClampNeg (rt I (pt * (i + 1)))) (ha : ax I I1 how wh ins r 0)
    (h : ∀ I', fb I1 I' 68 75 → Q (.inl (some (.int (dgs (nxr I n (lm I T) how wh ins) (rt I) (I 103 4).toNatClampNeg pt T 1 r)))) E I' J S) : am_cl 173 [.ref 0] E I1 J S Q := by
  show am_ww 173 0 [.ref 0, am_U, am_U] [] E I1 J S Q
  have hT4 := hv.2.2.1.1.1
  have hN := Nat.div_mul_le_self T pt
  have hN' : T / pt ≤ T := Nat.div_le_self _ _
  have ew : (if nI 1 < nI pt then nI pt else nI 1) = nI pt := by
    by_cases c : 1 < pt
    · rw [if_pos ((nI_ltI (by omega) (by omega)).mpr c)]
    · rw [if_neg (fun q => c ((nI_ltI (by omega) (by omega)).mp q)), show pt = 1 by omega]
  have l : ∀ k i r (I2 : Nat → Nat → Int32), i + k = T / pt → ax I I2 how wh ins r (pt * i) → fb I1 I2 68 75 → (∀ I', fb I1 I' 68 75 → Q (.inl (some (.int (dgs (nxr I n (lm I T) how wh ins) (rt I) (I 103 4).toNatClampNeg pt (T - pt * i) (pt * i + 1) r)))) E I' J S) → am_ww 173 10 [.ref 0, .int (nI (T / pt)), .int (nI i)] [] E I2 J S Q := by
    intro k
    induction k with
    | zero =>
      intro i r I2 ei ha f2 h
      apply g173_10
      rw [nI_leI (by omega) (by omega)]
      refine ⟨fun _ => ?_, fun z => absurd (by omega) z⟩
      have e : i = T / pt := by omega
      have := h I2 f2
      have dm := Nat.div_add_mod T pt
      have ml := Nat.mod_lt T (show pt > 0 by omega)
      rw [dgs_0 _ _ _ (fun j hj => by
        rw [show pt * i + 1 + j = pt * i + (1 + j) by omega, Nat.mul_add_mod]
        rw [e] at hj
        rw [Nat.mod_eq_of_lt (by omega)]
        omega)] at this
      exact this
    | succ k ih =>
      intro i r I2 ei ha f2 h
      apply g173_10
      have le1 : pt * (i + 1) ≤ pt * (T / pt) := Nat.mul_le_mul_left _ (by omega)
      have le2 : pt * (T / pt) ≤ T := Nat.mul_div_le _ _
      have le3 : pt * (i + 1) = pt * i + pt := Nat.mul_succ _ _
      rw [nI_leI (by omega) (by omega)]
      refine ⟨fun z => absurd z (by omega), fun _ => ?_⟩
      intro w1 e1
      rw [ha.1 17 (by omega), ept, ew] at e1
      subst e1
      rw [nI_add, nI_mulI, show (i + 1) * pt = pt * (i + 1) from Nat.mul_comm _ _]
      show am_ww 46 0 [.ref 68, .int (nI (pt * (i + 1))), .ref 12, .ref 18, am_U] [] E I2 J S _
      apply g46_0_68
      rw [ha.2.2.1.1]
      obtain ⟨D1, D2, D3⟩ := dgs_pt (nx := nxr I n (lm I T) how wh ins) (R := rt I) (many := (I 103 4).toNatClampNeg) (pt := pt) (i := i) (M := T - pt * i) (r := r) (by omega) (by omega)
      refine c46a hv ho (by omega) pt (pt * i) r I2 (by omega) ha (fun I3 j _ _ rn q3 _ f3 => q_mkV ⟨fun z => absurd (q3.symm.trans z) (by decide), fun _ => ?_⟩) (fun I3 r' rs _ a3 f3 => q_mkV ⟨fun _ => ?_, fun z => absurd (a3.2.2.1.2.2.1.trans nI_0) z⟩)
      · have := h I3 (fb_tr f2 f3)
        rw [D1 rn] at this
        exact this
      · have hpe := p_eq_fb a3.1 (by omega)
        refine c40_69 ((p_in_e hpe).mpr hv.1) ((p_cl_e (p_q_fb a3.1 (by omega))).mpr hv.2.1) a3.2.1 (q_mkI ?_)
        rw [a3.1 103 (by omega), a3.1 32 (by omega), nI_clamp (by omega), hD i (by omega)]
        refine ⟨vp_in_nI (by omega) (by omega), fun y => ?_, fun y => ?_⟩
        · refine ih (i + 1) r' I3 (by omega) a3 (fb_tr f2 f3) ?_
          rw [D2 r' rs y] at h
          rw [show T - pt * (i + 1) = T - pt * i - pt by omega]
          exact h
        · have := h I3 (fb_tr f2 f3)
          rw [D3 r' rs y] at this
          exact this
  apply g173_0
  intro w1 e1
  rw [ha.1 17 (by omega), ept, ew] at e1
  subst e1
  rw [ha.1 18 (by omega), hT, nI_divI (by omega) (by omega)]
  refine ⟨nI_ne0 (by omega) (by omega), l (T / pt) 0 r I1 (by omega) ha fb_id ?_⟩
  rw [Nat.mul_zero, Nat.sub_zero]
  exact h
theorem m277 {E : am_Ev} {I : Nat → Nat → Int32} {J : Nat → Nat → Int64} {S : Nat → Nat → Option Nat} {Q : am_Qt} {t : Nat} (ht : t ≤ 400) (h0 : same (I 116) (rt I t) → Q (.inl (some (.int (nI 0)))) E I J S) (h1 : ¬ same (I 116) (rt I t) → Q (.inl (some (.int (nI 1)))) E I J S) : am_cl 277 [.ref 99, .int (nI t)] E I J S Q := by
  show am_ww 277 0 [.ref 99, .int (nI t), am_U] [] E I J S Q
  apply g277_0
  have l : ∀ m k, k + m = 45 → (∀ j, j < k → I 116 j = rt I t j) → am_ww 277 2 [.ref 99, .int (nI t), .int (nI k)] [] E I J S Q := by
    intro m
    induction m with
    | zero =>
      intro k ek hk
      apply g277_2
      rw [nI_ltI (by omega) (by omega)]
      exact ⟨fun _ => h0 (fun j hj => hk j (by omega)), fun z => absurd (by omega) z⟩
    | succ m ih =>
      intro k ek hk
      apply g277_2
      rw [nI_ltI (by omega) (by omega), nI_mulI, nI_add, nI_add, nI_clamp (by omega), nI_clamp (by omega)]
      refine ⟨fun z => absurd z (by omega), fun _ => ⟨vp_in_nI (by omega) (by omega), vp_in_nI (by omega) (by omega), fun w3 e3 => ?_⟩⟩
      rw [← rt_k (I := I) (t := t) (show k < 51 by omega)] at e3
      subst e3
      refine ⟨fun c => ih (k + 1) (by omega) (fun j hj => ?_), fun c => h1 (fun z => c (z k (by omega)))⟩
      by_cases cj : j = k
      · rw [cj]; exact c
      · exact hk j (by omega)
  exact l 45 0 (by omega) (fun j hj => absurd hj (by omega))
theorem m283 {E : am_Ev} {I : Nat → Nat → Int32} {J : Nat → Nat → Int64} {S : Nat → Nat → Option Nat} {Q : am_Qt} {T : Nat} (eT : I 99 12 = nI T) (hT : T ≤ 400) (h0 : (∀ c, c < 16 → I 116 c = rt I T c) → Q (.inl (some (.int (nI 0)))) E I J S) (h1 : ¬ (∀ c, c < 16 → I 116 c = rt I T c) → Q (.inl (some (.int (nI 1)))) E I J S) : am_cl 283 [.ref 99] E I J S Q := by
  show am_ww 283 0 [.ref 99, am_U] [] E I J S Q
  apply g283_0
  have l : ∀ m k, k + m = 16 → (∀ j, j < k → I 116 j = rt I T j) → am_ww 283 2 [.ref 99, .int (nI k)] [] E I J S Q := by
    intro m
    induction m with
    | zero =>
      intro k ek hk
      apply g283_2
      rw [nI_leI (by omega) (by omega)]
      exact ⟨fun _ => h0 (fun j hj => hk j (by omega)), fun z => absurd (by omega) z⟩
    | succ m ih =>
      intro k ek hk
      apply g283_2
      rw [nI_leI (by omega) (by omega), eT, nI_mulI, nI_add, nI_add, nI_clamp (by omega), nI_clamp (by omega)]
      refine ⟨fun z => absurd z (by omega), fun _ => ⟨vp_in_nI (by omega) (by omega), vp_in_nI (by omega) (by omega), fun w3 e3 => ?_⟩⟩
      rw [← rt_k (I := I) (t := T) (show k < 51 by omega)] at e3
      subst e3
      refine ⟨fun c => ih (k + 1) (by omega) (fun j hj => ?_), fun c => h1 (fun z => c (z k (by omega)))⟩
      by_cases cj : j = k
      · rw [cj]; exact c
      · exact hk j (by omega)
  exact l 16 0 (by omega) (fun j hj => absurd hj (by omega))
/-- what the reference's replay leaves as it was -/
def rf (I I' : Nat → Nat → Int32) : Prop := fr I I' [99, 116] ∧ ∀ f, f ≠ 39 → f ≠ 40 → f ≠ 54 → f ≠ 55 → f ≠ 56 → I' 99 f = I 99 f
theorem m276_l {E : am_Ev} {J : Nat → Nat → Int64} {S : Nat → Nat → Option Nat} {Q : am_Qt} {I : Nat → Nat → Int32} {T n pt : Nat} {how wh ins : Int32} (hv : vr0 I T n) (ho : k_ok I n how ins) (hT : I 99 12 = nI T) (hpt : 1 ≤ pt) (hpt5 : pt ≤ 50) (ept : I 103 2 = nI pt) (e51' : I 99 51 = how) (e52 : I 99 52 = wh) (e53 : I 99 53 = ins) :
    ∀ m t r (I1 : Nat → Nat → Int32), t + m = T + 1 → 1 ≤ t → rf I I1 → e51 (I1 116) r → ro I r (t - 1) → I1 99 56 = -1 → (∀ I', rf I I' → I' 99 54 = (if I1 99 54 = -1 then dfr (nxr I n (lm I T) how wh ins) (rt I) m t r else I1 99 54) → I' 99 55 = (if I1 99 55 = -1 then dgs (nxr I n (lm I T) how wh ins) (rt I) (I 103 4).toNatClampNeg pt m t r else I1 99 55) → I' 99 56 = stk (nxr I n (lm I T) how wh ins) m t r → (∀ r', run (nxr I n (lm I T) how wh ins) m r = some r' → e51 (I' 116) r') → Q (.inl none) E I' J S) → am_ww 276 35 [.ref 99, .int (nI t)] [] E I1 J S Q := by
  obtain ⟨hp, hc, hR, hs, hl⟩ := id hv
  have hT4 := hR.1.1
  have hm := vb hp.1
  have fin : ∀ x y : Int32, (if x = -1 then (-1 : Int32) else x) = x := by
    intro x _
    by_cases c : x = -1
    · rw [if_pos c, c]
    · rw [if_neg c]
  intro m
  induction m with
  | zero =>
    intro t r I1 et t1 f1 er hr h56 h
    apply g276_35
    rw [f1.2 12 (by omega) (by omega) (by omega) (by omega) (by omega), hT, nI_ltI (by omega) (by omega)]
    refine ⟨fun _ => h I1 f1 ?_ ?_ h56 (fun r' e => ?_), fun z => absurd (by omega) z⟩
    · exact (fin _ 0).symm
    · exact (fin _ 0).symm
    · cases e
      exact er
  | succ m ih =>
    intro t r I1 et t1 f1 er hr h56 h
    apply g276_35
    rw [f1.2 12 (by omega) (by omega) (by omega) (by omega) (by omega), hT, nI_ltI (by omega) (by omega)]
    refine ⟨fun z => absurd z (by omega), fun _ => ⟨fun _ => ?_, fun z => absurd h56 z⟩⟩
    have ff : ∀ k, k ≠ 99 → k ≠ 116 → I1 k = I k := fun k a b => f1.1 k (by simp [a, b])
    have hpe : p_eq I I1 := fun k a b => ff k (by omega) (by omega)
    have hh : h_eq I I1 := ⟨hpe, ff 117 (by omega) (by omega), ff 120 (by omega) (by omega), ff 121 (by omega) (by omega), ff 122 (by omega) (by omega), ff 123 (by omega) (by omega)⟩
    have hr1 : r_ok I (I1 116) := r_ok_c hp hr.1 (fun k hk => (er k (by omega)).symm)
    obtain ⟨k, k1, k2⟩ := hr.2.1
    have k2' : I1 116 47 = nI k := by rw [er 47 (by omega)]; exact k2
    have g51 : I1 99 51 = how := by rw [f1.2 51 (by omega) (by omega) (by omega) (by omega) (by omega)]; exact e51'
    have g52 : I1 99 52 = wh := by rw [f1.2 52 (by omega) (by omega) (by omega) (by omega) (by omega)]; exact e52
    have g53 : I1 99 53 = ins := by rw [f1.2 53 (by omega) (by omega) (by omega) (by omega) (by omega)]; exact e53
    have ho1 : k_ok I1 n (I1 99 51) (I1 99 53) := by
      rw [g51, g53]
      obtain ⟨o1, o2, o3⟩ := ho
      refine ⟨o1, fun i hi => ?_, fun q => ?_⟩
      · rw [ff 122 (by omega) (by omega), ff 103 (by omega) (by omega)]; exact o2 i hi
      · rw [ff 103 (by omega) (by omega)]; exact o3 q
    have hL : ∀ z, z < 3 → vp_in (lm I T z) 31 := fun z hz => (hl z hz).2.1
    obtain ⟨X1, X2⟩ := nxr_51 (L := lm I T) (wh := wh) hp ho hr1 k2' (by omega) er
    refine m278 (L := lm I T) ((p_in_e hpe).mpr hp) ((r_ok_e hpe).mpr hr1) k2' (by omega) (by rw [f1.2 12 (by omega) (by omega) (by omega) (by omega) (by omega)]; exact hT) hT4 ?_ ho1 (fun s hs => ⟨?_, hL s hs⟩) (fun s a b => q_mkI ⟨fun _ => ?_, fun z => absurd nI_0 z⟩) (fun s r1 I2 a b p1 p2 p3 => q_mkI ⟨fun z => absurd z (by decide), fun _ => ?_⟩)
    · rw [ff 117 (by omega) (by omega), ← rt_k (I := I) (t := T) (show 47 < 51 by omega)]
      exact hR.2.2.2.1
    · rw [ff 117 (by omega) (by omega), ← rt_k (I := I) (t := T) (show 48 + s < 51 by omega)]
      rfl
    · -- it is stuck
      rw [g51, g52, g53] at a b
      rw [m_tk_e hh] at a
      rw [m_rp_e hh.1 hh.2.2.2.2.2, tk_of a] at b
      have en := X1 b
      have z99 : u_I I1 116 s 99 = I1 99 := u_I_ne (by decide)
      rw [z99]
      intro w4 e4
      rw [nI_subI (by omega), nI_add]
      apply g276_35
      have f2 : rf I (u_I (u_I I1 116 s) 99 (upd (upd (I1 99) 56 (nI (t - 1))) 54 w4)) := by
        refine ⟨fun k hk => ?_, fun f a b c d e => ?_⟩
        · simp only [List.mem_cons, List.not_mem_nil, or_false, not_or] at hk
          rw [u_I_ne hk.1, u_I_ne hk.2, ff k hk.1 hk.2]
        · rw [u_I_eq, upd_ne c, upd_ne e]
          exact f1.2 f a b c d e
      have z56 : u_I (u_I I1 116 s) 99 (upd (upd (I1 99) 56 (nI (t - 1))) 54 w4) 99 56 = nI (t - 1) := by rw [u_I_eq, upd_ne (by omega), upd_eq]
      have t' := h _ f2 (by
          rw [u_I_eq, upd_eq, e4, dfr_n en]) (by
          rw [u_I_eq, upd_ne (by omega), upd_ne (by omega), dgs_n en, fin _ 0]) (by rw [z56, stk_n en]) (fun r' e => by
          rw [run_n en] at e
          exact nomatch e)
      rw [z56]
      exact ⟨fun _ => t', fun _ => ⟨fun z => absurd z (nI_nm (by omega)), fun _ => t'⟩⟩
    · -- one step on
      rw [g51, g52, g53] at a b
      rw [m_tk_e hh] at a
      rw [m_rp_e hh.1 hh.2.2.2.2.2, tk_of a] at b
      obtain ⟨r', es, e51r⟩ := X2 r1 b
      obtain ⟨hr', _⟩ := nxr_ok (j := t - 1) hp hL ho (by omega) hr es
      rw [show t - 1 + 1 = t by omega] at hr'
      have f2 : rf I I2 := ⟨fun k hk => by rw [p2 k hk]; exact f1.1 k hk, fun f a b c d e => by rw [p3 f a b]; exact f1.2 f a b c d e⟩
      have e2 : e51 (I2 116) r' := by rw [p1]; exact e51r
      have q56 : I2 99 56 = -1 := by rw [p3 56 (by omega) (by omega)]; exact h56
      have q55 : I2 99 55 = I1 99 55 := p3 55 (by omega) (by omega)
      have q54 : I2 99 54 = I1 99 54 := p3 54 (by omega) (by omega)
      -- the digests
      have nxt : ∀ I3 : Nat → Nat → Int32, rf I I3 → I3 116 = I2 116 → I3 99 56 = -1 → I3 99 55 = I1 99 55 → (if I3 99 54 = -1 then dfr (nxr I n (lm I T) how wh ins) (rt I) m (t + 1) r' else I3 99 54) = (if I1 99 54 = -1 then dfr (nxr I n (lm I T) how wh ins) (rt I) (m + 1) t r else I1 99 54) → am_ww 276 73 [.ref 99, .int (nI t)] [] E I3 J S Q := by
        intro I3 f3 s116 s56 s55 s54
        have ff3 : ∀ k, k ≠ 99 → k ≠ 116 → I3 k = I k := fun k a b => f3.1 k (by simp [a, b])
        have e3 : e51 (I3 116) r' := by rw [s116]; exact e2
        apply g276_73
        rw [ff3 103 (by omega) (by omega), ept, s55]
        have go : (I1 99 55 = -1 → ¬ t % pt = 0 ∨ dg (I 103 4).toNatClampNeg r' = dg (I 103 4).toNatClampNeg (rt I t)) → am_ww 276 35 [.ref 99, .int (nI (t + 1))] [] E I3 J S Q := by
          intro hd
          refine ih (t + 1) r' I3 (by omega) (by omega) f3 e3 hr' s56 (fun I' a1 a2 a3 a4 a5 => h I' a1 (by rw [a2, s54]) ?_ (by rw [a4, stk_y es]) (fun x e => a5 x (by rw [run_y es] at e; exact e)))
          rw [a3, s55]
          by_cases c : I1 99 55 = -1
          · rw [if_pos c, if_pos c, dgs_y es (hd c)]
          · rw [if_neg c, if_neg c]
        refine ⟨fun c55 => ⟨nI_ne0 (by omega) (by omega), ?_⟩, fun c55 => ?_⟩
        · have hmod := Nat.mod_lt t (show pt > 0 by omega)
          rw [nI_remI (by omega) (by omega), nI_e0 (by omega), nI_add]
          refine ⟨fun cm => ?_, fun cm => go (fun _ => Or.inl cm)⟩
          have hpe3 : p_eq I I3 := fun k a b => ff3 k (by omega) (by omega)
          have er3 : rt I3 = rt I := rt_e (ff3 117 (by omega) (by omega))
          have ed : dg (I3 103 4).toNatClampNeg (I3 116) = dg (I 103 4).toNatClampNeg r' := by
            rw [ff3 103 (by omega) (by omega)]
            exact dg_c (by omega) (e51_c e3)
          refine m281 ((p_in_e hpe3).mpr hp) (q_mkI ?_)
          refine m248 ((p_in_e hpe3).mpr hp) (by omega) (q_mkI ?_)
          rw [ed, er3, ff3 103 (by omega) (by omega), ept]
          refine ⟨fun y => go (fun _ => Or.inr y), fun y => ⟨nI_ne0 (by omega) (by omega), ?_⟩⟩
          have dl : t / pt ≤ t := Nat.div_le_self _ _
          have dp : 1 ≤ t / pt := by
            have := Nat.div_add_mod t pt
            rcases Nat.eq_zero_or_pos (t / pt) with z | z
            · rw [z, Nat.mul_zero] at this; omega
            · exact z
          rw [nI_divI (by omega) (by omega), nI_subI dp]
          refine ih (t + 1) r' _ (by omega) (by omega) ⟨fun k hk => ?_, fun f a b c d e => ?_⟩ ?_ hr' ?_ (fun I' a1 a2 a3 a4 a5 => h I' a1 ?_ ?_ (by rw [a4, stk_y es]) (fun x e => a5 x (by rw [run_y es] at e; exact e)))
          · rw [u_I_ne (fun q => hk (by simp [q]))]; exact f3.1 k hk
          · rw [u_I_eq, upd_ne d]; exact f3.2 f a b c d e
          · rw [u_I_ne (by decide)]; exact e3
          · rw [u_I_eq, upd_ne (by omega)]; exact s56
          · rw [a2, u_I_eq, upd_ne (by omega), s54]
          · rw [a3, u_I_eq, upd_eq, if_neg (nI_nm (by omega)), if_pos c55, dgs_d es cm y]
        · rw [nI_add]
          exact go (fun z => absurd z c55)
      rw [q54]
      refine ⟨fun c54 => ?_, fun c54 => nxt I2 f2 rfl q56 q55 (by rw [q54, if_neg c54, if_neg c54])⟩
      have er2 : rt I2 = rt I := rt_e (f2.1 117 (by decide))
      refine m277 (t := t) (by omega) (fun y => q_mkI ⟨fun _ => nxt I2 f2 rfl q56 q55 ?_, fun z => absurd nI_0 z⟩) (fun y => q_mkI ⟨fun z => absurd z (by decide), fun _ => nxt _ ⟨fun k hk => ?_, fun f a b c d e => ?_⟩ ?_ ?_ ?_ ?_⟩)
      · rw [er2] at y
        rw [q54, if_pos c54, if_pos c54, dfr_y es (fun k hk => by rw [← e2 k (by omega)]; exact y k hk)]
      · rw [u_I_ne (fun q => hk (by simp [q]))]; exact f2.1 k hk
      · rw [u_I_eq, upd_ne c]; exact f2.2 f a b c d e
      · rw [u_I_ne (by decide)]
      · rw [u_I_eq, upd_ne (by omega)]; exact q56
      · rw [u_I_eq, upd_ne (by omega)]; exact q55
      · rw [er2] at y
        rw [u_I_eq, upd_eq, if_neg (nI_nm (by omega)), if_pos c54, dfr_d es (fun z => y (fun k hk => by rw [e2 k (by omega)]; exact z k hk))]
